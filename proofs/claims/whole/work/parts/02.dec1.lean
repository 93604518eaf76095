theorem dX10_top_70 : decode cX10_top 70 = .ok (.invokevirtual 170, 3) := by decide +kernel
theorem dX10_top_73 : decode cX10_top 73 = .ok (.ifCond .eq 6, 3) := by decide +kernel
theorem dX10_top_76 : decode cX10_top 76 = .ok (.iload 4, 2) := by decide +kernel
theorem dX10_top_78 : decode cX10_top 78 = .ok (.istore_n 3, 1) := by decide +kernel
theorem dX10_top_79 : decode cX10_top 79 = .ok (.iinc 4 1, 3) := by decide +kernel
theorem dX10_top_82 : decode cX10_top 82 = .ok (.goto (-57), 3) := by decide +kernel
theorem dX10_top_85 : decode cX10_top 85 = .ok (.iload_n 3, 1) := by decide +kernel
theorem dX10_top_86 : decode cX10_top 86 = .ok (.ireturn, 1) := by decide +kernel
theorem dX10_read_0 : decode cX10_read 0 = .ok (.aload_n 0, 1) := by decide +kernel
theorem dX10_read_1 : decode cX10_read 1 = .ok (.getfield 10, 3) := by decide +kernel
theorem dX10_read_4 : decode cX10_read 4 = .ok (.iload_n 1, 1) := by decide +kernel
theorem dX10_read_5 : decode cX10_read 5 = .ok (.invokevirtual 105, 3) := by decide +kernel
theorem dX10_read_8 : decode cX10_read 8 = .ok (.ifCond .eq 14, 3) := by decide +kernel
theorem dX10_read_11 : decode cX10_read 11 = .ok (.aload_n 0, 1) := by decide +kernel
theorem dX10_read_12 : decode cX10_read 12 = .ok (.getfield 10, 3) := by decide +kernel
theorem dX10_read_15 : decode cX10_read 15 = .ok (.iload_n 2, 1) := by decide +kernel
theorem dX10_read_16 : decode cX10_read 16 = .ok (.invokevirtual 118, 3) := by decide +kernel
theorem dX10_read_19 : decode cX10_read 19 = .ok (.ifCond .ne 6, 3) := by decide +kernel
theorem dX10_read_22 : decode cX10_read 22 = .ok (.bipush (-2), 2) := by decide +kernel
theorem dX10_read_24 : decode cX10_read 24 = .ok (.ireturn, 1) := by decide +kernel
theorem dX10_read_25 : decode cX10_read 25 = .ok (.aload_n 0, 1) := by decide +kernel
theorem dX10_read_26 : decode cX10_read 26 = .ok (.invokevirtual 160, 3) := by decide +kernel
theorem dX10_read_29 : decode cX10_read 29 = .ok (.getfield 173, 3) := by decide +kernel
theorem dX10_read_32 : decode cX10_read 32 = .ok (.iload_n 1, 1) := by decide +kernel
theorem dX10_read_33 : decode cX10_read 33 = .ok (.aaload, 1) := by decide +kernel
theorem dX10_read_34 : decode cX10_read 34 = .ok (.iload_n 2, 1) := by decide +kernel
theorem dX10_read_35 : decode cX10_read 35 = .ok (.iaload, 1) := by decide +kernel
theorem dX10_read_36 : decode cX10_read 36 = .ok (.ireturn, 1) := by decide +kernel
theorem dX10_knew_0 : decode cX10_knew 0 = .ok (.aload_n 0, 1) := by decide +kernel
theorem dX10_knew_1 : decode cX10_knew 1 = .ok (.getfield 10, 3) := by decide +kernel
theorem dX10_knew_4 : decode cX10_knew 4 = .ok (.iload_n 1, 1) := by decide +kernel
theorem dX10_knew_5 : decode cX10_knew 5 = .ok (.invokevirtual 105, 3) := by decide +kernel
theorem dX10_knew_8 : decode cX10_knew 8 = .ok (.ifCond .eq 10, 3) := by decide +kernel
theorem dX10_knew_11 : decode cX10_knew 11 = .ok (.iload_n 2, 1) := by decide +kernel
theorem dX10_knew_12 : decode cX10_knew 12 = .ok (.invokestatic 157, 3) := by decide +kernel
theorem dX10_knew_15 : decode cX10_knew 15 = .ok (.ifCond .ne 6, 3) := by decide +kernel
theorem dX10_knew_18 : decode cX10_knew 18 = .ok (.bipush (-2), 2) := by decide +kernel
theorem dX10_knew_20 : decode cX10_knew 20 = .ok (.ireturn, 1) := by decide +kernel
theorem dX10_knew_21 : decode cX10_knew 21 = .ok (.aload_n 0, 1) := by decide +kernel
theorem dX10_knew_22 : decode cX10_knew 22 = .ok (.invokevirtual 160, 3) := by decide +kernel
theorem dX10_knew_25 : decode cX10_knew 25 = .ok (.getfield 177, 3) := by decide +kernel
theorem dX10_knew_28 : decode cX10_knew 28 = .ok (.iload_n 1, 1) := by decide +kernel
theorem dX10_knew_29 : decode cX10_knew 29 = .ok (.aaload, 1) := by decide +kernel
theorem dX10_knew_30 : decode cX10_knew 30 = .ok (.iload_n 2, 1) := by decide +kernel
theorem dX10_knew_31 : decode cX10_knew 31 = .ok (.iaload, 1) := by decide +kernel
theorem dX10_knew_32 : decode cX10_knew 32 = .ok (.ireturn, 1) := by decide +kernel
theorem dX10_done_0 : decode cX10_done 0 = .ok (.iload_n 1, 1) := by decide +kernel
theorem dX10_done_1 : decode cX10_done 1 = .ok (.invokestatic 180, 3) := by decide +kernel
theorem dX10_done_4 : decode cX10_done 4 = .ok (.ifCond .eq 19, 3) := by decide +kernel
theorem dX10_done_7 : decode cX10_done 7 = .ok (.iload_n 2, 1) := by decide +kernel
theorem dX10_done_8 : decode cX10_done 8 = .ok (.iconst (-1), 1) := by decide +kernel
theorem dX10_done_9 : decode cX10_done 9 = .ok (.if_icmp .eq 17, 3) := by decide +kernel
theorem dX10_done_12 : decode cX10_done 12 = .ok (.aload_n 0, 1) := by decide +kernel
theorem dX10_done_13 : decode cX10_done 13 = .ok (.getfield 10, 3) := by decide +kernel
theorem dX10_done_16 : decode cX10_done 16 = .ok (.iload_n 2, 1) := by decide +kernel
theorem dX10_done_17 : decode cX10_done 17 = .ok (.invokevirtual 105, 3) := by decide +kernel
theorem dX10_done_20 : decode cX10_done 20 = .ok (.ifCond .ne 6, 3) := by decide +kernel
theorem dX10_done_23 : decode cX10_done 23 = .ok (.bipush (-2), 2) := by decide +kernel
theorem dX10_done_25 : decode cX10_done 25 = .ok (.ireturn, 1) := by decide +kernel
theorem dX10_done_26 : decode cX10_done 26 = .ok (.aload_n 0, 1) := by decide +kernel
theorem dX10_done_27 : decode cX10_done 27 = .ok (.invokevirtual 160, 3) := by decide +kernel
theorem dX10_done_30 : decode cX10_done 30 = .ok (.astore_n 3, 1) := by decide +kernel
theorem dX10_done_31 : decode cX10_done 31 = .ok (.iload_n 2, 1) := by decide +kernel
theorem dX10_done_32 : decode cX10_done 32 = .ok (.iconst (-1), 1) := by decide +kernel
theorem dX10_done_33 : decode cX10_done 33 = .ok (.if_icmp .ne 12, 3) := by decide +kernel
theorem dX10_done_36 : decode cX10_done 36 = .ok (.aload_n 3, 1) := by decide +kernel
theorem dX10_done_37 : decode cX10_done 37 = .ok (.getfield 183, 3) := by decide +kernel
theorem dX10_done_40 : decode cX10_done 40 = .ok (.iload_n 1, 1) := by decide +kernel
theorem dX10_done_41 : decode cX10_done 41 = .ok (.iaload, 1) := by decide +kernel
theorem dX10_done_42 : decode cX10_done 42 = .ok (.goto 11, 3) := by decide +kernel
theorem dX10_done_45 : decode cX10_done 45 = .ok (.aload_n 3, 1) := by decide +kernel
theorem dX10_done_46 : decode cX10_done 46 = .ok (.getfield 186, 3) := by decide +kernel
theorem dX10_done_49 : decode cX10_done 49 = .ok (.iload_n 1, 1) := by decide +kernel
theorem dX10_done_50 : decode cX10_done 50 = .ok (.aaload, 1) := by decide +kernel
theorem dX10_done_51 : decode cX10_done 51 = .ok (.iload_n 2, 1) := by decide +kernel
theorem dX10_done_52 : decode cX10_done 52 = .ok (.iaload, 1) := by decide +kernel
theorem dX10_done_53 : decode cX10_done 53 = .ok (.ireturn, 1) := by decide +kernel
theorem dX10_when_0 : decode cX10_when 0 = .ok (.iload_n 1, 1) := by decide +kernel
theorem dX10_when_1 : decode cX10_when 1 = .ok (.invokestatic 180, 3) := by decide +kernel
theorem dX10_when_4 : decode cX10_when 4 = .ok (.ifCond .eq 12, 3) := by decide +kernel
theorem dX10_when_7 : decode cX10_when 7 = .ok (.iload_n 2, 1) := by decide +kernel
theorem dX10_when_8 : decode cX10_when 8 = .ok (.ifCond .lt 8, 3) := by decide +kernel
theorem dX10_when_11 : decode cX10_when 11 = .ok (.iload_n 2, 1) := by decide +kernel
theorem dX10_when_12 : decode cX10_when 12 = .ok (.iconst 1, 1) := by decide +kernel
theorem dX10_when_13 : decode cX10_when 13 = .ok (.if_icmp .le 6, 3) := by decide +kernel
theorem dX10_when_16 : decode cX10_when 16 = .ok (.bipush (-2), 2) := by decide +kernel
theorem dX10_when_18 : decode cX10_when 18 = .ok (.ireturn, 1) := by decide +kernel
theorem dX10_when_19 : decode cX10_when 19 = .ok (.aload_n 0, 1) := by decide +kernel
theorem dX10_when_20 : decode cX10_when 20 = .ok (.invokevirtual 160, 3) := by decide +kernel
theorem dX10_when_23 : decode cX10_when 23 = .ok (.astore_n 3, 1) := by decide +kernel
theorem dX10_when_24 : decode cX10_when 24 = .ok (.iload_n 2, 1) := by decide +kernel
theorem dX10_when_25 : decode cX10_when 25 = .ok (.ifCond .ne 12, 3) := by decide +kernel
theorem dX10_when_28 : decode cX10_when 28 = .ok (.aload_n 3, 1) := by decide +kernel
theorem dX10_when_29 : decode cX10_when 29 = .ok (.getfield 189, 3) := by decide +kernel
theorem dX10_when_32 : decode cX10_when 32 = .ok (.iload_n 1, 1) := by decide +kernel
theorem dX10_when_33 : decode cX10_when 33 = .ok (.iaload, 1) := by decide +kernel
theorem dX10_when_34 : decode cX10_when 34 = .ok (.goto 9, 3) := by decide +kernel
theorem dX10_when_37 : decode cX10_when 37 = .ok (.aload_n 3, 1) := by decide +kernel
theorem dX10_when_38 : decode cX10_when 38 = .ok (.getfield 192, 3) := by decide +kernel
theorem dX10_when_41 : decode cX10_when 41 = .ok (.iload_n 1, 1) := by decide +kernel
theorem dX10_when_42 : decode cX10_when 42 = .ok (.iaload, 1) := by decide +kernel
theorem dX10_when_43 : decode cX10_when 43 = .ok (.ireturn, 1) := by decide +kernel
theorem dX10_things_0 : decode cX10_things 0 = .ok (.iload_n 1, 1) := by decide +kernel
theorem dX10_things_1 : decode cX10_things 1 = .ok (.ifCond .lt 8, 3) := by decide +kernel
theorem dX10_things_4 : decode cX10_things 4 = .ok (.iload_n 1, 1) := by decide +kernel
theorem dX10_things_5 : decode cX10_things 5 = .ok (.iconst 1, 1) := by decide +kernel
theorem dX10_things_6 : decode cX10_things 6 = .ok (.if_icmp .le 6, 3) := by decide +kernel
theorem dX10_things_9 : decode cX10_things 9 = .ok (.bipush (-2), 2) := by decide +kernel
theorem dX10_things_11 : decode cX10_things 11 = .ok (.ireturn, 1) := by decide +kernel
theorem dX10_things_12 : decode cX10_things 12 = .ok (.aload_n 0, 1) := by decide +kernel
theorem dX10_things_13 : decode cX10_things 13 = .ok (.invokevirtual 160, 3) := by decide +kernel
theorem dX10_things_16 : decode cX10_things 16 = .ok (.astore_n 2, 1) := by decide +kernel
theorem dX10_things_17 : decode cX10_things 17 = .ok (.iconst 0, 1) := by decide +kernel
theorem dX10_things_18 : decode cX10_things 18 = .ok (.istore_n 3, 1) := by decide +kernel
theorem dX10_things_19 : decode cX10_things 19 = .ok (.iconst 0, 1) := by decide +kernel
theorem dX10_things_20 : decode cX10_things 20 = .ok (.istore 4, 2) := by decide +kernel
theorem dX10_things_22 : decode cX10_things 22 = .ok (.iload 4, 2) := by decide +kernel
theorem dX10_things_24 : decode cX10_things 24 = .ok (.iconst 4, 1) := by decide +kernel
theorem dX10_things_25 : decode cX10_things 25 = .ok (.if_icmp .ge 52, 3) := by decide +kernel
theorem dX10_things_28 : decode cX10_things 28 = .ok (.iload_n 1, 1) := by decide +kernel
theorem dX10_things_29 : decode cX10_things 29 = .ok (.ifCond .ne 12, 3) := by decide +kernel
theorem dX10_things_32 : decode cX10_things 32 = .ok (.aload_n 2, 1) := by decide +kernel
theorem dX10_things_33 : decode cX10_things 33 = .ok (.iload 4, 2) := by decide +kernel
theorem dX10_things_35 : decode cX10_things 35 = .ok (.invokevirtual 195, 3) := by decide +kernel
theorem dX10_things_38 : decode cX10_things 38 = .ok (.goto 19, 3) := by decide +kernel
theorem dX10_things_41 : decode cX10_things 41 = .ok (.aload_n 2, 1) := by decide +kernel
theorem dX10_things_42 : decode cX10_things 42 = .ok (.getfield 183, 3) := by decide +kernel
theorem dX10_things_45 : decode cX10_things 45 = .ok (.iload 4, 2) := by decide +kernel
theorem dX10_things_47 : decode cX10_things 47 = .ok (.iaload, 1) := by decide +kernel
theorem dX10_things_48 : decode cX10_things 48 = .ok (.iconst 1, 1) := by decide +kernel
theorem dX10_things_49 : decode cX10_things 49 = .ok (.if_icmp .le 7, 3) := by decide +kernel
theorem dX10_things_52 : decode cX10_things 52 = .ok (.iconst 1, 1) := by decide +kernel
theorem dX10_things_53 : decode cX10_things 53 = .ok (.goto 4, 3) := by decide +kernel
theorem dX10_things_56 : decode cX10_things 56 = .ok (.iconst 0, 1) := by decide +kernel
theorem dX10_things_57 : decode cX10_things 57 = .ok (.istore 5, 2) := by decide +kernel
theorem dX10_things_59 : decode cX10_things 59 = .ok (.iload 5, 2) := by decide +kernel
theorem dX10_things_61 : decode cX10_things 61 = .ok (.ifCond .eq 10, 3) := by decide +kernel
theorem dX10_things_64 : decode cX10_things 64 = .ok (.iload_n 3, 1) := by decide +kernel
theorem dX10_things_65 : decode cX10_things 65 = .ok (.iconst 1, 1) := by decide +kernel
theorem dX10_things_66 : decode cX10_things 66 = .ok (.iload 4, 2) := by decide +kernel
theorem dX10_things_68 : decode cX10_things 68 = .ok (.ishl, 1) := by decide +kernel
theorem dX10_things_69 : decode cX10_things 69 = .ok (.ior, 1) := by decide +kernel
theorem dX10_things_70 : decode cX10_things 70 = .ok (.istore_n 3, 1) := by decide +kernel
theorem dX10_things_71 : decode cX10_things 71 = .ok (.iinc 4 1, 3) := by decide +kernel
theorem dX10_things_74 : decode cX10_things 74 = .ok (.goto (-52), 3) := by decide +kernel
theorem dX10_things_77 : decode cX10_things 77 = .ok (.iload_n 3, 1) := by decide +kernel
theorem dX10_things_78 : decode cX10_things 78 = .ok (.ireturn, 1) := by decide +kernel
theorem dX10_harm_0 : decode cX10_harm 0 = .ok (.aload_n 0, 1) := by decide +kernel
theorem dX10_harm_1 : decode cX10_harm 1 = .ok (.invokevirtual 160, 3) := by decide +kernel
theorem dX10_harm_4 : decode cX10_harm 4 = .ok (.invokevirtual 198, 3) := by decide +kernel
theorem dX10_harm_7 : decode cX10_harm 7 = .ok (.ireturn, 1) := by decide +kernel
theorem dX10_helps_0 : decode cX10_helps 0 = .ok (.iload_n 1, 1) := by decide +kernel
theorem dX10_helps_1 : decode cX10_helps 1 = .ok (.ifCond .lt 8, 3) := by decide +kernel
theorem dX10_helps_4 : decode cX10_helps 4 = .ok (.iload_n 1, 1) := by decide +kernel
theorem dX10_helps_5 : decode cX10_helps 5 = .ok (.iconst 1, 1) := by decide +kernel
theorem dX10_helps_6 : decode cX10_helps 6 = .ok (.if_icmp .le 6, 3) := by decide +kernel
theorem dX10_helps_9 : decode cX10_helps 9 = .ok (.bipush (-2), 2) := by decide +kernel
theorem dX10_helps_11 : decode cX10_helps 11 = .ok (.ireturn, 1) := by decide +kernel
theorem dX10_helps_12 : decode cX10_helps 12 = .ok (.iconst (-1), 1) := by decide +kernel
theorem dX10_helps_13 : decode cX10_helps 13 = .ok (.istore_n 2, 1) := by decide +kernel
theorem dX10_helps_14 : decode cX10_helps 14 = .ok (.iconst (-1), 1) := by decide +kernel
theorem dX10_helps_15 : decode cX10_helps 15 = .ok (.istore_n 3, 1) := by decide +kernel
theorem dX10_helps_16 : decode cX10_helps 16 = .ok (.iconst 0, 1) := by decide +kernel
theorem dX10_helps_17 : decode cX10_helps 17 = .ok (.istore 4, 2) := by decide +kernel
theorem dX10_helps_19 : decode cX10_helps 19 = .ok (.iload 4, 2) := by decide +kernel
theorem dX10_helps_21 : decode cX10_helps 21 = .ok (.aload_n 0, 1) := by decide +kernel
theorem dX10_helps_22 : decode cX10_helps 22 = .ok (.getfield 10, 3) := by decide +kernel
theorem dX10_helps_25 : decode cX10_helps 25 = .ok (.getfield 201, 3) := by decide +kernel
theorem dX10_helps_28 : decode cX10_helps 28 = .ok (.if_icmp .ge 36, 3) := by decide +kernel
theorem dX10_helps_31 : decode cX10_helps 31 = .ok (.aload_n 0, 1) := by decide +kernel
theorem dX10_helps_32 : decode cX10_helps 32 = .ok (.iload 4, 2) := by decide +kernel
theorem dX10_helps_34 : decode cX10_helps 34 = .ok (.bipush 12, 2) := by decide +kernel
theorem dX10_helps_36 : decode cX10_helps 36 = .ok (.invokevirtual 204, 3) := by decide +kernel
theorem dX10_helps_39 : decode cX10_helps 39 = .ok (.istore 5, 2) := by decide +kernel
theorem dX10_helps_41 : decode cX10_helps 41 = .ok (.iload_n 2, 1) := by decide +kernel
theorem dX10_helps_42 : decode cX10_helps 42 = .ok (.iconst (-1), 1) := by decide +kernel
theorem dX10_helps_43 : decode cX10_helps 43 = .ok (.if_icmp .eq 9, 3) := by decide +kernel
theorem dX10_helps_46 : decode cX10_helps 46 = .ok (.iload 5, 2) := by decide +kernel
theorem dX10_helps_48 : decode cX10_helps 48 = .ok (.iload_n 3, 1) := by decide +kernel
theorem dX10_helps_49 : decode cX10_helps 49 = .ok (.if_icmp .ge 9, 3) := by decide +kernel
theorem dX10_helps_52 : decode cX10_helps 52 = .ok (.iload 4, 2) := by decide +kernel
theorem dX10_helps_54 : decode cX10_helps 54 = .ok (.istore_n 2, 1) := by decide +kernel
theorem dX10_helps_55 : decode cX10_helps 55 = .ok (.iload 5, 2) := by decide +kernel
theorem dX10_helps_57 : decode cX10_helps 57 = .ok (.istore_n 3, 1) := by decide +kernel
theorem dX10_helps_58 : decode cX10_helps 58 = .ok (.iinc 4 1, 3) := by decide +kernel
theorem dX10_helps_61 : decode cX10_helps 61 = .ok (.goto (-42), 3) := by decide +kernel
theorem dX10_helps_64 : decode cX10_helps 64 = .ok (.iload_n 1, 1) := by decide +kernel
theorem dX10_helps_65 : decode cX10_helps 65 = .ok (.ifCond .ne 7, 3) := by decide +kernel
theorem dX10_helps_68 : decode cX10_helps 68 = .ok (.iload_n 2, 1) := by decide +kernel
theorem dX10_helps_69 : decode cX10_helps 69 = .ok (.goto 4, 3) := by decide +kernel
theorem dX10_helps_72 : decode cX10_helps 72 = .ok (.iload_n 3, 1) := by decide +kernel
theorem dX10_helps_73 : decode cX10_helps 73 = .ok (.ireturn, 1) := by decide +kernel
theorem dX10_once_0 : decode cX10_once 0 = .ok (.aload_n 0, 1) := by decide +kernel
theorem dX10_once_1 : decode cX10_once 1 = .ok (.getfield 10, 3) := by decide +kernel
theorem dX10_once_4 : decode cX10_once 4 = .ok (.iload_n 1, 1) := by decide +kernel
theorem dX10_once_5 : decode cX10_once 5 = .ok (.invokevirtual 118, 3) := by decide +kernel
theorem dX10_once_8 : decode cX10_once 8 = .ok (.ifCond .ne 6, 3) := by decide +kernel
theorem dX10_once_11 : decode cX10_once 11 = .ok (.bipush (-2), 2) := by decide +kernel
theorem dX10_once_13 : decode cX10_once 13 = .ok (.ireturn, 1) := by decide +kernel
theorem dX10_once_14 : decode cX10_once 14 = .ok (.aload_n 0, 1) := by decide +kernel
theorem dX10_once_15 : decode cX10_once 15 = .ok (.getfield 10, 3) := by decide +kernel
theorem dX10_once_18 : decode cX10_once 18 = .ok (.getfield 121, 3) := by decide +kernel
theorem dX10_once_21 : decode cX10_once 21 = .ok (.iload_n 1, 1) := by decide +kernel
theorem dX10_once_22 : decode cX10_once 22 = .ok (.aaload, 1) := by decide +kernel
theorem dX10_once_23 : decode cX10_once 23 = .ok (.astore_n 2, 1) := by decide +kernel
theorem dX10_once_24 : decode cX10_once 24 = .ok (.aload_n 2, 1) := by decide +kernel
theorem dX10_once_25 : decode cX10_once 25 = .ok (.getfield 130, 3) := by decide +kernel
theorem dX10_once_28 : decode cX10_once 28 = .ok (.istore_n 3, 1) := by decide +kernel
theorem dX10_once_29 : decode cX10_once 29 = .ok (.iconst (-1), 1) := by decide +kernel
theorem dX10_once_30 : decode cX10_once 30 = .ok (.istore 4, 2) := by decide +kernel
theorem dX10_once_32 : decode cX10_once 32 = .ok (.bipush 47, 2) := by decide +kernel
theorem dX10_once_34 : decode cX10_once 34 = .ok (.istore 5, 2) := by decide +kernel
theorem dX10_once_36 : decode cX10_once 36 = .ok (.iload 5, 2) := by decide +kernel
theorem dX10_once_38 : decode cX10_once 38 = .ok (.ifCond .lt 48, 3) := by decide +kernel
theorem dX10_once_41 : decode cX10_once 41 = .ok (.iload 4, 2) := by decide +kernel
theorem dX10_once_43 : decode cX10_once 43 = .ok (.iconst (-1), 1) := by decide +kernel
theorem dX10_once_44 : decode cX10_once 44 = .ok (.if_icmp .ne 42, 3) := by decide +kernel
theorem dX10_once_47 : decode cX10_once 47 = .ok (.aload_n 2, 1) := by decide +kernel
theorem dX10_once_48 : decode cX10_once 48 = .ok (.iload 5, 2) := by decide +kernel
theorem dX10_once_50 : decode cX10_once 50 = .ok (.putfield 130, 3) := by decide +kernel
theorem dX10_once_53 : decode cX10_once 53 = .ok (.aload_n 0, 1) := by decide +kernel
theorem dX10_once_54 : decode cX10_once 54 = .ok (.getfield 21, 3) := by decide +kernel
theorem dX10_once_57 : decode cX10_once 57 = .ok (.invokevirtual 207, 3) := by decide +kernel
theorem dX10_once_60 : decode cX10_once 60 = .ok (.aload_n 0, 1) := by decide +kernel
theorem dX10_once_61 : decode cX10_once 61 = .ok (.getfield 21, 3) := by decide +kernel
theorem dX10_once_64 : decode cX10_once 64 = .ok (.getfield 183, 3) := by decide +kernel
theorem dX10_once_67 : decode cX10_once 67 = .ok (.aload_n 2, 1) := by decide +kernel
theorem dX10_once_68 : decode cX10_once 68 = .ok (.getfield 133, 3) := by decide +kernel
theorem dX10_once_71 : decode cX10_once 71 = .ok (.iaload, 1) := by decide +kernel
theorem dX10_once_72 : decode cX10_once 72 = .ok (.iconst 1, 1) := by decide +kernel
theorem dX10_once_73 : decode cX10_once 73 = .ok (.if_icmp .ne 7, 3) := by decide +kernel
theorem dX10_once_76 : decode cX10_once 76 = .ok (.iload 5, 2) := by decide +kernel
theorem dX10_once_78 : decode cX10_once 78 = .ok (.istore 4, 2) := by decide +kernel
theorem dX10_once_80 : decode cX10_once 80 = .ok (.iinc 5 (-1), 3) := by decide +kernel
theorem dX10_once_83 : decode cX10_once 83 = .ok (.goto (-47), 3) := by decide +kernel
theorem dX10_once_86 : decode cX10_once 86 = .ok (.aload_n 2, 1) := by decide +kernel
theorem dX10_once_87 : decode cX10_once 87 = .ok (.iload_n 3, 1) := by decide +kernel
theorem dX10_once_88 : decode cX10_once 88 = .ok (.putfield 130, 3) := by decide +kernel
theorem dX10_once_91 : decode cX10_once 91 = .ok (.aload_n 0, 1) := by decide +kernel
theorem dX10_once_92 : decode cX10_once 92 = .ok (.getfield 21, 3) := by decide +kernel
theorem dX10_once_95 : decode cX10_once 95 = .ok (.iconst 1, 1) := by decide +kernel
theorem dX10_once_96 : decode cX10_once 96 = .ok (.putfield 93, 3) := by decide +kernel
theorem dX10_once_99 : decode cX10_once 99 = .ok (.iload 4, 2) := by decide +kernel
theorem dX10_once_101 : decode cX10_once 101 = .ok (.ireturn, 1) := by decide +kernel
theorem dX10_whose_0 : decode cX10_whose 0 = .ok (.aload_n 0, 1) := by decide +kernel
theorem dX10_whose_1 : decode cX10_whose 1 = .ok (.getfield 10, 3) := by decide +kernel
theorem dX10_whose_4 : decode cX10_whose 4 = .ok (.iload_n 1, 1) := by decide +kernel
theorem dX10_whose_5 : decode cX10_whose 5 = .ok (.invokevirtual 105, 3) := by decide +kernel
theorem dX10_whose_8 : decode cX10_whose 8 = .ok (.ifCond .eq 14, 3) := by decide +kernel
theorem dX10_whose_11 : decode cX10_whose 11 = .ok (.iload_n 2, 1) := by decide +kernel
theorem dX10_whose_12 : decode cX10_whose 12 = .ok (.ifCond .lt 10, 3) := by decide +kernel
theorem dX10_whose_15 : decode cX10_whose 15 = .ok (.iload_n 2, 1) := by decide +kernel
theorem dX10_whose_16 : decode cX10_whose 16 = .ok (.sipush 9999, 3) := by decide +kernel
theorem dX10_whose_19 : decode cX10_whose 19 = .ok (.if_icmp .le 6, 3) := by decide +kernel
theorem dX10_whose_22 : decode cX10_whose 22 = .ok (.bipush (-2), 2) := by decide +kernel
theorem dX10_whose_24 : decode cX10_whose 24 = .ok (.ireturn, 1) := by decide +kernel
theorem dX10_whose_25 : decode cX10_whose 25 = .ok (.iconst 0, 1) := by decide +kernel
theorem dX10_whose_26 : decode cX10_whose 26 = .ok (.istore_n 3, 1) := by decide +kernel
theorem dX10_whose_27 : decode cX10_whose 27 = .ok (.iload_n 3, 1) := by decide +kernel
theorem dX10_whose_28 : decode cX10_whose 28 = .ok (.bipush 12, 2) := by decide +kernel
theorem dX10_whose_30 : decode cX10_whose 30 = .ok (.if_icmp .gt 21, 3) := by decide +kernel
theorem dX10_whose_33 : decode cX10_whose 33 = .ok (.aload_n 0, 1) := by decide +kernel
theorem dX10_whose_34 : decode cX10_whose 34 = .ok (.iload_n 1, 1) := by decide +kernel
theorem dX10_whose_35 : decode cX10_whose 35 = .ok (.iload_n 3, 1) := by decide +kernel
theorem dX10_whose_36 : decode cX10_whose 36 = .ok (.invokevirtual 204, 3) := by decide +kernel
theorem dX10_whose_39 : decode cX10_whose 39 = .ok (.iload_n 2, 1) := by decide +kernel
theorem dX10_whose_40 : decode cX10_whose 40 = .ok (.if_icmp .gt 5, 3) := by decide +kernel
theorem dX10_whose_43 : decode cX10_whose 43 = .ok (.iload_n 3, 1) := by decide +kernel
theorem dX10_whose_44 : decode cX10_whose 44 = .ok (.ireturn, 1) := by decide +kernel
theorem dX10_whose_45 : decode cX10_whose 45 = .ok (.iinc 3 1, 3) := by decide +kernel
theorem dX10_whose_48 : decode cX10_whose 48 = .ok (.goto (-21), 3) := by decide +kernel
theorem dX10_whose_51 : decode cX10_whose 51 = .ok (.iconst (-1), 1) := by decide +kernel
theorem dX10_whose_52 : decode cX10_whose 52 = .ok (.ireturn, 1) := by decide +kernel
theorem dX10_mark_0 : decode cX10_mark 0 = .ok (.aload_n 0, 1) := by decide +kernel
theorem dX10_mark_1 : decode cX10_mark 1 = .ok (.getfield 10, 3) := by decide +kernel
theorem dX10_mark_4 : decode cX10_mark 4 = .ok (.iload_n 1, 1) := by decide +kernel
theorem dX10_mark_5 : decode cX10_mark 5 = .ok (.invokevirtual 118, 3) := by decide +kernel
theorem dX10_mark_8 : decode cX10_mark 8 = .ok (.ifCond .eq 19, 3) := by decide +kernel
theorem dX10_mark_11 : decode cX10_mark 11 = .ok (.aload_n 0, 1) := by decide +kernel
theorem dX10_mark_12 : decode cX10_mark 12 = .ok (.getfield 10, 3) := by decide +kernel
theorem dX10_mark_15 : decode cX10_mark 15 = .ok (.iload_n 2, 1) := by decide +kernel
theorem dX10_mark_16 : decode cX10_mark 16 = .ok (.invokevirtual 118, 3) := by decide +kernel
theorem dX10_mark_19 : decode cX10_mark 19 = .ok (.ifCond .eq 8, 3) := by decide +kernel
theorem dX10_mark_22 : decode cX10_mark 22 = .ok (.iload_n 1, 1) := by decide +kernel
theorem dX10_mark_23 : decode cX10_mark 23 = .ok (.iload_n 2, 1) := by decide +kernel
theorem dX10_mark_24 : decode cX10_mark 24 = .ok (.if_icmp .ne 6, 3) := by decide +kernel
theorem dX10_mark_27 : decode cX10_mark 27 = .ok (.bipush (-2), 2) := by decide +kernel
theorem dX10_mark_29 : decode cX10_mark 29 = .ok (.ireturn, 1) := by decide +kernel
theorem dX10_mark_30 : decode cX10_mark 30 = .ok (.aload_n 0, 1) := by decide +kernel
theorem dX10_mark_31 : decode cX10_mark 31 = .ok (.getfield 35, 3) := by decide +kernel
theorem dX10_mark_34 : decode cX10_mark 34 = .ok (.iload_n 1, 1) := by decide +kernel
theorem dX10_mark_35 : decode cX10_mark 35 = .ok (.iload_n 2, 1) := by decide +kernel
theorem dX10_mark_36 : decode cX10_mark 36 = .ok (.invokevirtual 210, 3) := by decide +kernel
theorem dX10_mark_39 : decode cX10_mark 39 = .ok (.ifCond .eq 13, 3) := by decide +kernel
theorem dX10_mark_42 : decode cX10_mark 42 = .ok (.aload_n 0, 1) := by decide +kernel
theorem dX10_mark_43 : decode cX10_mark 43 = .ok (.getfield 35, 3) := by decide +kernel
theorem dX10_mark_46 : decode cX10_mark 46 = .ok (.getfield 213, 3) := by decide +kernel
theorem dX10_mark_49 : decode cX10_mark 49 = .ok (.goto 5, 3) := by decide +kernel
theorem dX10_mark_52 : decode cX10_mark 52 = .ok (.bipush (-4), 2) := by decide +kernel
theorem dX10_mark_54 : decode cX10_mark 54 = .ok (.ireturn, 1) := by decide +kernel
theorem dX10_orders_0 : decode cX10_orders 0 = .ok (.aload_n 0, 1) := by decide +kernel
theorem dX10_orders_1 : decode cX10_orders 1 = .ok (.getfield 35, 3) := by decide +kernel
theorem dX10_orders_4 : decode cX10_orders 4 = .ok (.aload_n 0, 1) := by decide +kernel
theorem dX10_orders_5 : decode cX10_orders 5 = .ok (.getfield 10, 3) := by decide +kernel
theorem dX10_orders_8 : decode cX10_orders 8 = .ok (.getfield 167, 3) := by decide +kernel
theorem dX10_orders_11 : decode cX10_orders 11 = .ok (.iconst (-1), 1) := by decide +kernel
theorem dX10_orders_12 : decode cX10_orders 12 = .ok (.iconst (-1), 1) := by decide +kernel
theorem dX10_orders_13 : decode cX10_orders 13 = .ok (.invokevirtual 214, 3) := by decide +kernel
theorem dX10_orders_16 : decode cX10_orders 16 = .ok (.i2l, 1) := by decide +kernel
theorem dX10_orders_17 : decode cX10_orders 17 = .ok (.lreturn, 1) := by decide +kernel
theorem dX10_odds_0 : decode cX10_odds 0 = .ok (.aload_n 0, 1) := by decide +kernel
theorem dX10_odds_1 : decode cX10_odds 1 = .ok (.getfield 10, 3) := by decide +kernel
theorem dX10_odds_4 : decode cX10_odds 4 = .ok (.iload_n 1, 1) := by decide +kernel
theorem dX10_odds_5 : decode cX10_odds 5 = .ok (.invokevirtual 118, 3) := by decide +kernel
theorem dX10_odds_8 : decode cX10_odds 8 = .ok (.ifCond .eq 32, 3) := by decide +kernel
theorem dX10_odds_11 : decode cX10_odds 11 = .ok (.aload_n 0, 1) := by decide +kernel
theorem dX10_odds_12 : decode cX10_odds 12 = .ok (.getfield 10, 3) := by decide +kernel
theorem dX10_odds_15 : decode cX10_odds 15 = .ok (.iload_n 2, 1) := by decide +kernel
theorem dX10_odds_16 : decode cX10_odds 16 = .ok (.invokevirtual 118, 3) := by decide +kernel
theorem dX10_odds_19 : decode cX10_odds 19 = .ok (.ifCond .eq 21, 3) := by decide +kernel
theorem dX10_odds_22 : decode cX10_odds 22 = .ok (.iload_n 1, 1) := by decide +kernel
theorem dX10_odds_23 : decode cX10_odds 23 = .ok (.iload_n 2, 1) := by decide +kernel
theorem dX10_odds_24 : decode cX10_odds 24 = .ok (.if_icmp .eq 16, 3) := by decide +kernel
theorem dX10_odds_27 : decode cX10_odds 27 = .ok (.iload_n 3, 1) := by decide +kernel
theorem dX10_odds_28 : decode cX10_odds 28 = .ok (.ifCond .lt 12, 3) := by decide +kernel
theorem dX10_odds_31 : decode cX10_odds 31 = .ok (.iload_n 3, 1) := by decide +kernel
theorem dX10_odds_32 : decode cX10_odds 32 = .ok (.iconst 1, 1) := by decide +kernel
theorem dX10_odds_33 : decode cX10_odds 33 = .ok (.if_icmp .gt 7, 3) := by decide +kernel
theorem dX10_odds_36 : decode cX10_odds 36 = .ok (.iconst 1, 1) := by decide +kernel
theorem dX10_odds_37 : decode cX10_odds 37 = .ok (.goto 4, 3) := by decide +kernel
theorem dX10_odds_40 : decode cX10_odds 40 = .ok (.iconst 0, 1) := by decide +kernel
theorem dX10_odds_41 : decode cX10_odds 41 = .ok (.istore 4, 2) := by decide +kernel
theorem dX10_odds_43 : decode cX10_odds 43 = .ok (.iload 4, 2) := by decide +kernel
theorem dX10_odds_45 : decode cX10_odds 45 = .ok (.ifCond .ne 7, 3) := by decide +kernel
theorem dX10_odds_48 : decode cX10_odds 48 = .ok (.ldc2_w 217, 3) := by decide +kernel
theorem dX10_odds_51 : decode cX10_odds 51 = .ok (.lreturn, 1) := by decide +kernel
theorem dX10_odds_52 : decode cX10_odds 52 = .ok (.aload_n 0, 1) := by decide +kernel
theorem dX10_odds_53 : decode cX10_odds 53 = .ok (.getfield 35, 3) := by decide +kernel
theorem dX10_odds_56 : decode cX10_odds 56 = .ok (.aload_n 0, 1) := by decide +kernel
theorem dX10_odds_57 : decode cX10_odds 57 = .ok (.getfield 10, 3) := by decide +kernel
theorem dX10_odds_60 : decode cX10_odds 60 = .ok (.getfield 167, 3) := by decide +kernel
theorem dX10_odds_63 : decode cX10_odds 63 = .ok (.iconst (-1), 1) := by decide +kernel
theorem dX10_odds_64 : decode cX10_odds 64 = .ok (.iconst (-1), 1) := by decide +kernel
theorem dX10_odds_65 : decode cX10_odds 65 = .ok (.invokevirtual 214, 3) := by decide +kernel
theorem dX10_odds_68 : decode cX10_odds 68 = .ok (.istore 5, 2) := by decide +kernel
theorem dX10_odds_70 : decode cX10_odds 70 = .ok (.iload 5, 2) := by decide +kernel
theorem dX10_odds_72 : decode cX10_odds 72 = .ok (.iconst 1, 1) := by decide +kernel
theorem dX10_odds_73 : decode cX10_odds 73 = .ok (.if_icmp .ge 6, 3) := by decide +kernel
theorem dX10_odds_76 : decode cX10_odds 76 = .ok (.iload_n 3, 1) := by decide +kernel
theorem dX10_odds_77 : decode cX10_odds 77 = .ok (.i2l, 1) := by decide +kernel
theorem dX10_odds_78 : decode cX10_odds 78 = .ok (.lreturn, 1) := by decide +kernel
theorem dX10_odds_79 : decode cX10_odds 79 = .ok (.aload_n 0, 1) := by decide +kernel
theorem dX10_odds_80 : decode cX10_odds 80 = .ok (.getfield 35, 3) := by decide +kernel
theorem dX10_odds_83 : decode cX10_odds 83 = .ok (.aload_n 0, 1) := by decide +kernel
theorem dX10_odds_84 : decode cX10_odds 84 = .ok (.getfield 10, 3) := by decide +kernel
theorem dX10_odds_87 : decode cX10_odds 87 = .ok (.getfield 167, 3) := by decide +kernel
theorem dX10_odds_90 : decode cX10_odds 90 = .ok (.iload_n 1, 1) := by decide +kernel
theorem dX10_odds_91 : decode cX10_odds 91 = .ok (.iload_n 2, 1) := by decide +kernel
theorem dX10_odds_92 : decode cX10_odds 92 = .ok (.invokevirtual 214, 3) := by decide +kernel
theorem dX10_odds_95 : decode cX10_odds 95 = .ok (.istore 6, 2) := by decide +kernel
theorem dX10_odds_97 : decode cX10_odds 97 = .ok (.iload 5, 2) := by decide +kernel
theorem dX10_odds_99 : decode cX10_odds 99 = .ok (.iload 6, 2) := by decide +kernel
theorem dX10_odds_101 : decode cX10_odds 101 = .ok (.invokestatic 219, 3) := by decide +kernel
theorem dX10_odds_104 : decode cX10_odds 104 = .ok (.istore 7, 2) := by decide +kernel
theorem dX10_odds_106 : decode cX10_odds 106 = .ok (.iload 7, 2) := by decide +kernel
theorem dX10_odds_108 : decode cX10_odds 108 = .ok (.iconst 1, 1) := by decide +kernel
theorem dX10_odds_109 : decode cX10_odds 109 = .ok (.if_icmp .ge 7, 3) := by decide +kernel
theorem dX10_odds_112 : decode cX10_odds 112 = .ok (.ldc2_w 217, 3) := by decide +kernel
theorem dX10_odds_115 : decode cX10_odds 115 = .ok (.lreturn, 1) := by decide +kernel
theorem dX10_odds_116 : decode cX10_odds 116 = .ok (.iload_n 3, 1) := by decide +kernel
theorem dX10_odds_117 : decode cX10_odds 117 = .ok (.ifCond .ne 12, 3) := by decide +kernel
theorem dX10_odds_120 : decode cX10_odds 120 = .ok (.iload 6, 2) := by decide +kernel
theorem dX10_odds_122 : decode cX10_odds 122 = .ok (.iload 7, 2) := by decide +kernel
theorem dX10_odds_124 : decode cX10_odds 124 = .ok (.idiv, 1) := by decide +kernel
theorem dX10_odds_125 : decode cX10_odds 125 = .ok (.i2l, 1) := by decide +kernel
theorem dX10_odds_126 : decode cX10_odds 126 = .ok (.goto 9, 3) := by decide +kernel
theorem dX10_odds_129 : decode cX10_odds 129 = .ok (.iload 5, 2) := by decide +kernel
theorem dX10_odds_131 : decode cX10_odds 131 = .ok (.iload 7, 2) := by decide +kernel
theorem dX10_odds_133 : decode cX10_odds 133 = .ok (.idiv, 1) := by decide +kernel
theorem dX10_odds_134 : decode cX10_odds 134 = .ok (.i2l, 1) := by decide +kernel
theorem dX10_odds_135 : decode cX10_odds 135 = .ok (.lreturn, 1) := by decide +kernel
theorem dX10_place_0 : decode cX10_place 0 = .ok (.aload_n 0, 1) := by decide +kernel
theorem dX10_place_1 : decode cX10_place 1 = .ok (.getfield 10, 3) := by decide +kernel
theorem dX10_place_4 : decode cX10_place 4 = .ok (.iload_n 1, 1) := by decide +kernel
theorem dX10_place_5 : decode cX10_place 5 = .ok (.invokevirtual 118, 3) := by decide +kernel
theorem dX10_place_8 : decode cX10_place 8 = .ok (.ifCond .eq 12, 3) := by decide +kernel
theorem dX10_place_11 : decode cX10_place 11 = .ok (.iload_n 2, 1) := by decide +kernel
theorem dX10_place_12 : decode cX10_place 12 = .ok (.ifCond .lt 8, 3) := by decide +kernel
theorem dX10_place_15 : decode cX10_place 15 = .ok (.iload_n 2, 1) := by decide +kernel
theorem dX10_place_16 : decode cX10_place 16 = .ok (.iconst 1, 1) := by decide +kernel
theorem dX10_place_17 : decode cX10_place 17 = .ok (.if_icmp .le 6, 3) := by decide +kernel
theorem dX10_place_20 : decode cX10_place 20 = .ok (.bipush (-2), 2) := by decide +kernel
theorem dX10_place_22 : decode cX10_place 22 = .ok (.ireturn, 1) := by decide +kernel
theorem dX10_place_23 : decode cX10_place 23 = .ok (.aload_n 0, 1) := by decide +kernel
theorem dX10_place_24 : decode cX10_place 24 = .ok (.getfield 35, 3) := by decide +kernel
theorem dX10_place_27 : decode cX10_place 27 = .ok (.aload_n 0, 1) := by decide +kernel
theorem dX10_place_28 : decode cX10_place 28 = .ok (.getfield 10, 3) := by decide +kernel
theorem dX10_place_31 : decode cX10_place 31 = .ok (.getfield 167, 3) := by decide +kernel
theorem dX10_place_34 : decode cX10_place 34 = .ok (.iconst (-1), 1) := by decide +kernel
theorem dX10_place_35 : decode cX10_place 35 = .ok (.iconst (-1), 1) := by decide +kernel
theorem dX10_place_36 : decode cX10_place 36 = .ok (.invokevirtual 214, 3) := by decide +kernel
theorem dX10_place_39 : decode cX10_place 39 = .ok (.iconst 1, 1) := by decide +kernel
theorem dX10_place_40 : decode cX10_place 40 = .ok (.if_icmp .ge 5, 3) := by decide +kernel
theorem dX10_place_43 : decode cX10_place 43 = .ok (.iconst (-1), 1) := by decide +kernel
theorem dX10_place_44 : decode cX10_place 44 = .ok (.ireturn, 1) := by decide +kernel
theorem dX10_place_45 : decode cX10_place 45 = .ok (.aload_n 0, 1) := by decide +kernel
theorem dX10_place_46 : decode cX10_place 46 = .ok (.getfield 35, 3) := by decide +kernel
theorem dX10_place_49 : decode cX10_place 49 = .ok (.aload_n 0, 1) := by decide +kernel
theorem dX10_place_50 : decode cX10_place 50 = .ok (.getfield 10, 3) := by decide +kernel
theorem dX10_place_53 : decode cX10_place 53 = .ok (.getfield 167, 3) := by decide +kernel
theorem dX10_place_56 : decode cX10_place 56 = .ok (.iload_n 1, 1) := by decide +kernel
theorem dX10_place_57 : decode cX10_place 57 = .ok (.iload_n 2, 1) := by decide +kernel
theorem dX10_place_58 : decode cX10_place 58 = .ok (.iconst 1, 1) := by decide +kernel
theorem dX10_place_59 : decode cX10_place 59 = .ok (.if_icmp .ne 7, 3) := by decide +kernel
theorem dX10_place_62 : decode cX10_place 62 = .ok (.iconst 1, 1) := by decide +kernel
theorem dX10_place_63 : decode cX10_place 63 = .ok (.goto 4, 3) := by decide +kernel
theorem dX10_place_66 : decode cX10_place 66 = .ok (.iconst 0, 1) := by decide +kernel
theorem dX10_place_67 : decode cX10_place 67 = .ok (.invokevirtual 222, 3) := by decide +kernel
theorem dX10_place_70 : decode cX10_place 70 = .ok (.ireturn, 1) := by decide +kernel
theorem dX10_came_0 : decode cX10_came 0 = .ok (.iload_n 1, 1) := by decide +kernel
theorem dX10_came_1 : decode cX10_came 1 = .ok (.invokestatic 226, 3) := by decide +kernel
theorem dX10_came_4 : decode cX10_came 4 = .ok (.ifCond .ne 6, 3) := by decide +kernel
theorem dX10_came_7 : decode cX10_came 7 = .ok (.bipush (-2), 2) := by decide +kernel
theorem dX10_came_9 : decode cX10_came 9 = .ok (.ireturn, 1) := by decide +kernel
theorem dX10_came_10 : decode cX10_came 10 = .ok (.aload_n 0, 1) := by decide +kernel
theorem dX10_came_11 : decode cX10_came 11 = .ok (.getfield 48, 3) := by decide +kernel
theorem dX10_came_14 : decode cX10_came 14 = .ok (.iload_n 1, 1) := by decide +kernel
theorem dX10_came_15 : decode cX10_came 15 = .ok (.aaload, 1) := by decide +kernel
theorem dX10_came_16 : decode cX10_came 16 = .ok (.astore_n 2, 1) := by decide +kernel
theorem dX10_came_17 : decode cX10_came 17 = .ok (.aload_n 2, 1) := by decide +kernel
theorem dX10_came_18 : decode cX10_came 18 = .ok (.invokevirtual 229, 3) := by decide +kernel
theorem dX10_came_21 : decode cX10_came 21 = .ok (.ifCond .eq 6, 3) := by decide +kernel
theorem dX10_came_24 : decode cX10_came 24 = .ok (.bipush (-11), 2) := by decide +kernel
theorem dX10_came_26 : decode cX10_came 26 = .ok (.ireturn, 1) := by decide +kernel
theorem dX10_came_27 : decode cX10_came 27 = .ok (.aload_n 2, 1) := by decide +kernel
theorem dX10_came_28 : decode cX10_came 28 = .ok (.getfield 233, 3) := by decide +kernel
theorem dX10_came_31 : decode cX10_came 31 = .ok (.iconst 1, 1) := by decide +kernel
theorem dX10_came_32 : decode cX10_came 32 = .ok (.if_icmp .ge 6, 3) := by decide +kernel
theorem dX10_came_35 : decode cX10_came 35 = .ok (.bipush (-2), 2) := by decide +kernel
theorem dX10_came_37 : decode cX10_came 37 = .ok (.ireturn, 1) := by decide +kernel
theorem dX10_came_38 : decode cX10_came 38 = .ok (.iconst 0, 1) := by decide +kernel
theorem dX10_came_39 : decode cX10_came 39 = .ok (.istore_n 3, 1) := by decide +kernel
theorem dX10_came_40 : decode cX10_came 40 = .ok (.iload_n 3, 1) := by decide +kernel
theorem dX10_came_41 : decode cX10_came 41 = .ok (.aload_n 2, 1) := by decide +kernel
theorem dX10_came_42 : decode cX10_came 42 = .ok (.getfield 233, 3) := by decide +kernel
theorem dX10_came_45 : decode cX10_came 45 = .ok (.if_icmp .ge 28, 3) := by decide +kernel
theorem dX10_came_48 : decode cX10_came 48 = .ok (.aload_n 2, 1) := by decide +kernel
theorem dX10_came_49 : decode cX10_came 49 = .ok (.getfield 234, 3) := by decide +kernel
theorem dX10_came_52 : decode cX10_came 52 = .ok (.iload_n 3, 1) := by decide +kernel
theorem dX10_came_53 : decode cX10_came 53 = .ok (.iaload, 1) := by decide +kernel
theorem dX10_came_54 : decode cX10_came 54 = .ok (.aload_n 0, 1) := by decide +kernel
theorem dX10_came_55 : decode cX10_came 55 = .ok (.getfield 10, 3) := by decide +kernel
theorem dX10_came_58 : decode cX10_came 58 = .ok (.iload_n 3, 1) := by decide +kernel
theorem dX10_came_59 : decode cX10_came 59 = .ok (.invokevirtual 237, 3) := by decide +kernel
theorem dX10_came_62 : decode cX10_came 62 = .ok (.if_icmp .eq 5, 3) := by decide +kernel
theorem dX10_came_65 : decode cX10_came 65 = .ok (.iload_n 3, 1) := by decide +kernel
theorem dX10_came_66 : decode cX10_came 66 = .ok (.ireturn, 1) := by decide +kernel
theorem dX10_came_67 : decode cX10_came 67 = .ok (.iinc 3 1, 3) := by decide +kernel
theorem dX10_came_70 : decode cX10_came 70 = .ok (.goto (-30), 3) := by decide +kernel
theorem dX10_came_73 : decode cX10_came 73 = .ok (.iconst (-1), 1) := by decide +kernel
theorem dX10_came_74 : decode cX10_came 74 = .ok (.ireturn, 1) := by decide +kernel
theorem dX10_image_0 : decode cX10_image 0 = .ok (.aload_n 0, 1) := by decide +kernel
theorem dX10_image_1 : decode cX10_image 1 = .ok (.getfield 42, 3) := by decide +kernel
theorem dX10_image_4 : decode cX10_image 4 = .ok (.iconst 1, 1) := by decide +kernel
theorem dX10_image_5 : decode cX10_image 5 = .ok (.putfield 241, 3) := by decide +kernel
theorem dX10_image_8 : decode cX10_image 8 = .ok (.aload_n 0, 1) := by decide +kernel
theorem dX10_image_9 : decode cX10_image 9 = .ok (.getfield 42, 3) := by decide +kernel
theorem dX10_image_12 : decode cX10_image 12 = .ok (.aload_n 0, 1) := by decide +kernel
theorem dX10_image_13 : decode cX10_image 13 = .ok (.getfield 10, 3) := by decide +kernel
theorem dX10_image_16 : decode cX10_image 16 = .ok (.getfield 201, 3) := by decide +kernel
theorem dX10_image_19 : decode cX10_image 19 = .ok (.putfield 244, 3) := by decide +kernel
theorem dX10_image_22 : decode cX10_image 22 = .ok (.iconst 0, 1) := by decide +kernel
theorem dX10_image_23 : decode cX10_image 23 = .ok (.istore_n 1, 1) := by decide +kernel
theorem dX10_image_24 : decode cX10_image 24 = .ok (.iload_n 1, 1) := by decide +kernel
theorem dX10_image_25 : decode cX10_image 25 = .ok (.aload_n 0, 1) := by decide +kernel
theorem dX10_image_26 : decode cX10_image 26 = .ok (.getfield 10, 3) := by decide +kernel
theorem dX10_image_29 : decode cX10_image 29 = .ok (.getfield 201, 3) := by decide +kernel
theorem dX10_image_32 : decode cX10_image 32 = .ok (.if_icmp .ge 36, 3) := by decide +kernel
theorem dX10_image_35 : decode cX10_image 35 = .ok (.aload_n 0, 1) := by decide +kernel
theorem dX10_image_36 : decode cX10_image 36 = .ok (.getfield 10, 3) := by decide +kernel
theorem dX10_image_39 : decode cX10_image 39 = .ok (.getfield 108, 3) := by decide +kernel
theorem dX10_image_42 : decode cX10_image 42 = .ok (.iload_n 1, 1) := by decide +kernel
theorem dX10_image_43 : decode cX10_image 43 = .ok (.aaload, 1) := by decide +kernel
theorem dX10_image_44 : decode cX10_image 44 = .ok (.getfield 112, 3) := by decide +kernel
theorem dX10_image_47 : decode cX10_image 47 = .ok (.iconst 0, 1) := by decide +kernel
theorem dX10_image_48 : decode cX10_image 48 = .ok (.aload_n 0, 1) := by decide +kernel
theorem dX10_image_49 : decode cX10_image 49 = .ok (.getfield 42, 3) := by decide +kernel
theorem dX10_image_52 : decode cX10_image 52 = .ok (.getfield 245, 3) := by decide +kernel
theorem dX10_image_55 : decode cX10_image 55 = .ok (.iload_n 1, 1) := by decide +kernel
theorem dX10_image_56 : decode cX10_image 56 = .ok (.aaload, 1) := by decide +kernel
theorem dX10_image_57 : decode cX10_image 57 = .ok (.iconst 0, 1) := by decide +kernel
theorem dX10_image_58 : decode cX10_image 58 = .ok (.iconst 4, 1) := by decide +kernel
theorem dX10_image_59 : decode cX10_image 59 = .ok (.invokestatic 247, 3) := by decide +kernel
theorem dX10_image_62 : decode cX10_image 62 = .ok (.iinc 1 1, 3) := by decide +kernel
theorem dX10_image_65 : decode cX10_image 65 = .ok (.goto (-41), 3) := by decide +kernel
theorem dX10_image_68 : decode cX10_image 68 = .ok (.aload_n 0, 1) := by decide +kernel
theorem dX10_image_69 : decode cX10_image 69 = .ok (.getfield 42, 3) := by decide +kernel
theorem dX10_image_72 : decode cX10_image 72 = .ok (.aload_n 0, 1) := by decide +kernel
theorem dX10_image_73 : decode cX10_image 73 = .ok (.getfield 10, 3) := by decide +kernel
theorem dX10_image_76 : decode cX10_image 76 = .ok (.getfield 167, 3) := by decide +kernel
theorem dX10_image_79 : decode cX10_image 79 = .ok (.putfield 253, 3) := by decide +kernel
theorem dX10_image_82 : decode cX10_image 82 = .ok (.iconst 0, 1) := by decide +kernel
theorem dX10_image_83 : decode cX10_image 83 = .ok (.istore_n 1, 1) := by decide +kernel
theorem dX10_image_84 : decode cX10_image 84 = .ok (.iload_n 1, 1) := by decide +kernel
theorem dX10_image_85 : decode cX10_image 85 = .ok (.aload_n 0, 1) := by decide +kernel
theorem dX10_image_86 : decode cX10_image 86 = .ok (.getfield 10, 3) := by decide +kernel
theorem dX10_image_89 : decode cX10_image 89 = .ok (.getfield 167, 3) := by decide +kernel
theorem dX10_image_92 : decode cX10_image 92 = .ok (.if_icmp .ge 30, 3) := by decide +kernel
theorem dX10_image_95 : decode cX10_image 95 = .ok (.aload_n 0, 1) := by decide +kernel
theorem dX10_image_96 : decode cX10_image 96 = .ok (.getfield 42, 3) := by decide +kernel
theorem dX10_image_99 : decode cX10_image 99 = .ok (.getfield 254, 3) := by decide +kernel
theorem dX10_image_102 : decode cX10_image 102 = .ok (.iload_n 1, 1) := by decide +kernel
theorem dX10_image_103 : decode cX10_image 103 = .ok (.aload_n 0, 1) := by decide +kernel
theorem dX10_image_104 : decode cX10_image 104 = .ok (.getfield 10, 3) := by decide +kernel
theorem dX10_image_107 : decode cX10_image 107 = .ok (.getfield 121, 3) := by decide +kernel
theorem dX10_image_110 : decode cX10_image 110 = .ok (.iload_n 1, 1) := by decide +kernel
theorem dX10_image_111 : decode cX10_image 111 = .ok (.aaload, 1) := by decide +kernel
theorem dX10_image_112 : decode cX10_image 112 = .ok (.getfield 130, 3) := by decide +kernel
theorem dX10_image_115 : decode cX10_image 115 = .ok (.iastore, 1) := by decide +kernel
theorem dX10_image_116 : decode cX10_image 116 = .ok (.iinc 1 1, 3) := by decide +kernel
theorem dX10_image_119 : decode cX10_image 119 = .ok (.goto (-35), 3) := by decide +kernel
theorem dX10_image_122 : decode cX10_image 122 = .ok (.aload_n 0, 1) := by decide +kernel
theorem dX10_image_123 : decode cX10_image 123 = .ok (.getfield 42, 3) := by decide +kernel
theorem dX10_image_126 : decode cX10_image 126 = .ok (.aload_n 0, 1) := by decide +kernel
theorem dX10_image_127 : decode cX10_image 127 = .ok (.getfield 35, 3) := by decide +kernel
theorem dX10_image_130 : decode cX10_image 130 = .ok (.getfield 213, 3) := by decide +kernel
theorem dX10_image_133 : decode cX10_image 133 = .ok (.putfield 257, 3) := by decide +kernel
theorem dX10_image_136 : decode cX10_image 136 = .ok (.aload_n 0, 1) := by decide +kernel
theorem dX10_image_137 : decode cX10_image 137 = .ok (.getfield 42, 3) := by decide +kernel
theorem dX10_image_140 : decode cX10_image 140 = .ok (.aload_n 0, 1) := by decide +kernel
theorem dX10_image_141 : decode cX10_image 141 = .ok (.getfield 10, 3) := by decide +kernel
theorem dX10_image_144 : decode cX10_image 144 = .ok (.getfield 154, 3) := by decide +kernel
theorem dX10_image_147 : decode cX10_image 147 = .ok (.putfield 260, 3) := by decide +kernel
theorem dX10_image_150 : decode cX10_image 150 = .ok (.aload_n 0, 1) := by decide +kernel
theorem dX10_image_151 : decode cX10_image 151 = .ok (.getfield 35, 3) := by decide +kernel
theorem dX10_image_154 : decode cX10_image 154 = .ok (.getfield 213, 3) := by decide +kernel
theorem dX10_image_157 : decode cX10_image 157 = .ok (.ireturn, 1) := by decide +kernel
theorem dX10_back_0 : decode cX10_back 0 = .ok (.aload_n 0, 1) := by decide +kernel
theorem dX10_back_1 : decode cX10_back 1 = .ok (.getfield 42, 3) := by decide +kernel
theorem dX10_back_4 : decode cX10_back 4 = .ok (.getfield 241, 3) := by decide +kernel
theorem dX10_back_7 : decode cX10_back 7 = .ok (.ifCond .ne 6, 3) := by decide +kernel
theorem dX10_back_10 : decode cX10_back 10 = .ok (.bipush (-3), 2) := by decide +kernel
theorem dX10_back_12 : decode cX10_back 12 = .ok (.ireturn, 1) := by decide +kernel
theorem dX10_back_13 : decode cX10_back 13 = .ok (.iconst 0, 1) := by decide +kernel
theorem dX10_back_14 : decode cX10_back 14 = .ok (.istore_n 1, 1) := by decide +kernel
theorem dX10_back_15 : decode cX10_back 15 = .ok (.iload_n 1, 1) := by decide +kernel
theorem dX10_back_16 : decode cX10_back 16 = .ok (.aload_n 0, 1) := by decide +kernel
theorem dX10_back_17 : decode cX10_back 17 = .ok (.getfield 42, 3) := by decide +kernel
theorem dX10_back_20 : decode cX10_back 20 = .ok (.getfield 244, 3) := by decide +kernel
theorem dX10_back_23 : decode cX10_back 23 = .ok (.if_icmp .ge 36, 3) := by decide +kernel
theorem dX10_back_26 : decode cX10_back 26 = .ok (.aload_n 0, 1) := by decide +kernel
theorem dX10_back_27 : decode cX10_back 27 = .ok (.getfield 42, 3) := by decide +kernel
theorem dX10_back_30 : decode cX10_back 30 = .ok (.getfield 245, 3) := by decide +kernel
theorem dX10_back_33 : decode cX10_back 33 = .ok (.iload_n 1, 1) := by decide +kernel
theorem dX10_back_34 : decode cX10_back 34 = .ok (.aaload, 1) := by decide +kernel
theorem dX10_back_35 : decode cX10_back 35 = .ok (.iconst 0, 1) := by decide +kernel
theorem dX10_back_36 : decode cX10_back 36 = .ok (.aload_n 0, 1) := by decide +kernel
theorem dX10_back_37 : decode cX10_back 37 = .ok (.getfield 10, 3) := by decide +kernel
theorem dX10_back_40 : decode cX10_back 40 = .ok (.getfield 108, 3) := by decide +kernel
theorem dX10_back_43 : decode cX10_back 43 = .ok (.iload_n 1, 1) := by decide +kernel
theorem dX10_back_44 : decode cX10_back 44 = .ok (.aaload, 1) := by decide +kernel
theorem dX10_back_45 : decode cX10_back 45 = .ok (.getfield 112, 3) := by decide +kernel
theorem dX10_back_48 : decode cX10_back 48 = .ok (.iconst 0, 1) := by decide +kernel
theorem dX10_back_49 : decode cX10_back 49 = .ok (.iconst 4, 1) := by decide +kernel
theorem dX10_back_50 : decode cX10_back 50 = .ok (.invokestatic 247, 3) := by decide +kernel
theorem dX10_back_53 : decode cX10_back 53 = .ok (.iinc 1 1, 3) := by decide +kernel
theorem dX10_back_56 : decode cX10_back 56 = .ok (.goto (-41), 3) := by decide +kernel
theorem dX10_back_59 : decode cX10_back 59 = .ok (.iconst 0, 1) := by decide +kernel
theorem dX10_back_60 : decode cX10_back 60 = .ok (.istore_n 1, 1) := by decide +kernel
theorem dX10_back_61 : decode cX10_back 61 = .ok (.iload_n 1, 1) := by decide +kernel
theorem dX10_back_62 : decode cX10_back 62 = .ok (.aload_n 0, 1) := by decide +kernel
theorem dX10_back_63 : decode cX10_back 63 = .ok (.getfield 42, 3) := by decide +kernel
theorem dX10_back_66 : decode cX10_back 66 = .ok (.getfield 253, 3) := by decide +kernel
theorem dX10_back_69 : decode cX10_back 69 = .ok (.if_icmp .ge 30, 3) := by decide +kernel
theorem dX10_back_72 : decode cX10_back 72 = .ok (.aload_n 0, 1) := by decide +kernel
theorem dX10_back_73 : decode cX10_back 73 = .ok (.getfield 10, 3) := by decide +kernel
theorem dX10_back_76 : decode cX10_back 76 = .ok (.getfield 121, 3) := by decide +kernel
theorem dX10_back_79 : decode cX10_back 79 = .ok (.iload_n 1, 1) := by decide +kernel
theorem dX10_back_80 : decode cX10_back 80 = .ok (.aaload, 1) := by decide +kernel
theorem dX10_back_81 : decode cX10_back 81 = .ok (.aload_n 0, 1) := by decide +kernel
theorem dX10_back_82 : decode cX10_back 82 = .ok (.getfield 42, 3) := by decide +kernel
theorem dX10_back_85 : decode cX10_back 85 = .ok (.getfield 254, 3) := by decide +kernel
theorem dX10_back_88 : decode cX10_back 88 = .ok (.iload_n 1, 1) := by decide +kernel
theorem dX10_back_89 : decode cX10_back 89 = .ok (.iaload, 1) := by decide +kernel
theorem dX10_back_90 : decode cX10_back 90 = .ok (.putfield 130, 3) := by decide +kernel
theorem dX10_back_93 : decode cX10_back 93 = .ok (.iinc 1 1, 3) := by decide +kernel
theorem dX10_back_96 : decode cX10_back 96 = .ok (.goto (-35), 3) := by decide +kernel
theorem dX10_back_99 : decode cX10_back 99 = .ok (.aload_n 0, 1) := by decide +kernel
theorem dX10_back_100 : decode cX10_back 100 = .ok (.getfield 35, 3) := by decide +kernel
theorem dX10_back_103 : decode cX10_back 103 = .ok (.aload_n 0, 1) := by decide +kernel
theorem dX10_back_104 : decode cX10_back 104 = .ok (.getfield 42, 3) := by decide +kernel
theorem dX10_back_107 : decode cX10_back 107 = .ok (.getfield 257, 3) := by decide +kernel
theorem dX10_back_110 : decode cX10_back 110 = .ok (.putfield 213, 3) := by decide +kernel
theorem dX10_back_113 : decode cX10_back 113 = .ok (.aload_n 0, 1) := by decide +kernel
theorem dX10_back_114 : decode cX10_back 114 = .ok (.getfield 10, 3) := by decide +kernel
theorem dX10_back_117 : decode cX10_back 117 = .ok (.aload_n 0, 1) := by decide +kernel
theorem dX10_back_118 : decode cX10_back 118 = .ok (.getfield 42, 3) := by decide +kernel
theorem dX10_back_121 : decode cX10_back 121 = .ok (.getfield 260, 3) := by decide +kernel
theorem dX10_back_124 : decode cX10_back 124 = .ok (.putfield 154, 3) := by decide +kernel
theorem dX10_back_127 : decode cX10_back 127 = .ok (.aload_n 0, 1) := by decide +kernel
theorem dX10_back_128 : decode cX10_back 128 = .ok (.getfield 21, 3) := by decide +kernel
theorem dX10_back_131 : decode cX10_back 131 = .ok (.iconst 1, 1) := by decide +kernel
theorem dX10_back_132 : decode cX10_back 132 = .ok (.putfield 93, 3) := by decide +kernel
theorem dX10_back_135 : decode cX10_back 135 = .ok (.aload_n 0, 1) := by decide +kernel
theorem dX10_back_136 : decode cX10_back 136 = .ok (.getfield 35, 3) := by decide +kernel
theorem dX10_back_139 : decode cX10_back 139 = .ok (.getfield 213, 3) := by decide +kernel
theorem dX10_back_142 : decode cX10_back 142 = .ok (.ireturn, 1) := by decide +kernel
theorem dX10_count_0 : decode cX10_count 0 = .ok (.iload_n 1, 1) := by decide +kernel
theorem dX10_count_1 : decode cX10_count 1 = .ok (.tableswitch 87 0 5 #[39, 47, 55, 63, 71, 79], 39) := by decide +kernel
theorem dX10_count_40 : decode cX10_count 40 = .ok (.aload_n 0, 1) := by decide +kernel
theorem dX10_count_41 : decode cX10_count 41 = .ok (.getfield 10, 3) := by decide +kernel
theorem dX10_count_44 : decode cX10_count 44 = .ok (.getfield 201, 3) := by decide +kernel
theorem dX10_count_47 : decode cX10_count 47 = .ok (.ireturn, 1) := by decide +kernel
theorem dX10_count_48 : decode cX10_count 48 = .ok (.aload_n 0, 1) := by decide +kernel
theorem dX10_count_49 : decode cX10_count 49 = .ok (.getfield 10, 3) := by decide +kernel
theorem dX10_count_52 : decode cX10_count 52 = .ok (.getfield 167, 3) := by decide +kernel
theorem dX10_count_55 : decode cX10_count 55 = .ok (.ireturn, 1) := by decide +kernel
theorem dX10_count_56 : decode cX10_count 56 = .ok (.aload_n 0, 1) := by decide +kernel
theorem dX10_count_57 : decode cX10_count 57 = .ok (.getfield 35, 3) := by decide +kernel
theorem dX10_count_60 : decode cX10_count 60 = .ok (.getfield 213, 3) := by decide +kernel
theorem dX10_count_63 : decode cX10_count 63 = .ok (.ireturn, 1) := by decide +kernel
theorem dX10_count_64 : decode cX10_count 64 = .ok (.aload_n 0, 1) := by decide +kernel
theorem dX10_count_65 : decode cX10_count 65 = .ok (.getfield 10, 3) := by decide +kernel
theorem dX10_count_68 : decode cX10_count 68 = .ok (.getfield 81, 3) := by decide +kernel
theorem dX10_count_71 : decode cX10_count 71 = .ok (.ireturn, 1) := by decide +kernel
theorem dX10_count_72 : decode cX10_count 72 = .ok (.aload_n 0, 1) := by decide +kernel
theorem dX10_count_73 : decode cX10_count 73 = .ok (.getfield 28, 3) := by decide +kernel
theorem dX10_count_76 : decode cX10_count 76 = .ok (.getfield 151, 3) := by decide +kernel
theorem dX10_count_79 : decode cX10_count 79 = .ok (.ireturn, 1) := by decide +kernel
theorem dX10_count_80 : decode cX10_count 80 = .ok (.aload_n 0, 1) := by decide +kernel
theorem dX10_count_81 : decode cX10_count 81 = .ok (.getfield 10, 3) := by decide +kernel
theorem dX10_count_84 : decode cX10_count 84 = .ok (.getfield 154, 3) := by decide +kernel
theorem dX10_count_87 : decode cX10_count 87 = .ok (.ireturn, 1) := by decide +kernel
theorem dX10_count_88 : decode cX10_count 88 = .ok (.bipush (-2), 2) := by decide +kernel
theorem dX10_count_90 : decode cX10_count 90 = .ok (.ireturn, 1) := by decide +kernel
theorem dX10_sheet_0 : decode cX10_sheet 0 = .ok (.iload_n 1, 1) := by decide +kernel
theorem dX10_sheet_1 : decode cX10_sheet 1 = .ok (.invokestatic 226, 3) := by decide +kernel
theorem dX10_sheet_4 : decode cX10_sheet 4 = .ok (.ifCond .eq 13, 3) := by decide +kernel
theorem dX10_sheet_7 : decode cX10_sheet 7 = .ok (.iload_n 2, 1) := by decide +kernel
theorem dX10_sheet_8 : decode cX10_sheet 8 = .ok (.iconst (-1), 1) := by decide +kernel
theorem dX10_sheet_9 : decode cX10_sheet 9 = .ok (.if_icmp .lt 8, 3) := by decide +kernel
theorem dX10_sheet_12 : decode cX10_sheet 12 = .ok (.iload_n 2, 1) := by decide +kernel
theorem dX10_sheet_13 : decode cX10_sheet 13 = .ok (.iconst 2, 1) := by decide +kernel
theorem dX10_sheet_14 : decode cX10_sheet 14 = .ok (.if_icmp .le 6, 3) := by decide +kernel
theorem dX10_sheet_17 : decode cX10_sheet 17 = .ok (.bipush (-2), 2) := by decide +kernel
theorem dX10_sheet_19 : decode cX10_sheet 19 = .ok (.ireturn, 1) := by decide +kernel
theorem dX10_sheet_20 : decode cX10_sheet 20 = .ok (.iload_n 2, 1) := by decide +kernel
theorem dX10_sheet_21 : decode cX10_sheet 21 = .ok (.iconst (-1), 1) := by decide +kernel
theorem dX10_sheet_22 : decode cX10_sheet 22 = .ok (.if_icmp .ne 7, 3) := by decide +kernel
theorem dX10_sheet_25 : decode cX10_sheet 25 = .ok (.iconst 0, 1) := by decide +kernel
theorem dX10_sheet_26 : decode cX10_sheet 26 = .ok (.goto 4, 3) := by decide +kernel
theorem dX10_sheet_29 : decode cX10_sheet 29 = .ok (.iload_n 3, 1) := by decide +kernel
theorem dX10_sheet_30 : decode cX10_sheet 30 = .ok (.istore 4, 2) := by decide +kernel
theorem dX10_sheet_32 : decode cX10_sheet 32 = .ok (.iload 4, 2) := by decide +kernel
theorem dX10_sheet_34 : decode cX10_sheet 34 = .ok (.bipush 40, 2) := by decide +kernel
theorem dX10_sheet_36 : decode cX10_sheet 36 = .ok (.if_icmp .le 6, 3) := by decide +kernel
theorem dX10_sheet_39 : decode cX10_sheet 39 = .ok (.bipush (-2), 2) := by decide +kernel
theorem dX10_sheet_41 : decode cX10_sheet 41 = .ok (.ireturn, 1) := by decide +kernel
theorem dX10_sheet_42 : decode cX10_sheet 42 = .ok (.iload 4, 2) := by decide +kernel
theorem dX10_sheet_44 : decode cX10_sheet 44 = .ok (.ifCond .ge 6, 3) := by decide +kernel
theorem dX10_sheet_47 : decode cX10_sheet 47 = .ok (.bipush (-14), 2) := by decide +kernel
theorem dX10_sheet_49 : decode cX10_sheet 49 = .ok (.ireturn, 1) := by decide +kernel
theorem dX10_sheet_50 : decode cX10_sheet 50 = .ok (.aload_n 0, 1) := by decide +kernel
theorem dX10_sheet_51 : decode cX10_sheet 51 = .ok (.getfield 48, 3) := by decide +kernel
theorem dX10_sheet_54 : decode cX10_sheet 54 = .ok (.iload_n 1, 1) := by decide +kernel
theorem dX10_sheet_55 : decode cX10_sheet 55 = .ok (.aaload, 1) := by decide +kernel
theorem dX10_sheet_56 : decode cX10_sheet 56 = .ok (.iload_n 2, 1) := by decide +kernel
theorem dX10_sheet_57 : decode cX10_sheet 57 = .ok (.iload 4, 2) := by decide +kernel
theorem dX10_sheet_59 : decode cX10_sheet 59 = .ok (.invokevirtual 261, 3) := by decide +kernel
theorem dX10_sheet_62 : decode cX10_sheet 62 = .ok (.iconst 1, 1) := by decide +kernel
theorem dX10_sheet_63 : decode cX10_sheet 63 = .ok (.ireturn, 1) := by decide +kernel
theorem dX10_cell_0 : decode cX10_cell 0 = .ok (.iload_n 1, 1) := by decide +kernel
theorem dX10_cell_1 : decode cX10_cell 1 = .ok (.invokestatic 226, 3) := by decide +kernel
theorem dX10_cell_4 : decode cX10_cell 4 = .ok (.ifCond .ne 6, 3) := by decide +kernel
theorem dX10_cell_7 : decode cX10_cell 7 = .ok (.bipush (-2), 2) := by decide +kernel
theorem dX10_cell_9 : decode cX10_cell 9 = .ok (.ireturn, 1) := by decide +kernel
theorem dX10_cell_10 : decode cX10_cell 10 = .ok (.aload_n 0, 1) := by decide +kernel
theorem dX10_cell_11 : decode cX10_cell 11 = .ok (.getfield 48, 3) := by decide +kernel
theorem dX10_cell_14 : decode cX10_cell 14 = .ok (.iload_n 1, 1) := by decide +kernel
theorem dX10_cell_15 : decode cX10_cell 15 = .ok (.aaload, 1) := by decide +kernel
theorem dX10_cell_16 : decode cX10_cell 16 = .ok (.astore 4, 2) := by decide +kernel
theorem dX10_cell_18 : decode cX10_cell 18 = .ok (.aload 4, 2) := by decide +kernel
theorem dX10_cell_20 : decode cX10_cell 20 = .ok (.invokevirtual 229, 3) := by decide +kernel
theorem dX10_cell_23 : decode cX10_cell 23 = .ok (.ifCond .eq 6, 3) := by decide +kernel
theorem dX10_cell_26 : decode cX10_cell 26 = .ok (.bipush (-11), 2) := by decide +kernel
theorem dX10_cell_28 : decode cX10_cell 28 = .ok (.ireturn, 1) := by decide +kernel
theorem dX10_cell_29 : decode cX10_cell 29 = .ok (.aload 4, 2) := by decide +kernel
theorem dX10_cell_31 : decode cX10_cell 31 = .ok (.iload_n 2, 1) := by decide +kernel
theorem dX10_cell_32 : decode cX10_cell 32 = .ok (.invokevirtual 265, 3) := by decide +kernel
theorem dX10_cell_35 : decode cX10_cell 35 = .ok (.ifCond .ne 6, 3) := by decide +kernel
theorem dX10_cell_38 : decode cX10_cell 38 = .ok (.bipush (-12), 2) := by decide +kernel
theorem dX10_cell_40 : decode cX10_cell 40 = .ok (.ireturn, 1) := by decide +kernel
theorem dX10_cell_41 : decode cX10_cell 41 = .ok (.aload 4, 2) := by decide +kernel
theorem dX10_cell_43 : decode cX10_cell 43 = .ok (.iload_n 2, 1) := by decide +kernel
theorem dX10_cell_44 : decode cX10_cell 44 = .ok (.iload_n 3, 1) := by decide +kernel
theorem dX10_cell_45 : decode cX10_cell 45 = .ok (.invokevirtual 268, 3) := by decide +kernel
theorem dX10_cell_48 : decode cX10_cell 48 = .ok (.iconst 1, 1) := by decide +kernel
theorem dX10_cell_49 : decode cX10_cell 49 = .ok (.ireturn, 1) := by decide +kernel
theorem dX10_copy_0 : decode cX10_copy 0 = .ok (.iload_n 1, 1) := by decide +kernel
theorem dX10_copy_1 : decode cX10_copy 1 = .ok (.invokestatic 226, 3) := by decide +kernel
theorem dX10_copy_4 : decode cX10_copy 4 = .ok (.ifCond .eq 10, 3) := by decide +kernel
theorem dX10_copy_7 : decode cX10_copy 7 = .ok (.iload_n 3, 1) := by decide +kernel
theorem dX10_copy_8 : decode cX10_copy 8 = .ok (.invokestatic 226, 3) := by decide +kernel
theorem dX10_copy_11 : decode cX10_copy 11 = .ok (.ifCond .ne 6, 3) := by decide +kernel
theorem dX10_copy_14 : decode cX10_copy 14 = .ok (.bipush (-2), 2) := by decide +kernel
theorem dX10_copy_16 : decode cX10_copy 16 = .ok (.ireturn, 1) := by decide +kernel
theorem dX10_copy_17 : decode cX10_copy 17 = .ok (.aload_n 0, 1) := by decide +kernel
theorem dX10_copy_18 : decode cX10_copy 18 = .ok (.getfield 48, 3) := by decide +kernel
theorem dX10_copy_21 : decode cX10_copy 21 = .ok (.iload_n 1, 1) := by decide +kernel
theorem dX10_copy_22 : decode cX10_copy 22 = .ok (.aaload, 1) := by decide +kernel
theorem dX10_copy_23 : decode cX10_copy 23 = .ok (.astore 6, 2) := by decide +kernel
theorem dX10_copy_25 : decode cX10_copy 25 = .ok (.aload_n 0, 1) := by decide +kernel
theorem dX10_copy_26 : decode cX10_copy 26 = .ok (.getfield 48, 3) := by decide +kernel
theorem dX10_copy_29 : decode cX10_copy 29 = .ok (.iload_n 3, 1) := by decide +kernel
theorem dX10_copy_30 : decode cX10_copy 30 = .ok (.aaload, 1) := by decide +kernel
theorem dX10_copy_31 : decode cX10_copy 31 = .ok (.astore 7, 2) := by decide +kernel
theorem dX10_copy_33 : decode cX10_copy 33 = .ok (.aload 6, 2) := by decide +kernel
theorem dX10_copy_35 : decode cX10_copy 35 = .ok (.invokevirtual 229, 3) := by decide +kernel
theorem dX10_copy_38 : decode cX10_copy 38 = .ok (.ifCond .ne 11, 3) := by decide +kernel
theorem dX10_copy_41 : decode cX10_copy 41 = .ok (.aload 7, 2) := by decide +kernel
theorem dX10_copy_43 : decode cX10_copy 43 = .ok (.invokevirtual 229, 3) := by decide +kernel
theorem dX10_copy_46 : decode cX10_copy 46 = .ok (.ifCond .eq 6, 3) := by decide +kernel
theorem dX10_copy_49 : decode cX10_copy 49 = .ok (.bipush (-11), 2) := by decide +kernel
theorem dX10_copy_51 : decode cX10_copy 51 = .ok (.ireturn, 1) := by decide +kernel
theorem dX10_copy_52 : decode cX10_copy 52 = .ok (.aload 6, 2) := by decide +kernel
theorem dX10_copy_54 : decode cX10_copy 54 = .ok (.getfield 271, 3) := by decide +kernel
theorem dX10_copy_57 : decode cX10_copy 57 = .ok (.aload 7, 2) := by decide +kernel
theorem dX10_copy_59 : decode cX10_copy 59 = .ok (.getfield 271, 3) := by decide +kernel
theorem dX10_copy_62 : decode cX10_copy 62 = .ok (.if_icmp .eq 6, 3) := by decide +kernel
theorem dX10_copy_65 : decode cX10_copy 65 = .ok (.bipush (-13), 2) := by decide +kernel
theorem dX10_copy_67 : decode cX10_copy 67 = .ok (.ireturn, 1) := by decide +kernel
theorem dX10_copy_68 : decode cX10_copy 68 = .ok (.aload 6, 2) := by decide +kernel
theorem dX10_copy_70 : decode cX10_copy 70 = .ok (.iload_n 2, 1) := by decide +kernel
theorem dX10_copy_71 : decode cX10_copy 71 = .ok (.iload 5, 2) := by decide +kernel
theorem dX10_copy_73 : decode cX10_copy 73 = .ok (.invokevirtual 274, 3) := by decide +kernel
theorem dX10_copy_76 : decode cX10_copy 76 = .ok (.ifCond .eq 15, 3) := by decide +kernel
theorem dX10_copy_79 : decode cX10_copy 79 = .ok (.aload 7, 2) := by decide +kernel
theorem dX10_copy_81 : decode cX10_copy 81 = .ok (.iload 4, 2) := by decide +kernel
theorem dX10_copy_83 : decode cX10_copy 83 = .ok (.iload 5, 2) := by decide +kernel
theorem dX10_copy_85 : decode cX10_copy 85 = .ok (.invokevirtual 274, 3) := by decide +kernel
theorem dX10_copy_88 : decode cX10_copy 88 = .ok (.ifCond .ne 6, 3) := by decide +kernel
theorem dX10_copy_91 : decode cX10_copy 91 = .ok (.bipush (-12), 2) := by decide +kernel
theorem dX10_copy_93 : decode cX10_copy 93 = .ok (.ireturn, 1) := by decide +kernel
theorem dX10_copy_94 : decode cX10_copy 94 = .ok (.aload 6, 2) := by decide +kernel
theorem dX10_copy_96 : decode cX10_copy 96 = .ok (.getfield 234, 3) := by decide +kernel
theorem dX10_copy_99 : decode cX10_copy 99 = .ok (.iload_n 2, 1) := by decide +kernel
theorem dX10_copy_100 : decode cX10_copy 100 = .ok (.aload 7, 2) := by decide +kernel
theorem dX10_copy_102 : decode cX10_copy 102 = .ok (.getfield 234, 3) := by decide +kernel
theorem dX10_copy_105 : decode cX10_copy 105 = .ok (.iload 4, 2) := by decide +kernel
theorem dX10_copy_107 : decode cX10_copy 107 = .ok (.iload 5, 2) := by decide +kernel
theorem dX10_copy_109 : decode cX10_copy 109 = .ok (.invokestatic 247, 3) := by decide +kernel
theorem dX10_copy_112 : decode cX10_copy 112 = .ok (.iload 5, 2) := by decide +kernel
theorem dX10_copy_114 : decode cX10_copy 114 = .ok (.ireturn, 1) := by decide +kernel
theorem dX10_notes_0 : decode cX10_notes 0 = .ok (.iload_n 1, 1) := by decide +kernel
theorem dX10_notes_1 : decode cX10_notes 1 = .ok (.invokestatic 226, 3) := by decide +kernel
theorem dX10_notes_4 : decode cX10_notes 4 = .ok (.ifCond .eq 24, 3) := by decide +kernel
theorem dX10_notes_7 : decode cX10_notes 7 = .ok (.iload_n 2, 1) := by decide +kernel
theorem dX10_notes_8 : decode cX10_notes 8 = .ok (.ifCond .lt 20, 3) := by decide +kernel
theorem dX10_notes_11 : decode cX10_notes 11 = .ok (.iload_n 2, 1) := by decide +kernel
theorem dX10_notes_12 : decode cX10_notes 12 = .ok (.iconst 2, 1) := by decide +kernel
theorem dX10_notes_13 : decode cX10_notes 13 = .ok (.if_icmp .gt 15, 3) := by decide +kernel
theorem dX10_notes_16 : decode cX10_notes 16 = .ok (.iload 4, 2) := by decide +kernel
theorem dX10_notes_18 : decode cX10_notes 18 = .ok (.ifCond .lt 10, 3) := by decide +kernel
theorem dX10_notes_21 : decode cX10_notes 21 = .ok (.iload 4, 2) := by decide +kernel
theorem dX10_notes_23 : decode cX10_notes 23 = .ok (.bipush 10, 2) := by decide +kernel
theorem dX10_notes_25 : decode cX10_notes 25 = .ok (.if_icmp .le 6, 3) := by decide +kernel
theorem dX10_notes_28 : decode cX10_notes 28 = .ok (.bipush (-2), 2) := by decide +kernel
theorem dX10_notes_30 : decode cX10_notes 30 = .ok (.ireturn, 1) := by decide +kernel
theorem dX10_notes_31 : decode cX10_notes 31 = .ok (.aload_n 0, 1) := by decide +kernel
theorem dX10_notes_32 : decode cX10_notes 32 = .ok (.getfield 48, 3) := by decide +kernel
theorem dX10_notes_35 : decode cX10_notes 35 = .ok (.iload_n 1, 1) := by decide +kernel
theorem dX10_notes_36 : decode cX10_notes 36 = .ok (.aaload, 1) := by decide +kernel
theorem dX10_notes_37 : decode cX10_notes 37 = .ok (.astore 5, 2) := by decide +kernel
theorem dX10_notes_39 : decode cX10_notes 39 = .ok (.aload 5, 2) := by decide +kernel
theorem dX10_notes_41 : decode cX10_notes 41 = .ok (.invokevirtual 229, 3) := by decide +kernel
theorem dX10_notes_44 : decode cX10_notes 44 = .ok (.ifCond .eq 6, 3) := by decide +kernel
theorem dX10_notes_47 : decode cX10_notes 47 = .ok (.bipush (-11), 2) := by decide +kernel
theorem dX10_notes_49 : decode cX10_notes 49 = .ok (.ireturn, 1) := by decide +kernel
theorem dX10_notes_50 : decode cX10_notes 50 = .ok (.aload 5, 2) := by decide +kernel
theorem dX10_notes_52 : decode cX10_notes 52 = .ok (.getfield 271, 3) := by decide +kernel
theorem dX10_notes_55 : decode cX10_notes 55 = .ok (.iload_n 2, 1) := by decide +kernel
theorem dX10_notes_56 : decode cX10_notes 56 = .ok (.if_icmp .eq 6, 3) := by decide +kernel
theorem dX10_notes_59 : decode cX10_notes 59 = .ok (.bipush (-13), 2) := by decide +kernel
theorem dX10_notes_61 : decode cX10_notes 61 = .ok (.ireturn, 1) := by decide +kernel
theorem dX10_notes_62 : decode cX10_notes 62 = .ok (.aload_n 0, 1) := by decide +kernel
theorem dX10_notes_63 : decode cX10_notes 63 = .ok (.getfield 21, 3) := by decide +kernel
theorem dX10_notes_66 : decode cX10_notes 66 = .ok (.iconst 1, 1) := by decide +kernel
theorem dX10_notes_67 : decode cX10_notes 67 = .ok (.putfield 93, 3) := by decide +kernel
theorem dX10_notes_70 : decode cX10_notes 70 = .ok (.iconst 0, 1) := by decide +kernel
theorem dX10_notes_71 : decode cX10_notes 71 = .ok (.istore 6, 2) := by decide +kernel
theorem dX10_notes_73 : decode cX10_notes 73 = .ok (.iconst 0, 1) := by decide +kernel
theorem dX10_notes_74 : decode cX10_notes 74 = .ok (.istore 7, 2) := by decide +kernel
theorem dX10_notes_76 : decode cX10_notes 76 = .ok (.iload 7, 2) := by decide +kernel
theorem dX10_notes_78 : decode cX10_notes 78 = .ok (.iload 4, 2) := by decide +kernel
theorem dX10_notes_80 : decode cX10_notes 80 = .ok (.if_icmp .ge 80, 3) := by decide +kernel
theorem dX10_notes_83 : decode cX10_notes 83 = .ok (.iload_n 3, 1) := by decide +kernel
theorem dX10_notes_84 : decode cX10_notes 84 = .ok (.iconst 3, 1) := by decide +kernel
theorem dX10_notes_85 : decode cX10_notes 85 = .ok (.iload 7, 2) := by decide +kernel
theorem dX10_notes_87 : decode cX10_notes 87 = .ok (.imul, 1) := by decide +kernel
theorem dX10_notes_88 : decode cX10_notes 88 = .ok (.iadd, 1) := by decide +kernel
theorem dX10_notes_89 : decode cX10_notes 89 = .ok (.istore 8, 2) := by decide +kernel
theorem dX10_notes_91 : decode cX10_notes 91 = .ok (.aload 5, 2) := by decide +kernel
theorem dX10_notes_93 : decode cX10_notes 93 = .ok (.iload 8, 2) := by decide +kernel
theorem dX10_notes_95 : decode cX10_notes 95 = .ok (.invokevirtual 265, 3) := by decide +kernel
theorem dX10_notes_98 : decode cX10_notes 98 = .ok (.ifCond .eq 15, 3) := by decide +kernel
theorem dX10_notes_101 : decode cX10_notes 101 = .ok (.aload 5, 2) := by decide +kernel
theorem dX10_notes_103 : decode cX10_notes 103 = .ok (.iload 8, 2) := by decide +kernel
theorem dX10_notes_105 : decode cX10_notes 105 = .ok (.iconst 2, 1) := by decide +kernel
theorem dX10_notes_106 : decode cX10_notes 106 = .ok (.iadd, 1) := by decide +kernel
theorem dX10_notes_107 : decode cX10_notes 107 = .ok (.invokevirtual 265, 3) := by decide +kernel
theorem dX10_notes_110 : decode cX10_notes 110 = .ok (.ifCond .ne 6, 3) := by decide +kernel
theorem dX10_notes_113 : decode cX10_notes 113 = .ok (.bipush (-12), 2) := by decide +kernel
theorem dX10_notes_115 : decode cX10_notes 115 = .ok (.ireturn, 1) := by decide +kernel
theorem dX10_notes_116 : decode cX10_notes 116 = .ok (.aload_n 0, 1) := by decide +kernel
theorem dX10_notes_117 : decode cX10_notes 117 = .ok (.aload 5, 2) := by decide +kernel
theorem dX10_notes_119 : decode cX10_notes 119 = .ok (.getfield 234, 3) := by decide +kernel
theorem dX10_notes_122 : decode cX10_notes 122 = .ok (.iload 8, 2) := by decide +kernel
theorem dX10_notes_124 : decode cX10_notes 124 = .ok (.iaload, 1) := by decide +kernel
theorem dX10_notes_125 : decode cX10_notes 125 = .ok (.aload 5, 2) := by decide +kernel
theorem dX10_notes_127 : decode cX10_notes 127 = .ok (.getfield 234, 3) := by decide +kernel
theorem dX10_notes_130 : decode cX10_notes 130 = .ok (.iload 8, 2) := by decide +kernel
theorem dX10_notes_132 : decode cX10_notes 132 = .ok (.iconst 1, 1) := by decide +kernel
theorem dX10_notes_133 : decode cX10_notes 133 = .ok (.iadd, 1) := by decide +kernel
theorem dX10_notes_134 : decode cX10_notes 134 = .ok (.iaload, 1) := by decide +kernel
theorem dX10_notes_135 : decode cX10_notes 135 = .ok (.aload 5, 2) := by decide +kernel
theorem dX10_notes_137 : decode cX10_notes 137 = .ok (.getfield 234, 3) := by decide +kernel
theorem dX10_notes_140 : decode cX10_notes 140 = .ok (.iload 8, 2) := by decide +kernel
theorem dX10_notes_142 : decode cX10_notes 142 = .ok (.iconst 2, 1) := by decide +kernel
theorem dX10_notes_143 : decode cX10_notes 143 = .ok (.iadd, 1) := by decide +kernel
theorem dX10_notes_144 : decode cX10_notes 144 = .ok (.iaload, 1) := by decide +kernel
theorem dX10_notes_145 : decode cX10_notes 145 = .ok (.invokevirtual 97, 3) := by decide +kernel
theorem dX10_notes_148 : decode cX10_notes 148 = .ok (.ifCond .lt 6, 3) := by decide +kernel
theorem dX10_notes_151 : decode cX10_notes 151 = .ok (.iinc 6 1, 3) := by decide +kernel
theorem dX10_notes_154 : decode cX10_notes 154 = .ok (.iinc 7 1, 3) := by decide +kernel
theorem dX10_notes_157 : decode cX10_notes 157 = .ok (.goto (-81), 3) := by decide +kernel
theorem dX10_notes_160 : decode cX10_notes 160 = .ok (.iload 6, 2) := by decide +kernel
theorem dX10_notes_162 : decode cX10_notes 162 = .ok (.ireturn, 1) := by decide +kernel
theorem dX10_taken_0 : decode cX10_taken 0 = .ok (.iload_n 2, 1) := by decide +kernel
theorem dX10_taken_1 : decode cX10_taken 1 = .ok (.ifCond .lt 9, 3) := by decide +kernel
theorem dX10_taken_4 : decode cX10_taken 4 = .ok (.iload_n 2, 1) := by decide +kernel
theorem dX10_taken_5 : decode cX10_taken 5 = .ok (.bipush 6, 2) := by decide +kernel
theorem dX10_taken_7 : decode cX10_taken 7 = .ok (.if_icmp .lt 6, 3) := by decide +kernel
theorem dX10_taken_10 : decode cX10_taken 10 = .ok (.bipush (-2), 2) := by decide +kernel
theorem dX10_taken_12 : decode cX10_taken 12 = .ok (.ireturn, 1) := by decide +kernel
theorem dX10_taken_13 : decode cX10_taken 13 = .ok (.aload_n 0, 1) := by decide +kernel
theorem dX10_taken_14 : decode cX10_taken 14 = .ok (.getfield 10, 3) := by decide +kernel
theorem dX10_taken_17 : decode cX10_taken 17 = .ok (.iload_n 1, 1) := by decide +kernel
theorem dX10_taken_18 : decode cX10_taken 18 = .ok (.invokevirtual 118, 3) := by decide +kernel
theorem dX10_taken_21 : decode cX10_taken 21 = .ok (.ifCond .ne 6, 3) := by decide +kernel
theorem dX10_taken_24 : decode cX10_taken 24 = .ok (.bipush (-11), 2) := by decide +kernel
theorem dX10_taken_26 : decode cX10_taken 26 = .ok (.ireturn, 1) := by decide +kernel
theorem dX10_taken_27 : decode cX10_taken 27 = .ok (.aload_n 0, 1) := by decide +kernel
theorem dX10_taken_28 : decode cX10_taken 28 = .ok (.getfield 10, 3) := by decide +kernel
theorem dX10_taken_31 : decode cX10_taken 31 = .ok (.getfield 121, 3) := by decide +kernel
theorem dX10_taken_34 : decode cX10_taken 34 = .ok (.iload_n 1, 1) := by decide +kernel
theorem dX10_taken_35 : decode cX10_taken 35 = .ok (.aaload, 1) := by decide +kernel
theorem dX10_taken_36 : decode cX10_taken 36 = .ok (.astore_n 3, 1) := by decide +kernel
theorem dX10_taken_37 : decode cX10_taken 37 = .ok (.aload_n 3, 1) := by decide +kernel
theorem dX10_taken_38 : decode cX10_taken 38 = .ok (.iload_n 2, 1) := by decide +kernel
theorem dX10_taken_39 : decode cX10_taken 39 = .ok (.invokevirtual 277, 3) := by decide +kernel
theorem dX10_taken_42 : decode cX10_taken 42 = .ok (.ifCond .eq 10, 3) := by decide +kernel
theorem dX10_taken_45 : decode cX10_taken 45 = .ok (.aload_n 3, 1) := by decide +kernel
theorem dX10_taken_46 : decode cX10_taken 46 = .ok (.getfield 136, 3) := by decide +kernel
theorem dX10_taken_49 : decode cX10_taken 49 = .ok (.goto 5, 3) := by decide +kernel
theorem dX10_taken_52 : decode cX10_taken 52 = .ok (.bipush (-13), 2) := by decide +kernel
theorem dX10_taken_54 : decode cX10_taken 54 = .ok (.ireturn, 1) := by decide +kernel
theorem dX10_isHour_0 : decode cX10_isHour 0 = .ok (.iload_n 0, 1) := by decide +kernel
theorem dX10_isHour_1 : decode cX10_isHour 1 = .ok (.ifCond .lt 13, 3) := by decide +kernel
theorem dX10_isHour_4 : decode cX10_isHour 4 = .ok (.iload_n 0, 1) := by decide +kernel
theorem dX10_isHour_5 : decode cX10_isHour 5 = .ok (.bipush 48, 2) := by decide +kernel
theorem dX10_isHour_7 : decode cX10_isHour 7 = .ok (.if_icmp .ge 7, 3) := by decide +kernel
theorem dX10_isHour_10 : decode cX10_isHour 10 = .ok (.iconst 1, 1) := by decide +kernel
theorem dX10_isHour_11 : decode cX10_isHour 11 = .ok (.goto 4, 3) := by decide +kernel
theorem dX10_isHour_14 : decode cX10_isHour 14 = .ok (.iconst 0, 1) := by decide +kernel
theorem dX10_isHour_15 : decode cX10_isHour 15 = .ok (.ireturn, 1) := by decide +kernel
theorem dX10_isThing_0 : decode cX10_isThing 0 = .ok (.iload_n 0, 1) := by decide +kernel
theorem dX10_isThing_1 : decode cX10_isThing 1 = .ok (.ifCond .lt 12, 3) := by decide +kernel
theorem dX10_isThing_4 : decode cX10_isThing 4 = .ok (.iload_n 0, 1) := by decide +kernel
theorem dX10_isThing_5 : decode cX10_isThing 5 = .ok (.iconst 4, 1) := by decide +kernel
theorem dX10_isThing_6 : decode cX10_isThing 6 = .ok (.if_icmp .ge 7, 3) := by decide +kernel
theorem dX10_isThing_9 : decode cX10_isThing 9 = .ok (.iconst 1, 1) := by decide +kernel
theorem dX10_isThing_10 : decode cX10_isThing 10 = .ok (.goto 4, 3) := by decide +kernel
theorem dX10_isThing_13 : decode cX10_isThing 13 = .ok (.iconst 0, 1) := by decide +kernel
theorem dX10_isThing_14 : decode cX10_isThing 14 = .ok (.ireturn, 1) := by decide +kernel
theorem dX10_isSheet_0 : decode cX10_isSheet 0 = .ok (.iload_n 0, 1) := by decide +kernel
theorem dX10_isSheet_1 : decode cX10_isSheet 1 = .ok (.ifCond .lt 12, 3) := by decide +kernel
theorem dX10_isSheet_4 : decode cX10_isSheet 4 = .ok (.iload_n 0, 1) := by decide +kernel
theorem dX10_isSheet_5 : decode cX10_isSheet 5 = .ok (.iconst 4, 1) := by decide +kernel
theorem dX10_isSheet_6 : decode cX10_isSheet 6 = .ok (.if_icmp .ge 7, 3) := by decide +kernel
theorem dX10_isSheet_9 : decode cX10_isSheet 9 = .ok (.iconst 1, 1) := by decide +kernel
theorem dX10_isSheet_10 : decode cX10_isSheet 10 = .ok (.goto 4, 3) := by decide +kernel
theorem dX10_isSheet_13 : decode cX10_isSheet 13 = .ok (.iconst 0, 1) := by decide +kernel
theorem dX10_isSheet_14 : decode cX10_isSheet 14 = .ok (.ireturn, 1) := by decide +kernel
theorem dX10_fits_0 : decode cX10_fits 0 = .ok (.iload_n 1, 1) := by decide +kernel
theorem dX10_fits_1 : decode cX10_fits 1 = .ok (.getstatic 280, 3) := by decide +kernel
theorem dX10_fits_4 : decode cX10_fits 4 = .ok (.iload_n 0, 1) := by decide +kernel
theorem dX10_fits_5 : decode cX10_fits 5 = .ok (.iaload, 1) := by decide +kernel
theorem dX10_fits_6 : decode cX10_fits 6 = .ok (.if_icmp .lt 16, 3) := by decide +kernel
theorem dX10_fits_9 : decode cX10_fits 9 = .ok (.iload_n 1, 1) := by decide +kernel
theorem dX10_fits_10 : decode cX10_fits 10 = .ok (.getstatic 283, 3) := by decide +kernel
theorem dX10_fits_13 : decode cX10_fits 13 = .ok (.iload_n 0, 1) := by decide +kernel
theorem dX10_fits_14 : decode cX10_fits 14 = .ok (.iaload, 1) := by decide +kernel
theorem dX10_fits_15 : decode cX10_fits 15 = .ok (.if_icmp .gt 7, 3) := by decide +kernel
theorem dX10_fits_18 : decode cX10_fits 18 = .ok (.iconst 1, 1) := by decide +kernel
theorem dX10_fits_19 : decode cX10_fits 19 = .ok (.goto 4, 3) := by decide +kernel
theorem dX10_fits_22 : decode cX10_fits 22 = .ok (.iconst 0, 1) := by decide +kernel
theorem dX10_fits_23 : decode cX10_fits 23 = .ok (.ireturn, 1) := by decide +kernel
theorem dX10_addSlip_0 : decode cX10_addSlip 0 = .ok (.iload_n 1, 1) := by decide +kernel
theorem dX10_addSlip_1 : decode cX10_addSlip 1 = .ok (.ifCond .lt 34, 3) := by decide +kernel
theorem dX10_addSlip_4 : decode cX10_addSlip 4 = .ok (.iload_n 1, 1) := by decide +kernel
theorem dX10_addSlip_5 : decode cX10_addSlip 5 = .ok (.bipush 6, 2) := by decide +kernel
theorem dX10_addSlip_7 : decode cX10_addSlip 7 = .ok (.if_icmp .ge 28, 3) := by decide +kernel
theorem dX10_addSlip_10 : decode cX10_addSlip 10 = .ok (.iload_n 2, 1) := by decide +kernel
theorem dX10_addSlip_11 : decode cX10_addSlip 11 = .ok (.invokestatic 157, 3) := by decide +kernel
theorem dX10_addSlip_14 : decode cX10_addSlip 14 = .ok (.ifCond .eq 21, 3) := by decide +kernel
theorem dX10_addSlip_17 : decode cX10_addSlip 17 = .ok (.iload_n 3, 1) := by decide +kernel
theorem dX10_addSlip_18 : decode cX10_addSlip 18 = .ok (.ifCond .lt 17, 3) := by decide +kernel
theorem dX10_addSlip_21 : decode cX10_addSlip 21 = .ok (.iload_n 3, 1) := by decide +kernel
theorem dX10_addSlip_22 : decode cX10_addSlip 22 = .ok (.bipush 10, 2) := by decide +kernel
theorem dX10_addSlip_24 : decode cX10_addSlip 24 = .ok (.idiv, 1) := by decide +kernel
theorem dX10_addSlip_25 : decode cX10_addSlip 25 = .ok (.invokestatic 180, 3) := by decide +kernel
theorem dX10_addSlip_28 : decode cX10_addSlip 28 = .ok (.ifCond .eq 7, 3) := by decide +kernel
theorem dX10_addSlip_31 : decode cX10_addSlip 31 = .ok (.iconst 1, 1) := by decide +kernel
theorem dX10_addSlip_32 : decode cX10_addSlip 32 = .ok (.goto 4, 3) := by decide +kernel
theorem dX10_addSlip_35 : decode cX10_addSlip 35 = .ok (.iconst 0, 1) := by decide +kernel
theorem dX10_addSlip_36 : decode cX10_addSlip 36 = .ok (.istore 4, 2) := by decide +kernel
theorem dX10_addSlip_38 : decode cX10_addSlip 38 = .ok (.iload 4, 2) := by decide +kernel
theorem dX10_addSlip_40 : decode cX10_addSlip 40 = .ok (.ifCond .eq 23, 3) := by decide +kernel
theorem dX10_addSlip_43 : decode cX10_addSlip 43 = .ok (.aload_n 0, 1) := by decide +kernel
theorem dX10_addSlip_44 : decode cX10_addSlip 44 = .ok (.getfield 10, 3) := by decide +kernel
theorem dX10_addSlip_47 : decode cX10_addSlip 47 = .ok (.iload_n 1, 1) := by decide +kernel
theorem dX10_addSlip_48 : decode cX10_addSlip 48 = .ok (.iload_n 2, 1) := by decide +kernel
theorem dX10_addSlip_49 : decode cX10_addSlip 49 = .ok (.iload_n 3, 1) := by decide +kernel
theorem dX10_addSlip_50 : decode cX10_addSlip 50 = .ok (.bipush 10, 2) := by decide +kernel
theorem dX10_addSlip_52 : decode cX10_addSlip 52 = .ok (.idiv, 1) := by decide +kernel
theorem dX10_addSlip_53 : decode cX10_addSlip 53 = .ok (.iload_n 3, 1) := by decide +kernel
theorem dX10_addSlip_54 : decode cX10_addSlip 54 = .ok (.bipush 10, 2) := by decide +kernel
theorem dX10_addSlip_56 : decode cX10_addSlip 56 = .ok (.irem, 1) := by decide +kernel
theorem dX10_addSlip_57 : decode cX10_addSlip 57 = .ok (.invokevirtual 286, 3) := by decide +kernel
theorem dX10_addSlip_60 : decode cX10_addSlip 60 = .ok (.goto 5, 3) := by decide +kernel
theorem dX10_addSlip_63 : decode cX10_addSlip 63 = .ok (.bipush (-2), 2) := by decide +kernel
theorem dX10_addSlip_65 : decode cX10_addSlip 65 = .ok (.ireturn, 1) := by decide +kernel
theorem dX10_moveSlip_0 : decode cX10_moveSlip 0 = .ok (.aload_n 0, 1) := by decide +kernel
theorem dX10_moveSlip_1 : decode cX10_moveSlip 1 = .ok (.getfield 10, 3) := by decide +kernel
theorem dX10_moveSlip_4 : decode cX10_moveSlip 4 = .ok (.iload_n 1, 1) := by decide +kernel
theorem dX10_moveSlip_5 : decode cX10_moveSlip 5 = .ok (.invokevirtual 118, 3) := by decide +kernel
theorem dX10_moveSlip_8 : decode cX10_moveSlip 8 = .ok (.ifCond .eq 10, 3) := by decide +kernel
theorem dX10_moveSlip_11 : decode cX10_moveSlip 11 = .ok (.iload_n 2, 1) := by decide +kernel
theorem dX10_moveSlip_12 : decode cX10_moveSlip 12 = .ok (.invokestatic 157, 3) := by decide +kernel
theorem dX10_moveSlip_15 : decode cX10_moveSlip 15 = .ok (.ifCond .ne 6, 3) := by decide +kernel
theorem dX10_moveSlip_18 : decode cX10_moveSlip 18 = .ok (.bipush (-2), 2) := by decide +kernel
theorem dX10_moveSlip_20 : decode cX10_moveSlip 20 = .ok (.ireturn, 1) := by decide +kernel
theorem dX10_moveSlip_21 : decode cX10_moveSlip 21 = .ok (.aload_n 0, 1) := by decide +kernel
theorem dX10_moveSlip_22 : decode cX10_moveSlip 22 = .ok (.getfield 10, 3) := by decide +kernel
theorem dX10_moveSlip_25 : decode cX10_moveSlip 25 = .ok (.getfield 121, 3) := by decide +kernel
theorem dX10_moveSlip_28 : decode cX10_moveSlip 28 = .ok (.iload_n 1, 1) := by decide +kernel
theorem dX10_moveSlip_29 : decode cX10_moveSlip 29 = .ok (.aaload, 1) := by decide +kernel
theorem dX10_moveSlip_30 : decode cX10_moveSlip 30 = .ok (.astore_n 3, 1) := by decide +kernel
theorem dX10_moveSlip_31 : decode cX10_moveSlip 31 = .ok (.aload_n 3, 1) := by decide +kernel
theorem dX10_moveSlip_32 : decode cX10_moveSlip 32 = .ok (.getfield 130, 3) := by decide +kernel
theorem dX10_moveSlip_35 : decode cX10_moveSlip 35 = .ok (.istore 4, 2) := by decide +kernel
theorem dX10_moveSlip_37 : decode cX10_moveSlip 37 = .ok (.aload_n 3, 1) := by decide +kernel
theorem dX10_moveSlip_38 : decode cX10_moveSlip 38 = .ok (.iload_n 2, 1) := by decide +kernel
theorem dX10_moveSlip_39 : decode cX10_moveSlip 39 = .ok (.putfield 130, 3) := by decide +kernel
theorem dX10_moveSlip_42 : decode cX10_moveSlip 42 = .ok (.aload_n 0, 1) := by decide +kernel
theorem dX10_moveSlip_43 : decode cX10_moveSlip 43 = .ok (.getfield 21, 3) := by decide +kernel
theorem dX10_moveSlip_46 : decode cX10_moveSlip 46 = .ok (.iconst 1, 1) := by decide +kernel
theorem dX10_moveSlip_47 : decode cX10_moveSlip 47 = .ok (.putfield 93, 3) := by decide +kernel
theorem dX10_moveSlip_50 : decode cX10_moveSlip 50 = .ok (.iload 4, 2) := by decide +kernel
theorem dX10_moveSlip_52 : decode cX10_moveSlip 52 = .ok (.ireturn, 1) := by decide +kernel
theorem dX10_settledCourse_0 : decode cX10_settledCourse 0 = .ok (.aload_n 0, 1) := by decide +kernel
theorem dX10_settledCourse_1 : decode cX10_settledCourse 1 = .ok (.getfield 21, 3) := by decide +kernel
theorem dX10_settledCourse_4 : decode cX10_settledCourse 4 = .ok (.getfield 93, 3) := by decide +kernel
theorem dX10_settledCourse_7 : decode cX10_settledCourse 7 = .ok (.ifCond .eq 10, 3) := by decide +kernel
theorem dX10_settledCourse_10 : decode cX10_settledCourse 10 = .ok (.aload_n 0, 1) := by decide +kernel
theorem dX10_settledCourse_11 : decode cX10_settledCourse 11 = .ok (.getfield 21, 3) := by decide +kernel
theorem dX10_settledCourse_14 : decode cX10_settledCourse 14 = .ok (.invokevirtual 207, 3) := by decide +kernel
theorem dX10_settledCourse_17 : decode cX10_settledCourse 17 = .ok (.aload_n 0, 1) := by decide +kernel
theorem dX10_settledCourse_18 : decode cX10_settledCourse 18 = .ok (.getfield 21, 3) := by decide +kernel
theorem dX10_settledCourse_21 : decode cX10_settledCourse 21 = .ok (.areturn, 1) := by decide +kernel
theorem dX10_harmIfReading_0 : decode cX10_harmIfReading 0 = .ok (.aload_n 0, 1) := by decide +kernel
theorem dX10_harmIfReading_1 : decode cX10_harmIfReading 1 = .ok (.getfield 10, 3) := by decide +kernel
theorem dX10_harmIfReading_4 : decode cX10_harmIfReading 4 = .ok (.getfield 108, 3) := by decide +kernel
theorem dX10_harmIfReading_7 : decode cX10_harmIfReading 7 = .ok (.iload_n 1, 1) := by decide +kernel
theorem dX10_harmIfReading_8 : decode cX10_harmIfReading 8 = .ok (.aaload, 1) := by decide +kernel
theorem dX10_harmIfReading_9 : decode cX10_harmIfReading 9 = .ok (.getfield 112, 3) := by decide +kernel
theorem dX10_harmIfReading_12 : decode cX10_harmIfReading 12 = .ok (.astore_n 3, 1) := by decide +kernel
theorem dX10_harmIfReading_13 : decode cX10_harmIfReading 13 = .ok (.aload_n 3, 1) := by decide +kernel
theorem dX10_harmIfReading_14 : decode cX10_harmIfReading 14 = .ok (.iconst 2, 1) := by decide +kernel
theorem dX10_harmIfReading_15 : decode cX10_harmIfReading 15 = .ok (.iaload, 1) := by decide +kernel
theorem dX10_harmIfReading_16 : decode cX10_harmIfReading 16 = .ok (.istore 4, 2) := by decide +kernel
theorem dX10_harmIfReading_18 : decode cX10_harmIfReading 18 = .ok (.aload_n 3, 1) := by decide +kernel
theorem dX10_harmIfReading_19 : decode cX10_harmIfReading 19 = .ok (.iconst 2, 1) := by decide +kernel
theorem dX10_harmIfReading_20 : decode cX10_harmIfReading 20 = .ok (.iload_n 2, 1) := by decide +kernel
theorem dX10_harmIfReading_21 : decode cX10_harmIfReading 21 = .ok (.iastore, 1) := by decide +kernel
theorem dX10_harmIfReading_22 : decode cX10_harmIfReading 22 = .ok (.aload_n 0, 1) := by decide +kernel
theorem dX10_harmIfReading_23 : decode cX10_harmIfReading 23 = .ok (.getfield 21, 3) := by decide +kernel
theorem dX10_harmIfReading_26 : decode cX10_harmIfReading 26 = .ok (.invokevirtual 207, 3) := by decide +kernel
theorem dX10_harmIfReading_29 : decode cX10_harmIfReading 29 = .ok (.aload_n 0, 1) := by decide +kernel
theorem dX10_harmIfReading_30 : decode cX10_harmIfReading 30 = .ok (.getfield 21, 3) := by decide +kernel
theorem dX10_harmIfReading_33 : decode cX10_harmIfReading 33 = .ok (.invokevirtual 198, 3) := by decide +kernel
theorem dX10_harmIfReading_36 : decode cX10_harmIfReading 36 = .ok (.istore 5, 2) := by decide +kernel
theorem dX10_harmIfReading_38 : decode cX10_harmIfReading 38 = .ok (.aload_n 3, 1) := by decide +kernel
theorem dX10_harmIfReading_39 : decode cX10_harmIfReading 39 = .ok (.iconst 2, 1) := by decide +kernel
theorem dX10_harmIfReading_40 : decode cX10_harmIfReading 40 = .ok (.iload 4, 2) := by decide +kernel
theorem dX10_harmIfReading_42 : decode cX10_harmIfReading 42 = .ok (.iastore, 1) := by decide +kernel
theorem dX10_harmIfReading_43 : decode cX10_harmIfReading 43 = .ok (.aload_n 0, 1) := by decide +kernel
theorem dX10_harmIfReading_44 : decode cX10_harmIfReading 44 = .ok (.getfield 21, 3) := by decide +kernel
theorem dX10_harmIfReading_47 : decode cX10_harmIfReading 47 = .ok (.iconst 1, 1) := by decide +kernel
theorem dX10_harmIfReading_48 : decode cX10_harmIfReading 48 = .ok (.putfield 93, 3) := by decide +kernel
theorem dX10_harmIfReading_51 : decode cX10_harmIfReading 51 = .ok (.iload 5, 2) := by decide +kernel
theorem dX10_harmIfReading_53 : decode cX10_harmIfReading 53 = .ok (.ireturn, 1) := by decide +kernel
theorem dX10_greatestDivisor_0 : decode cX10_greatestDivisor 0 = .ok (.iload_n 0, 1) := by decide +kernel
theorem dX10_greatestDivisor_1 : decode cX10_greatestDivisor 1 = .ok (.istore_n 2, 1) := by decide +kernel
theorem dX10_greatestDivisor_2 : decode cX10_greatestDivisor 2 = .ok (.iload_n 1, 1) := by decide +kernel
theorem dX10_greatestDivisor_3 : decode cX10_greatestDivisor 3 = .ok (.istore_n 3, 1) := by decide +kernel
theorem dX10_greatestDivisor_4 : decode cX10_greatestDivisor 4 = .ok (.iconst 0, 1) := by decide +kernel
theorem dX10_greatestDivisor_5 : decode cX10_greatestDivisor 5 = .ok (.istore 4, 2) := by decide +kernel
theorem dX10_greatestDivisor_7 : decode cX10_greatestDivisor 7 = .ok (.iload 4, 2) := by decide +kernel
theorem dX10_greatestDivisor_9 : decode cX10_greatestDivisor 9 = .ok (.bipush 100, 2) := by decide +kernel
theorem dX10_greatestDivisor_11 : decode cX10_greatestDivisor 11 = .ok (.if_icmp .ge 23, 3) := by decide +kernel
theorem dX10_greatestDivisor_14 : decode cX10_greatestDivisor 14 = .ok (.iload_n 3, 1) := by decide +kernel
theorem dX10_greatestDivisor_15 : decode cX10_greatestDivisor 15 = .ok (.ifCond .eq 19, 3) := by decide +kernel
theorem dX10_greatestDivisor_18 : decode cX10_greatestDivisor 18 = .ok (.iload_n 2, 1) := by decide +kernel
theorem dX10_greatestDivisor_19 : decode cX10_greatestDivisor 19 = .ok (.iload_n 3, 1) := by decide +kernel
theorem dX10_greatestDivisor_20 : decode cX10_greatestDivisor 20 = .ok (.irem, 1) := by decide +kernel
theorem dX10_greatestDivisor_21 : decode cX10_greatestDivisor 21 = .ok (.istore 5, 2) := by decide +kernel
theorem dX10_greatestDivisor_23 : decode cX10_greatestDivisor 23 = .ok (.iload_n 3, 1) := by decide +kernel
theorem dX10_greatestDivisor_24 : decode cX10_greatestDivisor 24 = .ok (.istore_n 2, 1) := by decide +kernel
theorem dX10_greatestDivisor_25 : decode cX10_greatestDivisor 25 = .ok (.iload 5, 2) := by decide +kernel
theorem dX10_greatestDivisor_27 : decode cX10_greatestDivisor 27 = .ok (.istore_n 3, 1) := by decide +kernel
theorem dX10_greatestDivisor_28 : decode cX10_greatestDivisor 28 = .ok (.iinc 4 1, 3) := by decide +kernel
theorem dX10_greatestDivisor_31 : decode cX10_greatestDivisor 31 = .ok (.goto (-24), 3) := by decide +kernel
theorem dX10_greatestDivisor_34 : decode cX10_greatestDivisor 34 = .ok (.iload_n 2, 1) := by decide +kernel
theorem dX10_greatestDivisor_35 : decode cX10_greatestDivisor 35 = .ok (.ireturn, 1) := by decide +kernel
theorem dX11_init_0 : decode cX11_init 0 = .ok (.aload_n 0, 1) := by decide +kernel
theorem dX11_init_1 : decode cX11_init 1 = .ok (.invokespecial 1, 3) := by decide +kernel
theorem dX11_init_4 : decode cX11_init 4 = .ok (.aload_n 0, 1) := by decide +kernel
theorem dX11_init_5 : decode cX11_init 5 = .ok (.iconst 5, 1) := by decide +kernel
theorem dX11_init_6 : decode cX11_init 6 = .ok (.newarray .int, 2) := by decide +kernel
theorem dX11_init_8 : decode cX11_init 8 = .ok (.putfield 7, 3) := by decide +kernel
theorem dX11_init_11 : decode cX11_init 11 = .ok (.aload_n 0, 1) := by decide +kernel
theorem dX11_init_12 : decode cX11_init 12 = .ok (.iconst 5, 1) := by decide +kernel
theorem dX11_init_13 : decode cX11_init 13 = .ok (.newarray .int, 2) := by decide +kernel
theorem dX11_init_15 : decode cX11_init 15 = .ok (.putfield 13, 3) := by decide +kernel
theorem dX11_init_18 : decode cX11_init 18 = .ok (.aload_n 0, 1) := by decide +kernel
theorem dX11_init_19 : decode cX11_init 19 = .ok (.iconst 5, 1) := by decide +kernel
theorem dX11_init_20 : decode cX11_init 20 = .ok (.newarray .int, 2) := by decide +kernel
theorem dX11_init_22 : decode cX11_init 22 = .ok (.putfield 16, 3) := by decide +kernel
theorem dX11_init_25 : decode cX11_init 25 = .ok (.aload_n 0, 1) := by decide +kernel
theorem dX11_init_26 : decode cX11_init 26 = .ok (.iconst 5, 1) := by decide +kernel
theorem dX11_init_27 : decode cX11_init 27 = .ok (.newarray .int, 2) := by decide +kernel
theorem dX11_init_29 : decode cX11_init 29 = .ok (.putfield 19, 3) := by decide +kernel
theorem dX11_init_32 : decode cX11_init 32 = .ok (.aload_n 0, 1) := by decide +kernel
theorem dX11_init_33 : decode cX11_init 33 = .ok (.bipush 10, 2) := by decide +kernel
theorem dX11_init_35 : decode cX11_init 35 = .ok (.newarray .int, 2) := by decide +kernel
theorem dX11_init_37 : decode cX11_init 37 = .ok (.putfield 22, 3) := by decide +kernel
theorem dX11_init_40 : decode cX11_init 40 = .ok (.aload_n 0, 1) := by decide +kernel
theorem dX11_init_41 : decode cX11_init 41 = .ok (.bipush 10, 2) := by decide +kernel
theorem dX11_init_43 : decode cX11_init 43 = .ok (.newarray .int, 2) := by decide +kernel
theorem dX11_init_45 : decode cX11_init 45 = .ok (.putfield 25, 3) := by decide +kernel
theorem dX11_init_48 : decode cX11_init 48 = .ok (.aload_n 0, 1) := by decide +kernel
theorem dX11_init_49 : decode cX11_init 49 = .ok (.bipush 10, 2) := by decide +kernel
theorem dX11_init_51 : decode cX11_init 51 = .ok (.newarray .int, 2) := by decide +kernel
theorem dX11_init_53 : decode cX11_init 53 = .ok (.putfield 28, 3) := by decide +kernel
theorem dX11_init_56 : decode cX11_init 56 = .ok (.aload_n 0, 1) := by decide +kernel
theorem dX11_init_57 : decode cX11_init 57 = .ok (.bipush 10, 2) := by decide +kernel
theorem dX11_init_59 : decode cX11_init 59 = .ok (.newarray .int, 2) := by decide +kernel
theorem dX11_init_61 : decode cX11_init 61 = .ok (.putfield 31, 3) := by decide +kernel
theorem dX11_init_64 : decode cX11_init 64 = .ok (.aload_n 0, 1) := by decide +kernel
theorem dX11_init_65 : decode cX11_init 65 = .ok (.bipush 20, 2) := by decide +kernel
theorem dX11_init_67 : decode cX11_init 67 = .ok (.newarray .int, 2) := by decide +kernel
theorem dX11_init_69 : decode cX11_init 69 = .ok (.putfield 34, 3) := by decide +kernel
theorem dX11_init_72 : decode cX11_init 72 = .ok (.aload_n 0, 1) := by decide +kernel
theorem dX11_init_73 : decode cX11_init 73 = .ok (.bipush 20, 2) := by decide +kernel
theorem dX11_init_75 : decode cX11_init 75 = .ok (.newarray .int, 2) := by decide +kernel
theorem dX11_init_77 : decode cX11_init 77 = .ok (.putfield 37, 3) := by decide +kernel
theorem dX11_init_80 : decode cX11_init 80 = .ok (.aload_n 0, 1) := by decide +kernel
theorem dX11_init_81 : decode cX11_init 81 = .ok (.sipush 160, 3) := by decide +kernel
theorem dX11_init_84 : decode cX11_init 84 = .ok (.newarray .int, 2) := by decide +kernel
theorem dX11_init_86 : decode cX11_init 86 = .ok (.putfield 40, 3) := by decide +kernel
theorem dX11_init_89 : decode cX11_init 89 = .ok (.aload_n 0, 1) := by decide +kernel
theorem dX11_init_90 : decode cX11_init 90 = .ok (.sipush 1020, 3) := by decide +kernel
theorem dX11_init_93 : decode cX11_init 93 = .ok (.newarray .int, 2) := by decide +kernel
theorem dX11_init_95 : decode cX11_init 95 = .ok (.putfield 43, 3) := by decide +kernel
theorem dX11_init_98 : decode cX11_init 98 = .ok (.aload_n 0, 1) := by decide +kernel
theorem dX11_init_99 : decode cX11_init 99 = .ok (.bipush 24, 2) := by decide +kernel
theorem dX11_init_101 : decode cX11_init 101 = .ok (.newarray .int, 2) := by decide +kernel
theorem dX11_init_103 : decode cX11_init 103 = .ok (.putfield 46, 3) := by decide +kernel
theorem dX11_init_106 : decode cX11_init 106 = .ok (.aload_n 0, 1) := by decide +kernel
theorem dX11_init_107 : decode cX11_init 107 = .ok (.sipush 170, 3) := by decide +kernel
theorem dX11_init_110 : decode cX11_init 110 = .ok (.newarray .int, 2) := by decide +kernel
theorem dX11_init_112 : decode cX11_init 112 = .ok (.putfield 49, 3) := by decide +kernel
theorem dX11_init_115 : decode cX11_init 115 = .ok (.aload_n 0, 1) := by decide +kernel
theorem dX11_init_116 : decode cX11_init 116 = .ok (.bipush 50, 2) := by decide +kernel
theorem dX11_init_118 : decode cX11_init 118 = .ok (.newarray .int, 2) := by decide +kernel
theorem dX11_init_120 : decode cX11_init 120 = .ok (.putfield 52, 3) := by decide +kernel
theorem dX11_init_123 : decode cX11_init 123 = .ok (.aload_n 0, 1) := by decide +kernel
theorem dX11_init_124 : decode cX11_init 124 = .ok (.bipush 20, 2) := by decide +kernel
theorem dX11_init_126 : decode cX11_init 126 = .ok (.newarray .int, 2) := by decide +kernel
theorem dX11_init_128 : decode cX11_init 128 = .ok (.putfield 55, 3) := by decide +kernel
theorem dX11_init_131 : decode cX11_init 131 = .ok (.aload_n 0, 1) := by decide +kernel
theorem dX11_init_132 : decode cX11_init 132 = .ok (.iconst 4, 1) := by decide +kernel
theorem dX11_init_133 : decode cX11_init 133 = .ok (.newarray .int, 2) := by decide +kernel
theorem dX11_init_135 : decode cX11_init 135 = .ok (.putfield 58, 3) := by decide +kernel
theorem dX11_init_138 : decode cX11_init 138 = .ok (.aload_n 0, 1) := by decide +kernel
theorem dX11_init_139 : decode cX11_init 139 = .ok (.iconst 4, 1) := by decide +kernel
theorem dX11_init_140 : decode cX11_init 140 = .ok (.newarray .int, 2) := by decide +kernel
theorem dX11_init_142 : decode cX11_init 142 = .ok (.putfield 61, 3) := by decide +kernel
theorem dX11_init_145 : decode cX11_init 145 = .ok (.aload_n 0, 1) := by decide +kernel
theorem dX11_init_146 : decode cX11_init 146 = .ok (.iconst 4, 1) := by decide +kernel
theorem dX11_init_147 : decode cX11_init 147 = .ok (.newarray .int, 2) := by decide +kernel
theorem dX11_init_149 : decode cX11_init 149 = .ok (.putfield 64, 3) := by decide +kernel
theorem dX11_init_152 : decode cX11_init 152 = .ok (.aload_n 0, 1) := by decide +kernel
theorem dX11_init_153 : decode cX11_init 153 = .ok (.bipush 10, 2) := by decide +kernel
theorem dX11_init_155 : decode cX11_init 155 = .ok (.newarray .int, 2) := by decide +kernel
theorem dX11_init_157 : decode cX11_init 157 = .ok (.putfield 67, 3) := by decide +kernel
theorem dX11_init_160 : decode cX11_init 160 = .ok (.aload_n 0, 1) := by decide +kernel
theorem dX11_init_161 : decode cX11_init 161 = .ok (.sipush 1024, 3) := by decide +kernel
theorem dX11_init_164 : decode cX11_init 164 = .ok (.newarray .long, 2) := by decide +kernel
theorem dX11_init_166 : decode cX11_init 166 = .ok (.putfield 70, 3) := by decide +kernel
theorem dX11_init_169 : decode cX11_init 169 = .ok (.aload_n 0, 1) := by decide +kernel
theorem dX11_init_170 : decode cX11_init 170 = .ok (.bipush 10, 2) := by decide +kernel
theorem dX11_init_172 : decode cX11_init 172 = .ok (.newarray .int, 2) := by decide +kernel
theorem dX11_init_174 : decode cX11_init 174 = .ok (.putfield 74, 3) := by decide +kernel
theorem dX11_init_177 : decode cX11_init 177 = .ok (.aload_n 0, 1) := by decide +kernel
theorem dX11_init_178 : decode cX11_init 178 = .ok (.iconst 5, 1) := by decide +kernel
theorem dX11_init_179 : decode cX11_init 179 = .ok (.newarray .int, 2) := by decide +kernel
theorem dX11_init_181 : decode cX11_init 181 = .ok (.putfield 77, 3) := by decide +kernel
theorem dX11_init_184 : decode cX11_init 184 = .ok (.aload_n 0, 1) := by decide +kernel
theorem dX11_init_185 : decode cX11_init 185 = .ok (.iconst 5, 1) := by decide +kernel
theorem dX11_init_186 : decode cX11_init 186 = .ok (.newarray .int, 2) := by decide +kernel
theorem dX11_init_188 : decode cX11_init 188 = .ok (.putfield 80, 3) := by decide +kernel
theorem dX11_init_191 : decode cX11_init 191 = .ok (.aload_n 0, 1) := by decide +kernel
theorem dX11_init_192 : decode cX11_init 192 = .ok (.iconst 5, 1) := by decide +kernel
theorem dX11_init_193 : decode cX11_init 193 = .ok (.newarray .int, 2) := by decide +kernel
theorem dX11_init_195 : decode cX11_init 195 = .ok (.putfield 83, 3) := by decide +kernel
theorem dX11_init_198 : decode cX11_init 198 = .ok (.aload_n 0, 1) := by decide +kernel
theorem dX11_init_199 : decode cX11_init 199 = .ok (.iconst 5, 1) := by decide +kernel
theorem dX11_init_200 : decode cX11_init 200 = .ok (.newarray .int, 2) := by decide +kernel
theorem dX11_init_202 : decode cX11_init 202 = .ok (.putfield 86, 3) := by decide +kernel
theorem dX11_init_205 : decode cX11_init 205 = .ok (.aload_n 0, 1) := by decide +kernel
theorem dX11_init_206 : decode cX11_init 206 = .ok (.bipush 10, 2) := by decide +kernel
theorem dX11_init_208 : decode cX11_init 208 = .ok (.newarray .int, 2) := by decide +kernel
theorem dX11_init_210 : decode cX11_init 210 = .ok (.putfield 89, 3) := by decide +kernel
theorem dX11_init_213 : decode cX11_init 213 = .ok (.aload_n 0, 1) := by decide +kernel
theorem dX11_init_214 : decode cX11_init 214 = .ok (.iconst 4, 1) := by decide +kernel
theorem dX11_init_215 : decode cX11_init 215 = .ok (.newarray .int, 2) := by decide +kernel
theorem dX11_init_217 : decode cX11_init 217 = .ok (.putfield 92, 3) := by decide +kernel
theorem dX11_init_220 : decode cX11_init 220 = .ok (.aload_n 0, 1) := by decide +kernel
theorem dX11_init_221 : decode cX11_init 221 = .ok (.iconst 4, 1) := by decide +kernel
theorem dX11_init_222 : decode cX11_init 222 = .ok (.newarray .int, 2) := by decide +kernel
theorem dX11_init_224 : decode cX11_init 224 = .ok (.putfield 95, 3) := by decide +kernel
theorem dX11_init_227 : decode cX11_init 227 = .ok (.aload_n 0, 1) := by decide +kernel
theorem dX11_init_228 : decode cX11_init 228 = .ok (.sipush 160, 3) := by decide +kernel
theorem dX11_init_231 : decode cX11_init 231 = .ok (.newarray .int, 2) := by decide +kernel
theorem dX11_init_233 : decode cX11_init 233 = .ok (.putfield 98, 3) := by decide +kernel
theorem dX11_init_236 : decode cX11_init 236 = .ok (.aload_n 0, 1) := by decide +kernel
theorem dX11_init_237 : decode cX11_init 237 = .ok (.bipush 40, 2) := by decide +kernel
theorem dX11_init_239 : decode cX11_init 239 = .ok (.newarray .int, 2) := by decide +kernel
theorem dX11_init_241 : decode cX11_init 241 = .ok (.putfield 101, 3) := by decide +kernel
theorem dX11_init_244 : decode cX11_init 244 = .ok (.iconst 0, 1) := by decide +kernel
theorem dX11_init_245 : decode cX11_init 245 = .ok (.istore_n 1, 1) := by decide +kernel
theorem dX11_init_246 : decode cX11_init 246 = .ok (.iload_n 1, 1) := by decide +kernel
theorem dX11_init_247 : decode cX11_init 247 = .ok (.iconst 4, 1) := by decide +kernel
theorem dX11_init_248 : decode cX11_init 248 = .ok (.if_icmp .ge 16, 3) := by decide +kernel
theorem dX11_init_251 : decode cX11_init 251 = .ok (.aload_n 0, 1) := by decide +kernel
theorem dX11_init_252 : decode cX11_init 252 = .ok (.getfield 92, 3) := by decide +kernel
theorem dX11_init_255 : decode cX11_init 255 = .ok (.iload_n 1, 1) := by decide +kernel
theorem dX11_init_256 : decode cX11_init 256 = .ok (.iconst (-1), 1) := by decide +kernel
theorem dX11_init_257 : decode cX11_init 257 = .ok (.iastore, 1) := by decide +kernel
theorem dX11_init_258 : decode cX11_init 258 = .ok (.iinc 1 1, 3) := by decide +kernel
theorem dX11_init_261 : decode cX11_init 261 = .ok (.goto (-15), 3) := by decide +kernel
theorem dX11_init_264 : decode cX11_init 264 = .ok (.ldc 104, 2) := by decide +kernel
theorem dX11_init_266 : decode cX11_init 266 = .ok (.astore_n 1, 1) := by decide +kernel
theorem dX11_init_267 : decode cX11_init 267 = .ok (.iconst 0, 1) := by decide +kernel
theorem dX11_init_268 : decode cX11_init 268 = .ok (.istore_n 2, 1) := by decide +kernel
theorem dX11_init_269 : decode cX11_init 269 = .ok (.iload_n 2, 1) := by decide +kernel
theorem dX11_init_270 : decode cX11_init 270 = .ok (.aload_n 1, 1) := by decide +kernel
theorem dX11_init_271 : decode cX11_init 271 = .ok (.invokevirtual 106, 3) := by decide +kernel
theorem dX11_init_274 : decode cX11_init 274 = .ok (.if_icmp .ge 19, 3) := by decide +kernel
theorem dX11_init_277 : decode cX11_init 277 = .ok (.aload_n 0, 1) := by decide +kernel
theorem dX11_init_278 : decode cX11_init 278 = .ok (.aload_n 1, 1) := by decide +kernel
theorem dX11_init_279 : decode cX11_init 279 = .ok (.iload_n 2, 1) := by decide +kernel
theorem dX11_init_280 : decode cX11_init 280 = .ok (.invokevirtual 112, 3) := by decide +kernel
theorem dX11_init_283 : decode cX11_init 283 = .ok (.invokevirtual 116, 3) := by decide +kernel
theorem dX11_init_286 : decode cX11_init 286 = .ok (.pop, 1) := by decide +kernel
theorem dX11_init_287 : decode cX11_init 287 = .ok (.iinc 2 1, 3) := by decide +kernel
theorem dX11_init_290 : decode cX11_init 290 = .ok (.goto (-21), 3) := by decide +kernel
theorem dX11_init_293 : decode cX11_init 293 = .ok (.aload_n 0, 1) := by decide +kernel
theorem dX11_init_294 : decode cX11_init 294 = .ok (.invokevirtual 120, 3) := by decide +kernel
theorem dX11_init_297 : decode cX11_init 297 = .ok (.pop, 1) := by decide +kernel
theorem dX11_init_298 : decode cX11_init 298 = .ok (.return_, 1) := by decide +kernel
theorem dX11_within_0 : decode cX11_within 0 = .ok (.iload_n 0, 1) := by decide +kernel
theorem dX11_within_1 : decode cX11_within 1 = .ok (.iload_n 1, 1) := by decide +kernel
theorem dX11_within_2 : decode cX11_within 2 = .ok (.if_icmp .lt 12, 3) := by decide +kernel
theorem dX11_within_5 : decode cX11_within 5 = .ok (.iload_n 0, 1) := by decide +kernel
theorem dX11_within_6 : decode cX11_within 6 = .ok (.iload_n 2, 1) := by decide +kernel
theorem dX11_within_7 : decode cX11_within 7 = .ok (.if_icmp .gt 7, 3) := by decide +kernel
theorem dX11_within_10 : decode cX11_within 10 = .ok (.iconst 1, 1) := by decide +kernel
theorem dX11_within_11 : decode cX11_within 11 = .ok (.goto 4, 3) := by decide +kernel
theorem dX11_within_14 : decode cX11_within 14 = .ok (.iconst 0, 1) := by decide +kernel
theorem dX11_within_15 : decode cX11_within 15 = .ok (.ireturn, 1) := by decide +kernel
theorem dX11_isPerson_0 : decode cX11_isPerson 0 = .ok (.iload_n 1, 1) := by decide +kernel
theorem dX11_isPerson_1 : decode cX11_isPerson 1 = .ok (.iconst 0, 1) := by decide +kernel
theorem dX11_isPerson_2 : decode cX11_isPerson 2 = .ok (.aload_n 0, 1) := by decide +kernel
theorem dX11_isPerson_3 : decode cX11_isPerson 3 = .ok (.getfield 123, 3) := by decide +kernel
theorem dX11_isPerson_6 : decode cX11_isPerson 6 = .ok (.iconst 1, 1) := by decide +kernel
theorem dX11_isPerson_7 : decode cX11_isPerson 7 = .ok (.isub, 1) := by decide +kernel
theorem dX11_isPerson_8 : decode cX11_isPerson 8 = .ok (.invokestatic 127, 3) := by decide +kernel
theorem dX11_isPerson_11 : decode cX11_isPerson 11 = .ok (.ireturn, 1) := by decide +kernel
theorem dX11_isNote_0 : decode cX11_isNote 0 = .ok (.iload_n 1, 1) := by decide +kernel
theorem dX11_isNote_1 : decode cX11_isNote 1 = .ok (.iconst 0, 1) := by decide +kernel
theorem dX11_isNote_2 : decode cX11_isNote 2 = .ok (.aload_n 0, 1) := by decide +kernel
theorem dX11_isNote_3 : decode cX11_isNote 3 = .ok (.getfield 131, 3) := by decide +kernel
theorem dX11_isNote_6 : decode cX11_isNote 6 = .ok (.iconst 1, 1) := by decide +kernel
theorem dX11_isNote_7 : decode cX11_isNote 7 = .ok (.isub, 1) := by decide +kernel
theorem dX11_isNote_8 : decode cX11_isNote 8 = .ok (.invokestatic 127, 3) := by decide +kernel
theorem dX11_isNote_11 : decode cX11_isNote 11 = .ok (.ireturn, 1) := by decide +kernel
theorem dX11_person_0 : decode cX11_person 0 = .ok (.iload_n 1, 1) := by decide +kernel
theorem dX11_person_1 : decode cX11_person 1 = .ok (.iconst 0, 1) := by decide +kernel
theorem dX11_person_2 : decode cX11_person 2 = .ok (.bipush 47, 2) := by decide +kernel
theorem dX11_person_4 : decode cX11_person 4 = .ok (.invokestatic 127, 3) := by decide +kernel
theorem dX11_person_7 : decode cX11_person 7 = .ok (.ifCond .eq 24, 3) := by decide +kernel
theorem dX11_person_10 : decode cX11_person 10 = .ok (.iload_n 2, 1) := by decide +kernel
theorem dX11_person_11 : decode cX11_person 11 = .ok (.iconst 1, 1) := by decide +kernel
theorem dX11_person_12 : decode cX11_person 12 = .ok (.bipush 24, 2) := by decide +kernel
theorem dX11_person_14 : decode cX11_person 14 = .ok (.invokestatic 127, 3) := by decide +kernel
theorem dX11_person_17 : decode cX11_person 17 = .ok (.ifCond .eq 14, 3) := by decide +kernel
theorem dX11_person_20 : decode cX11_person 20 = .ok (.iload_n 3, 1) := by decide +kernel
theorem dX11_person_21 : decode cX11_person 21 = .ok (.iconst 0, 1) := by decide +kernel
theorem dX11_person_22 : decode cX11_person 22 = .ok (.sipush 129, 3) := by decide +kernel
theorem dX11_person_25 : decode cX11_person 25 = .ok (.invokestatic 127, 3) := by decide +kernel
theorem dX11_person_28 : decode cX11_person 28 = .ok (.ifCond .ne 6, 3) := by decide +kernel
theorem dX11_person_31 : decode cX11_person 31 = .ok (.bipush (-2), 2) := by decide +kernel
theorem dX11_person_33 : decode cX11_person 33 = .ok (.ireturn, 1) := by decide +kernel
theorem dX11_person_34 : decode cX11_person 34 = .ok (.aload_n 0, 1) := by decide +kernel
theorem dX11_person_35 : decode cX11_person 35 = .ok (.getfield 123, 3) := by decide +kernel
theorem dX11_person_38 : decode cX11_person 38 = .ok (.iconst 5, 1) := by decide +kernel
theorem dX11_person_39 : decode cX11_person 39 = .ok (.if_icmp .ne 6, 3) := by decide +kernel
theorem dX11_person_42 : decode cX11_person 42 = .ok (.bipush (-4), 2) := by decide +kernel
theorem dX11_person_44 : decode cX11_person 44 = .ok (.ireturn, 1) := by decide +kernel
theorem dX11_person_45 : decode cX11_person 45 = .ok (.aload_n 0, 1) := by decide +kernel
theorem dX11_person_46 : decode cX11_person 46 = .ok (.getfield 7, 3) := by decide +kernel
theorem dX11_person_49 : decode cX11_person 49 = .ok (.aload_n 0, 1) := by decide +kernel
theorem dX11_person_50 : decode cX11_person 50 = .ok (.getfield 123, 3) := by decide +kernel
theorem dX11_person_53 : decode cX11_person 53 = .ok (.iload_n 1, 1) := by decide +kernel
theorem dX11_person_54 : decode cX11_person 54 = .ok (.iastore, 1) := by decide +kernel
theorem dX11_person_55 : decode cX11_person 55 = .ok (.aload_n 0, 1) := by decide +kernel
theorem dX11_person_56 : decode cX11_person 56 = .ok (.getfield 13, 3) := by decide +kernel
theorem dX11_person_59 : decode cX11_person 59 = .ok (.aload_n 0, 1) := by decide +kernel
theorem dX11_person_60 : decode cX11_person 60 = .ok (.getfield 123, 3) := by decide +kernel
theorem dX11_person_63 : decode cX11_person 63 = .ok (.iload_n 2, 1) := by decide +kernel
theorem dX11_person_64 : decode cX11_person 64 = .ok (.iastore, 1) := by decide +kernel
theorem dX11_person_65 : decode cX11_person 65 = .ok (.aload_n 0, 1) := by decide +kernel
theorem dX11_person_66 : decode cX11_person 66 = .ok (.getfield 16, 3) := by decide +kernel
theorem dX11_person_69 : decode cX11_person 69 = .ok (.aload_n 0, 1) := by decide +kernel
theorem dX11_person_70 : decode cX11_person 70 = .ok (.getfield 123, 3) := by decide +kernel
theorem dX11_person_73 : decode cX11_person 73 = .ok (.iload_n 3, 1) := by decide +kernel
theorem dX11_person_74 : decode cX11_person 74 = .ok (.bipush 10, 2) := by decide +kernel
theorem dX11_person_76 : decode cX11_person 76 = .ok (.idiv, 1) := by decide +kernel
theorem dX11_person_77 : decode cX11_person 77 = .ok (.iastore, 1) := by decide +kernel
theorem dX11_person_78 : decode cX11_person 78 = .ok (.aload_n 0, 1) := by decide +kernel
theorem dX11_person_79 : decode cX11_person 79 = .ok (.getfield 19, 3) := by decide +kernel
theorem dX11_person_82 : decode cX11_person 82 = .ok (.aload_n 0, 1) := by decide +kernel
theorem dX11_person_83 : decode cX11_person 83 = .ok (.getfield 123, 3) := by decide +kernel
theorem dX11_person_86 : decode cX11_person 86 = .ok (.iload_n 3, 1) := by decide +kernel
theorem dX11_person_87 : decode cX11_person 87 = .ok (.bipush 10, 2) := by decide +kernel
theorem dX11_person_89 : decode cX11_person 89 = .ok (.irem, 1) := by decide +kernel
theorem dX11_person_90 : decode cX11_person 90 = .ok (.iastore, 1) := by decide +kernel
theorem dX11_person_91 : decode cX11_person 91 = .ok (.aload_n 0, 1) := by decide +kernel
theorem dX11_person_92 : decode cX11_person 92 = .ok (.dup, 1) := by decide +kernel
theorem dX11_person_93 : decode cX11_person 93 = .ok (.getfield 123, 3) := by decide +kernel
theorem dX11_person_96 : decode cX11_person 96 = .ok (.dup_x1, 1) := by decide +kernel
theorem dX11_person_97 : decode cX11_person 97 = .ok (.iconst 1, 1) := by decide +kernel
theorem dX11_person_98 : decode cX11_person 98 = .ok (.iadd, 1) := by decide +kernel
theorem dX11_person_99 : decode cX11_person 99 = .ok (.putfield 123, 3) := by decide +kernel
theorem dX11_person_102 : decode cX11_person 102 = .ok (.ireturn, 1) := by decide +kernel
theorem dX11_note_0 : decode cX11_note 0 = .ok (.iload_n 1, 1) := by decide +kernel
theorem dX11_note_1 : decode cX11_note 1 = .ok (.iconst 0, 1) := by decide +kernel
theorem dX11_note_2 : decode cX11_note 2 = .ok (.iconst 5, 1) := by decide +kernel
theorem dX11_note_3 : decode cX11_note 3 = .ok (.invokestatic 127, 3) := by decide +kernel
theorem dX11_note_6 : decode cX11_note 6 = .ok (.ifCond .eq 23, 3) := by decide +kernel
theorem dX11_note_9 : decode cX11_note 9 = .ok (.iload_n 2, 1) := by decide +kernel
theorem dX11_note_10 : decode cX11_note 10 = .ok (.iconst 0, 1) := by decide +kernel
theorem dX11_note_11 : decode cX11_note 11 = .ok (.bipush 47, 2) := by decide +kernel
theorem dX11_note_13 : decode cX11_note 13 = .ok (.invokestatic 127, 3) := by decide +kernel
theorem dX11_note_16 : decode cX11_note 16 = .ok (.ifCond .eq 13, 3) := by decide +kernel
theorem dX11_note_19 : decode cX11_note 19 = .ok (.iload_n 3, 1) := by decide +kernel
theorem dX11_note_20 : decode cX11_note 20 = .ok (.iconst 0, 1) := by decide +kernel
theorem dX11_note_21 : decode cX11_note 21 = .ok (.bipush 39, 2) := by decide +kernel
theorem dX11_note_23 : decode cX11_note 23 = .ok (.invokestatic 127, 3) := by decide +kernel
theorem dX11_note_26 : decode cX11_note 26 = .ok (.ifCond .ne 6, 3) := by decide +kernel
theorem dX11_note_29 : decode cX11_note 29 = .ok (.bipush (-2), 2) := by decide +kernel
theorem dX11_note_31 : decode cX11_note 31 = .ok (.ireturn, 1) := by decide +kernel
theorem dX11_note_32 : decode cX11_note 32 = .ok (.aload_n 0, 1) := by decide +kernel
theorem dX11_note_33 : decode cX11_note 33 = .ok (.getfield 131, 3) := by decide +kernel
theorem dX11_note_36 : decode cX11_note 36 = .ok (.bipush 10, 2) := by decide +kernel
theorem dX11_note_38 : decode cX11_note 38 = .ok (.if_icmp .ne 6, 3) := by decide +kernel
theorem dX11_note_41 : decode cX11_note 41 = .ok (.bipush (-4), 2) := by decide +kernel
theorem dX11_note_43 : decode cX11_note 43 = .ok (.ireturn, 1) := by decide +kernel
theorem dX11_note_44 : decode cX11_note 44 = .ok (.aload_n 0, 1) := by decide +kernel
theorem dX11_note_45 : decode cX11_note 45 = .ok (.getfield 22, 3) := by decide +kernel
theorem dX11_note_48 : decode cX11_note 48 = .ok (.aload_n 0, 1) := by decide +kernel
theorem dX11_note_49 : decode cX11_note 49 = .ok (.getfield 131, 3) := by decide +kernel
theorem dX11_note_52 : decode cX11_note 52 = .ok (.iload_n 1, 1) := by decide +kernel
theorem dX11_note_53 : decode cX11_note 53 = .ok (.iastore, 1) := by decide +kernel
theorem dX11_note_54 : decode cX11_note 54 = .ok (.aload_n 0, 1) := by decide +kernel
theorem dX11_note_55 : decode cX11_note 55 = .ok (.getfield 25, 3) := by decide +kernel
theorem dX11_note_58 : decode cX11_note 58 = .ok (.aload_n 0, 1) := by decide +kernel
theorem dX11_note_59 : decode cX11_note 59 = .ok (.getfield 131, 3) := by decide +kernel
theorem dX11_note_62 : decode cX11_note 62 = .ok (.iload_n 2, 1) := by decide +kernel
theorem dX11_note_63 : decode cX11_note 63 = .ok (.iastore, 1) := by decide +kernel
theorem dX11_note_64 : decode cX11_note 64 = .ok (.aload_n 0, 1) := by decide +kernel
theorem dX11_note_65 : decode cX11_note 65 = .ok (.getfield 28, 3) := by decide +kernel
theorem dX11_note_68 : decode cX11_note 68 = .ok (.aload_n 0, 1) := by decide +kernel
theorem dX11_note_69 : decode cX11_note 69 = .ok (.getfield 131, 3) := by decide +kernel
theorem dX11_note_72 : decode cX11_note 72 = .ok (.iload_n 3, 1) := by decide +kernel
theorem dX11_note_73 : decode cX11_note 73 = .ok (.bipush 10, 2) := by decide +kernel
theorem dX11_note_75 : decode cX11_note 75 = .ok (.idiv, 1) := by decide +kernel
theorem dX11_note_76 : decode cX11_note 76 = .ok (.iastore, 1) := by decide +kernel
theorem dX11_note_77 : decode cX11_note 77 = .ok (.aload_n 0, 1) := by decide +kernel
theorem dX11_note_78 : decode cX11_note 78 = .ok (.getfield 31, 3) := by decide +kernel
theorem dX11_note_81 : decode cX11_note 81 = .ok (.aload_n 0, 1) := by decide +kernel
theorem dX11_note_82 : decode cX11_note 82 = .ok (.getfield 131, 3) := by decide +kernel
theorem dX11_note_85 : decode cX11_note 85 = .ok (.iload_n 3, 1) := by decide +kernel
theorem dX11_note_86 : decode cX11_note 86 = .ok (.bipush 10, 2) := by decide +kernel
theorem dX11_note_88 : decode cX11_note 88 = .ok (.irem, 1) := by decide +kernel
theorem dX11_note_89 : decode cX11_note 89 = .ok (.iastore, 1) := by decide +kernel
theorem dX11_note_90 : decode cX11_note 90 = .ok (.aload_n 0, 1) := by decide +kernel
theorem dX11_note_91 : decode cX11_note 91 = .ok (.dup, 1) := by decide +kernel
theorem dX11_note_92 : decode cX11_note 92 = .ok (.getfield 131, 3) := by decide +kernel
theorem dX11_note_95 : decode cX11_note 95 = .ok (.dup_x1, 1) := by decide +kernel
theorem dX11_note_96 : decode cX11_note 96 = .ok (.iconst 1, 1) := by decide +kernel
theorem dX11_note_97 : decode cX11_note 97 = .ok (.iadd, 1) := by decide +kernel
theorem dX11_note_98 : decode cX11_note 98 = .ok (.putfield 131, 3) := by decide +kernel
theorem dX11_note_101 : decode cX11_note 101 = .ok (.ireturn, 1) := by decide +kernel
theorem dX11_set_0 : decode cX11_set 0 = .ok (.iload_n 1, 1) := by decide +kernel
theorem dX11_set_1 : decode cX11_set 1 = .ok (.iconst 0, 1) := by decide +kernel
theorem dX11_set_2 : decode cX11_set 2 = .ok (.iconst 4, 1) := by decide +kernel
theorem dX11_set_3 : decode cX11_set 3 = .ok (.invokestatic 127, 3) := by decide +kernel
theorem dX11_set_6 : decode cX11_set 6 = .ok (.ifCond .ne 6, 3) := by decide +kernel
theorem dX11_set_9 : decode cX11_set 9 = .ok (.bipush (-2), 2) := by decide +kernel
theorem dX11_set_11 : decode cX11_set 11 = .ok (.ireturn, 1) := by decide +kernel
theorem dX11_set_12 : decode cX11_set 12 = .ok (.iload_n 1, 1) := by decide +kernel
theorem dX11_set_13 : decode cX11_set 13 = .ok (.iconst 4, 1) := by decide +kernel
theorem dX11_set_14 : decode cX11_set 14 = .ok (.if_icmp .ne 14, 3) := by decide +kernel
theorem dX11_set_17 : decode cX11_set 17 = .ok (.aload_n 0, 1) := by decide +kernel
theorem dX11_set_18 : decode cX11_set 18 = .ok (.iload_n 2, 1) := by decide +kernel
theorem dX11_set_19 : decode cX11_set 19 = .ok (.invokevirtual 134, 3) := by decide +kernel
theorem dX11_set_22 : decode cX11_set 22 = .ok (.ifCond .ne 17, 3) := by decide +kernel
theorem dX11_set_25 : decode cX11_set 25 = .ok (.goto 11, 3) := by decide +kernel
theorem dX11_set_28 : decode cX11_set 28 = .ok (.aload_n 0, 1) := by decide +kernel
theorem dX11_set_29 : decode cX11_set 29 = .ok (.iload_n 2, 1) := by decide +kernel
theorem dX11_set_30 : decode cX11_set 30 = .ok (.invokevirtual 138, 3) := by decide +kernel
theorem dX11_set_33 : decode cX11_set 33 = .ok (.ifCond .ne 6, 3) := by decide +kernel
theorem dX11_set_36 : decode cX11_set 36 = .ok (.bipush (-2), 2) := by decide +kernel
theorem dX11_set_38 : decode cX11_set 38 = .ok (.ireturn, 1) := by decide +kernel
theorem dX11_set_39 : decode cX11_set 39 = .ok (.iload_n 1, 1) := by decide +kernel
theorem dX11_set_40 : decode cX11_set 40 = .ok (.tableswitch 156 0 3 #[32, 63, 94, 125], 32) := by decide +kernel
theorem dX11_set_72 : decode cX11_set 72 = .ok (.iload_n 3, 1) := by decide +kernel
theorem dX11_set_73 : decode cX11_set 73 = .ok (.iconst 0, 1) := by decide +kernel
theorem dX11_set_74 : decode cX11_set 74 = .ok (.bipush 47, 2) := by decide +kernel
theorem dX11_set_76 : decode cX11_set 76 = .ok (.invokestatic 127, 3) := by decide +kernel
theorem dX11_set_79 : decode cX11_set 79 = .ok (.ifCond .ne 6, 3) := by decide +kernel
theorem dX11_set_82 : decode cX11_set 82 = .ok (.bipush (-2), 2) := by decide +kernel
theorem dX11_set_84 : decode cX11_set 84 = .ok (.ireturn, 1) := by decide +kernel
theorem dX11_set_85 : decode cX11_set 85 = .ok (.aload_n 0, 1) := by decide +kernel
theorem dX11_set_86 : decode cX11_set 86 = .ok (.getfield 7, 3) := by decide +kernel
theorem dX11_set_89 : decode cX11_set 89 = .ok (.iload_n 2, 1) := by decide +kernel
theorem dX11_set_90 : decode cX11_set 90 = .ok (.iaload, 1) := by decide +kernel
theorem dX11_set_91 : decode cX11_set 91 = .ok (.istore 4, 2) := by decide +kernel
theorem dX11_set_93 : decode cX11_set 93 = .ok (.aload_n 0, 1) := by decide +kernel
theorem dX11_set_94 : decode cX11_set 94 = .ok (.getfield 7, 3) := by decide +kernel
theorem dX11_set_97 : decode cX11_set 97 = .ok (.iload_n 2, 1) := by decide +kernel
theorem dX11_set_98 : decode cX11_set 98 = .ok (.iload_n 3, 1) := by decide +kernel
theorem dX11_set_99 : decode cX11_set 99 = .ok (.iastore, 1) := by decide +kernel
theorem dX11_set_100 : decode cX11_set 100 = .ok (.iload 4, 2) := by decide +kernel
theorem dX11_set_102 : decode cX11_set 102 = .ok (.ireturn, 1) := by decide +kernel
theorem dX11_set_103 : decode cX11_set 103 = .ok (.iload_n 3, 1) := by decide +kernel
theorem dX11_set_104 : decode cX11_set 104 = .ok (.iconst 1, 1) := by decide +kernel
theorem dX11_set_105 : decode cX11_set 105 = .ok (.bipush 24, 2) := by decide +kernel
theorem dX11_set_107 : decode cX11_set 107 = .ok (.invokestatic 127, 3) := by decide +kernel
theorem dX11_set_110 : decode cX11_set 110 = .ok (.ifCond .ne 6, 3) := by decide +kernel
theorem dX11_set_113 : decode cX11_set 113 = .ok (.bipush (-2), 2) := by decide +kernel
theorem dX11_set_115 : decode cX11_set 115 = .ok (.ireturn, 1) := by decide +kernel
theorem dX11_set_116 : decode cX11_set 116 = .ok (.aload_n 0, 1) := by decide +kernel
theorem dX11_set_117 : decode cX11_set 117 = .ok (.getfield 13, 3) := by decide +kernel
theorem dX11_set_120 : decode cX11_set 120 = .ok (.iload_n 2, 1) := by decide +kernel
theorem dX11_set_121 : decode cX11_set 121 = .ok (.iaload, 1) := by decide +kernel
theorem dX11_set_122 : decode cX11_set 122 = .ok (.istore 4, 2) := by decide +kernel
theorem dX11_set_124 : decode cX11_set 124 = .ok (.aload_n 0, 1) := by decide +kernel
theorem dX11_set_125 : decode cX11_set 125 = .ok (.getfield 13, 3) := by decide +kernel
theorem dX11_set_128 : decode cX11_set 128 = .ok (.iload_n 2, 1) := by decide +kernel
theorem dX11_set_129 : decode cX11_set 129 = .ok (.iload_n 3, 1) := by decide +kernel
theorem dX11_set_130 : decode cX11_set 130 = .ok (.iastore, 1) := by decide +kernel
theorem dX11_set_131 : decode cX11_set 131 = .ok (.iload 4, 2) := by decide +kernel
theorem dX11_set_133 : decode cX11_set 133 = .ok (.ireturn, 1) := by decide +kernel
theorem dX11_set_134 : decode cX11_set 134 = .ok (.iload_n 3, 1) := by decide +kernel
theorem dX11_set_135 : decode cX11_set 135 = .ok (.iconst 0, 1) := by decide +kernel
theorem dX11_set_136 : decode cX11_set 136 = .ok (.bipush 12, 2) := by decide +kernel
theorem dX11_set_138 : decode cX11_set 138 = .ok (.invokestatic 127, 3) := by decide +kernel
theorem dX11_set_141 : decode cX11_set 141 = .ok (.ifCond .ne 6, 3) := by decide +kernel
theorem dX11_set_144 : decode cX11_set 144 = .ok (.bipush (-2), 2) := by decide +kernel
theorem dX11_set_146 : decode cX11_set 146 = .ok (.ireturn, 1) := by decide +kernel
theorem dX11_set_147 : decode cX11_set 147 = .ok (.aload_n 0, 1) := by decide +kernel
theorem dX11_set_148 : decode cX11_set 148 = .ok (.getfield 16, 3) := by decide +kernel
theorem dX11_set_151 : decode cX11_set 151 = .ok (.iload_n 2, 1) := by decide +kernel
theorem dX11_set_152 : decode cX11_set 152 = .ok (.iaload, 1) := by decide +kernel
theorem dX11_set_153 : decode cX11_set 153 = .ok (.istore 4, 2) := by decide +kernel
theorem dX11_set_155 : decode cX11_set 155 = .ok (.aload_n 0, 1) := by decide +kernel
theorem dX11_set_156 : decode cX11_set 156 = .ok (.getfield 16, 3) := by decide +kernel
theorem dX11_set_159 : decode cX11_set 159 = .ok (.iload_n 2, 1) := by decide +kernel
theorem dX11_set_160 : decode cX11_set 160 = .ok (.iload_n 3, 1) := by decide +kernel
theorem dX11_set_161 : decode cX11_set 161 = .ok (.iastore, 1) := by decide +kernel
theorem dX11_set_162 : decode cX11_set 162 = .ok (.iload 4, 2) := by decide +kernel
theorem dX11_set_164 : decode cX11_set 164 = .ok (.ireturn, 1) := by decide +kernel
theorem dX11_set_165 : decode cX11_set 165 = .ok (.iload_n 3, 1) := by decide +kernel
theorem dX11_set_166 : decode cX11_set 166 = .ok (.iconst 0, 1) := by decide +kernel
theorem dX11_set_167 : decode cX11_set 167 = .ok (.bipush 9, 2) := by decide +kernel
theorem dX11_set_169 : decode cX11_set 169 = .ok (.invokestatic 127, 3) := by decide +kernel
theorem dX11_set_172 : decode cX11_set 172 = .ok (.ifCond .ne 6, 3) := by decide +kernel
theorem dX11_set_175 : decode cX11_set 175 = .ok (.bipush (-2), 2) := by decide +kernel
theorem dX11_set_177 : decode cX11_set 177 = .ok (.ireturn, 1) := by decide +kernel
theorem dX11_set_178 : decode cX11_set 178 = .ok (.aload_n 0, 1) := by decide +kernel
theorem dX11_set_179 : decode cX11_set 179 = .ok (.getfield 19, 3) := by decide +kernel
theorem dX11_set_182 : decode cX11_set 182 = .ok (.iload_n 2, 1) := by decide +kernel
theorem dX11_set_183 : decode cX11_set 183 = .ok (.iaload, 1) := by decide +kernel
theorem dX11_set_184 : decode cX11_set 184 = .ok (.istore 4, 2) := by decide +kernel
theorem dX11_set_186 : decode cX11_set 186 = .ok (.aload_n 0, 1) := by decide +kernel
theorem dX11_set_187 : decode cX11_set 187 = .ok (.getfield 19, 3) := by decide +kernel
theorem dX11_set_190 : decode cX11_set 190 = .ok (.iload_n 2, 1) := by decide +kernel
theorem dX11_set_191 : decode cX11_set 191 = .ok (.iload_n 3, 1) := by decide +kernel
theorem dX11_set_192 : decode cX11_set 192 = .ok (.iastore, 1) := by decide +kernel
theorem dX11_set_193 : decode cX11_set 193 = .ok (.iload 4, 2) := by decide +kernel
theorem dX11_set_195 : decode cX11_set 195 = .ok (.ireturn, 1) := by decide +kernel
theorem dX11_set_196 : decode cX11_set 196 = .ok (.iload_n 3, 1) := by decide +kernel
theorem dX11_set_197 : decode cX11_set 197 = .ok (.iconst 0, 1) := by decide +kernel
theorem dX11_set_198 : decode cX11_set 198 = .ok (.bipush 47, 2) := by decide +kernel
theorem dX11_set_200 : decode cX11_set 200 = .ok (.invokestatic 127, 3) := by decide +kernel
theorem dX11_set_203 : decode cX11_set 203 = .ok (.ifCond .ne 6, 3) := by decide +kernel
theorem dX11_set_206 : decode cX11_set 206 = .ok (.bipush (-2), 2) := by decide +kernel
theorem dX11_set_208 : decode cX11_set 208 = .ok (.ireturn, 1) := by decide +kernel
theorem dX11_set_209 : decode cX11_set 209 = .ok (.aload_n 0, 1) := by decide +kernel
theorem dX11_set_210 : decode cX11_set 210 = .ok (.getfield 25, 3) := by decide +kernel
theorem dX11_set_213 : decode cX11_set 213 = .ok (.iload_n 2, 1) := by decide +kernel
theorem dX11_set_214 : decode cX11_set 214 = .ok (.iaload, 1) := by decide +kernel
theorem dX11_set_215 : decode cX11_set 215 = .ok (.istore 4, 2) := by decide +kernel
theorem dX11_set_217 : decode cX11_set 217 = .ok (.aload_n 0, 1) := by decide +kernel
theorem dX11_set_218 : decode cX11_set 218 = .ok (.getfield 25, 3) := by decide +kernel
theorem dX11_set_221 : decode cX11_set 221 = .ok (.iload_n 2, 1) := by decide +kernel
theorem dX11_set_222 : decode cX11_set 222 = .ok (.iload_n 3, 1) := by decide +kernel
theorem dX11_set_223 : decode cX11_set 223 = .ok (.iastore, 1) := by decide +kernel
theorem dX11_set_224 : decode cX11_set 224 = .ok (.iload 4, 2) := by decide +kernel
theorem dX11_set_226 : decode cX11_set 226 = .ok (.ireturn, 1) := by decide +kernel
theorem dX11_high_0 : decode cX11_high 0 = .ok (.aload_n 0, 1) := by decide +kernel
theorem dX11_high_1 : decode cX11_high 1 = .ok (.getfield 22, 3) := by decide +kernel
theorem dX11_high_4 : decode cX11_high 4 = .ok (.iload_n 1, 1) := by decide +kernel
theorem dX11_high_5 : decode cX11_high 5 = .ok (.iaload, 1) := by decide +kernel
theorem dX11_high_6 : decode cX11_high 6 = .ok (.tableswitch 70 2 5 #[30, 32, 41, 43], 30) := by decide +kernel
theorem dX11_high_36 : decode cX11_high 36 = .ok (.iconst 1, 1) := by decide +kernel
theorem dX11_high_37 : decode cX11_high 37 = .ok (.ireturn, 1) := by decide +kernel
theorem dX11_high_38 : decode cX11_high 38 = .ok (.aload_n 0, 1) := by decide +kernel
theorem dX11_high_39 : decode cX11_high 39 = .ok (.getfield 31, 3) := by decide +kernel
theorem dX11_high_42 : decode cX11_high 42 = .ok (.iload_n 1, 1) := by decide +kernel
theorem dX11_high_43 : decode cX11_high 43 = .ok (.iaload, 1) := by decide +kernel
theorem dX11_high_44 : decode cX11_high 44 = .ok (.iconst 3, 1) := by decide +kernel
theorem dX11_high_45 : decode cX11_high 45 = .ok (.idiv, 1) := by decide +kernel
theorem dX11_high_46 : decode cX11_high 46 = .ok (.ireturn, 1) := by decide +kernel
theorem dX11_high_47 : decode cX11_high 47 = .ok (.iconst 4, 1) := by decide +kernel
theorem dX11_high_48 : decode cX11_high 48 = .ok (.ireturn, 1) := by decide +kernel
theorem dX11_high_49 : decode cX11_high 49 = .ok (.aload_n 0, 1) := by decide +kernel
theorem dX11_high_50 : decode cX11_high 50 = .ok (.getfield 31, 3) := by decide +kernel
theorem dX11_high_53 : decode cX11_high 53 = .ok (.iload_n 1, 1) := by decide +kernel
theorem dX11_high_54 : decode cX11_high 54 = .ok (.iaload, 1) := by decide +kernel
theorem dX11_high_55 : decode cX11_high 55 = .ok (.iconst 3, 1) := by decide +kernel
theorem dX11_high_56 : decode cX11_high 56 = .ok (.idiv, 1) := by decide +kernel
theorem dX11_high_57 : decode cX11_high 57 = .ok (.iconst 2, 1) := by decide +kernel
theorem dX11_high_58 : decode cX11_high 58 = .ok (.if_icmp .le 16, 3) := by decide +kernel
theorem dX11_high_61 : decode cX11_high 61 = .ok (.aload_n 0, 1) := by decide +kernel
theorem dX11_high_62 : decode cX11_high 62 = .ok (.getfield 31, 3) := by decide +kernel
theorem dX11_high_65 : decode cX11_high 65 = .ok (.iload_n 1, 1) := by decide +kernel
theorem dX11_high_66 : decode cX11_high 66 = .ok (.iaload, 1) := by decide +kernel
theorem dX11_high_67 : decode cX11_high 67 = .ok (.iconst 3, 1) := by decide +kernel
theorem dX11_high_68 : decode cX11_high 68 = .ok (.idiv, 1) := by decide +kernel
theorem dX11_high_69 : decode cX11_high 69 = .ok (.iconst 2, 1) := by decide +kernel
theorem dX11_high_70 : decode cX11_high 70 = .ok (.isub, 1) := by decide +kernel
theorem dX11_high_71 : decode cX11_high 71 = .ok (.goto 4, 3) := by decide +kernel
theorem dX11_high_74 : decode cX11_high 74 = .ok (.iconst 0, 1) := by decide +kernel
theorem dX11_high_75 : decode cX11_high 75 = .ok (.ireturn, 1) := by decide +kernel
theorem dX11_high_76 : decode cX11_high 76 = .ok (.iconst 0, 1) := by decide +kernel
theorem dX11_high_77 : decode cX11_high 77 = .ok (.ireturn, 1) := by decide +kernel
theorem dX11_lasts_0 : decode cX11_lasts 0 = .ok (.aload_n 0, 1) := by decide +kernel
theorem dX11_lasts_1 : decode cX11_lasts 1 = .ok (.getfield 22, 3) := by decide +kernel
theorem dX11_lasts_4 : decode cX11_lasts 4 = .ok (.iload_n 1, 1) := by decide +kernel
theorem dX11_lasts_5 : decode cX11_lasts 5 = .ok (.iaload, 1) := by decide +kernel
theorem dX11_lasts_6 : decode cX11_lasts 6 = .ok (.tableswitch 81 1 5 #[34, 44, 47, 59, 69], 34) := by decide +kernel
theorem dX11_lasts_40 : decode cX11_lasts 40 = .ok (.bipush 12, 2) := by decide +kernel
theorem dX11_lasts_42 : decode cX11_lasts 42 = .ok (.aload_n 0, 1) := by decide +kernel
theorem dX11_lasts_43 : decode cX11_lasts 43 = .ok (.getfield 31, 3) := by decide +kernel
theorem dX11_lasts_46 : decode cX11_lasts 46 = .ok (.iload_n 1, 1) := by decide +kernel
theorem dX11_lasts_47 : decode cX11_lasts 47 = .ok (.iaload, 1) := by decide +kernel
theorem dX11_lasts_48 : decode cX11_lasts 48 = .ok (.iadd, 1) := by decide +kernel
theorem dX11_lasts_49 : decode cX11_lasts 49 = .ok (.ireturn, 1) := by decide +kernel
theorem dX11_lasts_50 : decode cX11_lasts 50 = .ok (.bipush 24, 2) := by decide +kernel
theorem dX11_lasts_52 : decode cX11_lasts 52 = .ok (.ireturn, 1) := by decide +kernel
theorem dX11_lasts_53 : decode cX11_lasts 53 = .ok (.bipush 12, 2) := by decide +kernel
theorem dX11_lasts_55 : decode cX11_lasts 55 = .ok (.aload_n 0, 1) := by decide +kernel
theorem dX11_lasts_56 : decode cX11_lasts 56 = .ok (.getfield 31, 3) := by decide +kernel
theorem dX11_lasts_59 : decode cX11_lasts 59 = .ok (.iload_n 1, 1) := by decide +kernel
theorem dX11_lasts_60 : decode cX11_lasts 60 = .ok (.iaload, 1) := by decide +kernel
theorem dX11_lasts_61 : decode cX11_lasts 61 = .ok (.iadd, 1) := by decide +kernel
theorem dX11_lasts_62 : decode cX11_lasts 62 = .ok (.iconst 2, 1) := by decide +kernel
theorem dX11_lasts_63 : decode cX11_lasts 63 = .ok (.idiv, 1) := by decide +kernel
theorem dX11_lasts_64 : decode cX11_lasts 64 = .ok (.ireturn, 1) := by decide +kernel
theorem dX11_lasts_65 : decode cX11_lasts 65 = .ok (.bipush 24, 2) := by decide +kernel
theorem dX11_lasts_67 : decode cX11_lasts 67 = .ok (.aload_n 0, 1) := by decide +kernel
theorem dX11_lasts_68 : decode cX11_lasts 68 = .ok (.getfield 31, 3) := by decide +kernel
theorem dX11_lasts_71 : decode cX11_lasts 71 = .ok (.iload_n 1, 1) := by decide +kernel
theorem dX11_lasts_72 : decode cX11_lasts 72 = .ok (.iaload, 1) := by decide +kernel
theorem dX11_lasts_73 : decode cX11_lasts 73 = .ok (.iadd, 1) := by decide +kernel
theorem dX11_lasts_74 : decode cX11_lasts 74 = .ok (.ireturn, 1) := by decide +kernel
theorem dX11_lasts_75 : decode cX11_lasts 75 = .ok (.bipush 12, 2) := by decide +kernel
theorem dX11_lasts_77 : decode cX11_lasts 77 = .ok (.aload_n 0, 1) := by decide +kernel
theorem dX11_lasts_78 : decode cX11_lasts 78 = .ok (.getfield 31, 3) := by decide +kernel
theorem dX11_lasts_81 : decode cX11_lasts 81 = .ok (.iload_n 1, 1) := by decide +kernel
theorem dX11_lasts_82 : decode cX11_lasts 82 = .ok (.iaload, 1) := by decide +kernel
theorem dX11_lasts_83 : decode cX11_lasts 83 = .ok (.iadd, 1) := by decide +kernel
theorem dX11_lasts_84 : decode cX11_lasts 84 = .ok (.iconst 2, 1) := by decide +kernel
theorem dX11_lasts_85 : decode cX11_lasts 85 = .ok (.idiv, 1) := by decide +kernel
theorem dX11_lasts_86 : decode cX11_lasts 86 = .ok (.ireturn, 1) := by decide +kernel
theorem dX11_lasts_87 : decode cX11_lasts 87 = .ok (.bipush 12, 2) := by decide +kernel
theorem dX11_lasts_89 : decode cX11_lasts 89 = .ok (.ireturn, 1) := by decide +kernel
theorem dX11_asks_0 : decode cX11_asks 0 = .ok (.aload_n 0, 1) := by decide +kernel
theorem dX11_asks_1 : decode cX11_asks 1 = .ok (.getfield 22, 3) := by decide +kernel
theorem dX11_asks_4 : decode cX11_asks 4 = .ok (.iload_n 1, 1) := by decide +kernel
theorem dX11_asks_5 : decode cX11_asks 5 = .ok (.iaload, 1) := by decide +kernel
theorem dX11_asks_6 : decode cX11_asks 6 = .ok (.iconst 2, 1) := by decide +kernel
theorem dX11_asks_7 : decode cX11_asks 7 = .ok (.if_icmp .ne 7, 3) := by decide +kernel
theorem dX11_asks_10 : decode cX11_asks 10 = .ok (.iconst 1, 1) := by decide +kernel
theorem dX11_asks_11 : decode cX11_asks 11 = .ok (.goto 18, 3) := by decide +kernel
theorem dX11_asks_14 : decode cX11_asks 14 = .ok (.aload_n 0, 1) := by decide +kernel
theorem dX11_asks_15 : decode cX11_asks 15 = .ok (.getfield 22, 3) := by decide +kernel
theorem dX11_asks_18 : decode cX11_asks 18 = .ok (.iload_n 1, 1) := by decide +kernel
theorem dX11_asks_19 : decode cX11_asks 19 = .ok (.iaload, 1) := by decide +kernel
theorem dX11_asks_20 : decode cX11_asks 20 = .ok (.iconst 4, 1) := by decide +kernel
theorem dX11_asks_21 : decode cX11_asks 21 = .ok (.if_icmp .ne 7, 3) := by decide +kernel
theorem dX11_asks_24 : decode cX11_asks 24 = .ok (.iconst 2, 1) := by decide +kernel
theorem dX11_asks_25 : decode cX11_asks 25 = .ok (.goto 4, 3) := by decide +kernel
theorem dX11_asks_28 : decode cX11_asks 28 = .ok (.iconst 0, 1) := by decide +kernel
theorem dX11_asks_29 : decode cX11_asks 29 = .ok (.ireturn, 1) := by decide +kernel
theorem dX11_tells_0 : decode cX11_tells 0 = .ok (.aload_n 0, 1) := by decide +kernel
theorem dX11_tells_1 : decode cX11_tells 1 = .ok (.getfield 22, 3) := by decide +kernel
theorem dX11_tells_4 : decode cX11_tells 4 = .ok (.iload_n 1, 1) := by decide +kernel
theorem dX11_tells_5 : decode cX11_tells 5 = .ok (.iaload, 1) := by decide +kernel
theorem dX11_tells_6 : decode cX11_tells 6 = .ok (.iconst 1, 1) := by decide +kernel
theorem dX11_tells_7 : decode cX11_tells 7 = .ok (.if_icmp .ne 7, 3) := by decide +kernel
theorem dX11_tells_10 : decode cX11_tells 10 = .ok (.iconst 1, 1) := by decide +kernel
theorem dX11_tells_11 : decode cX11_tells 11 = .ok (.goto 28, 3) := by decide +kernel
theorem dX11_tells_14 : decode cX11_tells 14 = .ok (.aload_n 0, 1) := by decide +kernel
theorem dX11_tells_15 : decode cX11_tells 15 = .ok (.getfield 22, 3) := by decide +kernel
theorem dX11_tells_18 : decode cX11_tells 18 = .ok (.iload_n 1, 1) := by decide +kernel
theorem dX11_tells_19 : decode cX11_tells 19 = .ok (.iaload, 1) := by decide +kernel
theorem dX11_tells_20 : decode cX11_tells 20 = .ok (.iconst 3, 1) := by decide +kernel
theorem dX11_tells_21 : decode cX11_tells 21 = .ok (.if_icmp .eq 13, 3) := by decide +kernel
theorem dX11_tells_24 : decode cX11_tells 24 = .ok (.aload_n 0, 1) := by decide +kernel
theorem dX11_tells_25 : decode cX11_tells 25 = .ok (.getfield 22, 3) := by decide +kernel
theorem dX11_tells_28 : decode cX11_tells 28 = .ok (.iload_n 1, 1) := by decide +kernel
theorem dX11_tells_29 : decode cX11_tells 29 = .ok (.iaload, 1) := by decide +kernel
theorem dX11_tells_30 : decode cX11_tells 30 = .ok (.iconst 5, 1) := by decide +kernel
theorem dX11_tells_31 : decode cX11_tells 31 = .ok (.if_icmp .ne 7, 3) := by decide +kernel
theorem dX11_tells_34 : decode cX11_tells 34 = .ok (.iconst 2, 1) := by decide +kernel
theorem dX11_tells_35 : decode cX11_tells 35 = .ok (.goto 4, 3) := by decide +kernel
theorem dX11_tells_38 : decode cX11_tells 38 = .ok (.iconst 0, 1) := by decide +kernel
theorem dX11_tells_39 : decode cX11_tells 39 = .ok (.ireturn, 1) := by decide +kernel
theorem dX11_told_0 : decode cX11_told 0 = .ok (.aload_n 0, 1) := by decide +kernel
theorem dX11_told_1 : decode cX11_told 1 = .ok (.iload_n 1, 1) := by decide +kernel
theorem dX11_told_2 : decode cX11_told 2 = .ok (.invokevirtual 134, 3) := by decide +kernel
theorem dX11_told_5 : decode cX11_told 5 = .ok (.ifCond .ne 6, 3) := by decide +kernel
theorem dX11_told_8 : decode cX11_told 8 = .ok (.bipush (-2), 2) := by decide +kernel
theorem dX11_told_10 : decode cX11_told 10 = .ok (.ireturn, 1) := by decide +kernel
theorem dX11_told_11 : decode cX11_told 11 = .ok (.iload_n 2, 1) := by decide +kernel
theorem dX11_told_12 : decode cX11_told 12 = .ok (.tableswitch 100 0 7 #[48, 55, 62, 69, 76, 82, 88, 94], 48) := by decide +kernel
theorem dX11_told_60 : decode cX11_told 60 = .ok (.aload_n 0, 1) := by decide +kernel
theorem dX11_told_61 : decode cX11_told 61 = .ok (.getfield 22, 3) := by decide +kernel
theorem dX11_told_64 : decode cX11_told 64 = .ok (.iload_n 1, 1) := by decide +kernel
theorem dX11_told_65 : decode cX11_told 65 = .ok (.iaload, 1) := by decide +kernel
theorem dX11_told_66 : decode cX11_told 66 = .ok (.ireturn, 1) := by decide +kernel
theorem dX11_told_67 : decode cX11_told 67 = .ok (.aload_n 0, 1) := by decide +kernel
theorem dX11_told_68 : decode cX11_told 68 = .ok (.getfield 25, 3) := by decide +kernel
theorem dX11_told_71 : decode cX11_told 71 = .ok (.iload_n 1, 1) := by decide +kernel
theorem dX11_told_72 : decode cX11_told 72 = .ok (.iaload, 1) := by decide +kernel
theorem dX11_told_73 : decode cX11_told 73 = .ok (.ireturn, 1) := by decide +kernel
theorem dX11_told_74 : decode cX11_told 74 = .ok (.aload_n 0, 1) := by decide +kernel
theorem dX11_told_75 : decode cX11_told 75 = .ok (.getfield 28, 3) := by decide +kernel
theorem dX11_told_78 : decode cX11_told 78 = .ok (.iload_n 1, 1) := by decide +kernel
theorem dX11_told_79 : decode cX11_told 79 = .ok (.iaload, 1) := by decide +kernel
theorem dX11_told_80 : decode cX11_told 80 = .ok (.ireturn, 1) := by decide +kernel
theorem dX11_told_81 : decode cX11_told 81 = .ok (.aload_n 0, 1) := by decide +kernel
theorem dX11_told_82 : decode cX11_told 82 = .ok (.getfield 31, 3) := by decide +kernel
theorem dX11_told_85 : decode cX11_told 85 = .ok (.iload_n 1, 1) := by decide +kernel
theorem dX11_told_86 : decode cX11_told 86 = .ok (.iaload, 1) := by decide +kernel
theorem dX11_told_87 : decode cX11_told 87 = .ok (.ireturn, 1) := by decide +kernel
theorem dX11_told_88 : decode cX11_told 88 = .ok (.aload_n 0, 1) := by decide +kernel
theorem dX11_told_89 : decode cX11_told 89 = .ok (.iload_n 1, 1) := by decide +kernel
theorem dX11_told_90 : decode cX11_told 90 = .ok (.invokevirtual 141, 3) := by decide +kernel
theorem dX11_told_93 : decode cX11_told 93 = .ok (.ireturn, 1) := by decide +kernel
theorem dX11_told_94 : decode cX11_told 94 = .ok (.aload_n 0, 1) := by decide +kernel
theorem dX11_told_95 : decode cX11_told 95 = .ok (.iload_n 1, 1) := by decide +kernel
theorem dX11_told_96 : decode cX11_told 96 = .ok (.invokevirtual 144, 3) := by decide +kernel
theorem dX11_told_99 : decode cX11_told 99 = .ok (.ireturn, 1) := by decide +kernel
theorem dX11_told_100 : decode cX11_told 100 = .ok (.aload_n 0, 1) := by decide +kernel
theorem dX11_told_101 : decode cX11_told 101 = .ok (.iload_n 1, 1) := by decide +kernel
theorem dX11_told_102 : decode cX11_told 102 = .ok (.invokevirtual 147, 3) := by decide +kernel
theorem dX11_told_105 : decode cX11_told 105 = .ok (.ireturn, 1) := by decide +kernel
theorem dX11_told_106 : decode cX11_told 106 = .ok (.aload_n 0, 1) := by decide +kernel
theorem dX11_told_107 : decode cX11_told 107 = .ok (.iload_n 1, 1) := by decide +kernel
theorem dX11_told_108 : decode cX11_told 108 = .ok (.invokevirtual 150, 3) := by decide +kernel
theorem dX11_told_111 : decode cX11_told 111 = .ok (.ireturn, 1) := by decide +kernel
theorem dX11_told_112 : decode cX11_told 112 = .ok (.bipush (-2), 2) := by decide +kernel
theorem dX11_told_114 : decode cX11_told 114 = .ok (.ireturn, 1) := by decide +kernel
theorem dX11_feed_0 : decode cX11_feed 0 = .ok (.iload_n 1, 1) := by decide +kernel
theorem dX11_feed_1 : decode cX11_feed 1 = .ok (.iconst 0, 1) := by decide +kernel
theorem dX11_feed_2 : decode cX11_feed 2 = .ok (.sipush 255, 3) := by decide +kernel
theorem dX11_feed_5 : decode cX11_feed 5 = .ok (.invokestatic 127, 3) := by decide +kernel
theorem dX11_feed_8 : decode cX11_feed 8 = .ok (.ifCond .ne 6, 3) := by decide +kernel
theorem dX11_feed_11 : decode cX11_feed 11 = .ok (.bipush (-2), 2) := by decide +kernel
theorem dX11_feed_13 : decode cX11_feed 13 = .ok (.ireturn, 1) := by decide +kernel
theorem dX11_feed_14 : decode cX11_feed 14 = .ok (.aload_n 0, 1) := by decide +kernel
theorem dX11_feed_15 : decode cX11_feed 15 = .ok (.getfield 153, 3) := by decide +kernel
theorem dX11_feed_18 : decode cX11_feed 18 = .ok (.sipush 160, 3) := by decide +kernel
theorem dX11_feed_21 : decode cX11_feed 21 = .ok (.if_icmp .ne 6, 3) := by decide +kernel
theorem dX11_feed_24 : decode cX11_feed 24 = .ok (.bipush (-4), 2) := by decide +kernel
theorem dX11_feed_26 : decode cX11_feed 26 = .ok (.ireturn, 1) := by decide +kernel
theorem dX11_feed_27 : decode cX11_feed 27 = .ok (.aload_n 0, 1) := by decide +kernel
theorem dX11_feed_28 : decode cX11_feed 28 = .ok (.getfield 40, 3) := by decide +kernel
theorem dX11_feed_31 : decode cX11_feed 31 = .ok (.aload_n 0, 1) := by decide +kernel
theorem dX11_feed_32 : decode cX11_feed 32 = .ok (.dup, 1) := by decide +kernel
theorem dX11_feed_33 : decode cX11_feed 33 = .ok (.getfield 153, 3) := by decide +kernel
theorem dX11_feed_36 : decode cX11_feed 36 = .ok (.dup_x1, 1) := by decide +kernel
theorem dX11_feed_37 : decode cX11_feed 37 = .ok (.iconst 1, 1) := by decide +kernel
theorem dX11_feed_38 : decode cX11_feed 38 = .ok (.iadd, 1) := by decide +kernel
theorem dX11_feed_39 : decode cX11_feed 39 = .ok (.putfield 153, 3) := by decide +kernel
theorem dX11_feed_42 : decode cX11_feed 42 = .ok (.iload_n 1, 1) := by decide +kernel
theorem dX11_feed_43 : decode cX11_feed 43 = .ok (.iastore, 1) := by decide +kernel
theorem dX11_feed_44 : decode cX11_feed 44 = .ok (.aload_n 0, 1) := by decide +kernel
theorem dX11_feed_45 : decode cX11_feed 45 = .ok (.getfield 153, 3) := by decide +kernel
theorem dX11_feed_48 : decode cX11_feed 48 = .ok (.ireturn, 1) := by decide +kernel
theorem dX11_next_0 : decode cX11_next 0 = .ok (.aload_n 0, 1) := by decide +kernel
theorem dX11_next_1 : decode cX11_next 1 = .ok (.getfield 156, 3) := by decide +kernel
theorem dX11_next_4 : decode cX11_next 4 = .ok (.aload_n 0, 1) := by decide +kernel
theorem dX11_next_5 : decode cX11_next 5 = .ok (.getfield 153, 3) := by decide +kernel
theorem dX11_next_8 : decode cX11_next 8 = .ok (.if_icmp .ge 44, 3) := by decide +kernel
theorem dX11_next_11 : decode cX11_next 11 = .ok (.aload_n 0, 1) := by decide +kernel
theorem dX11_next_12 : decode cX11_next 12 = .ok (.getfield 40, 3) := by decide +kernel
theorem dX11_next_15 : decode cX11_next 15 = .ok (.aload_n 0, 1) := by decide +kernel
theorem dX11_next_16 : decode cX11_next 16 = .ok (.getfield 156, 3) := by decide +kernel
theorem dX11_next_19 : decode cX11_next 19 = .ok (.iaload, 1) := by decide +kernel
theorem dX11_next_20 : decode cX11_next 20 = .ok (.bipush 32, 2) := by decide +kernel
theorem dX11_next_22 : decode cX11_next 22 = .ok (.if_icmp .eq 17, 3) := by decide +kernel
theorem dX11_next_25 : decode cX11_next 25 = .ok (.aload_n 0, 1) := by decide +kernel
theorem dX11_next_26 : decode cX11_next 26 = .ok (.getfield 40, 3) := by decide +kernel
theorem dX11_next_29 : decode cX11_next 29 = .ok (.aload_n 0, 1) := by decide +kernel
theorem dX11_next_30 : decode cX11_next 30 = .ok (.getfield 156, 3) := by decide +kernel
theorem dX11_next_33 : decode cX11_next 33 = .ok (.iaload, 1) := by decide +kernel
theorem dX11_next_34 : decode cX11_next 34 = .ok (.bipush 10, 2) := by decide +kernel
theorem dX11_next_36 : decode cX11_next 36 = .ok (.if_icmp .ne 16, 3) := by decide +kernel
theorem dX11_next_39 : decode cX11_next 39 = .ok (.aload_n 0, 1) := by decide +kernel
theorem dX11_next_40 : decode cX11_next 40 = .ok (.dup, 1) := by decide +kernel
theorem dX11_next_41 : decode cX11_next 41 = .ok (.getfield 156, 3) := by decide +kernel
theorem dX11_next_44 : decode cX11_next 44 = .ok (.iconst 1, 1) := by decide +kernel
theorem dX11_next_45 : decode cX11_next 45 = .ok (.iadd, 1) := by decide +kernel
theorem dX11_next_46 : decode cX11_next 46 = .ok (.putfield 156, 3) := by decide +kernel
theorem dX11_next_49 : decode cX11_next 49 = .ok (.goto (-49), 3) := by decide +kernel
theorem dX11_next_52 : decode cX11_next 52 = .ok (.aload_n 0, 1) := by decide +kernel
theorem dX11_next_53 : decode cX11_next 53 = .ok (.aload_n 0, 1) := by decide +kernel
theorem dX11_next_54 : decode cX11_next 54 = .ok (.getfield 156, 3) := by decide +kernel
theorem dX11_next_57 : decode cX11_next 57 = .ok (.putfield 159, 3) := by decide +kernel
theorem dX11_next_60 : decode cX11_next 60 = .ok (.aload_n 0, 1) := by decide +kernel
theorem dX11_next_61 : decode cX11_next 61 = .ok (.getfield 156, 3) := by decide +kernel
theorem dX11_next_64 : decode cX11_next 64 = .ok (.aload_n 0, 1) := by decide +kernel
theorem dX11_next_65 : decode cX11_next 65 = .ok (.getfield 153, 3) := by decide +kernel
theorem dX11_next_68 : decode cX11_next 68 = .ok (.if_icmp .ne 9, 3) := by decide +kernel
theorem dX11_next_71 : decode cX11_next 71 = .ok (.aload_n 0, 1) := by decide +kernel
theorem dX11_next_72 : decode cX11_next 72 = .ok (.iconst 0, 1) := by decide +kernel
theorem dX11_next_73 : decode cX11_next 73 = .ok (.putfield 162, 3) := by decide +kernel
theorem dX11_next_76 : decode cX11_next 76 = .ok (.return_, 1) := by decide +kernel
theorem dX11_next_77 : decode cX11_next 77 = .ok (.aload_n 0, 1) := by decide +kernel
theorem dX11_next_78 : decode cX11_next 78 = .ok (.getfield 40, 3) := by decide +kernel
theorem dX11_next_81 : decode cX11_next 81 = .ok (.aload_n 0, 1) := by decide +kernel
theorem dX11_next_82 : decode cX11_next 82 = .ok (.getfield 156, 3) := by decide +kernel
theorem dX11_next_85 : decode cX11_next 85 = .ok (.iaload, 1) := by decide +kernel
theorem dX11_next_86 : decode cX11_next 86 = .ok (.istore_n 1, 1) := by decide +kernel
theorem dX11_next_87 : decode cX11_next 87 = .ok (.iload_n 1, 1) := by decide +kernel
theorem dX11_next_88 : decode cX11_next 88 = .ok (.invokestatic 165, 3) := by decide +kernel
theorem dX11_next_91 : decode cX11_next 91 = .ok (.ifCond .eq 107, 3) := by decide +kernel
theorem dX11_next_94 : decode cX11_next 94 = .ok (.aload_n 0, 1) := by decide +kernel
theorem dX11_next_95 : decode cX11_next 95 = .ok (.iconst 0, 1) := by decide +kernel
theorem dX11_next_96 : decode cX11_next 96 = .ok (.putfield 168, 3) := by decide +kernel
theorem dX11_next_99 : decode cX11_next 99 = .ok (.aload_n 0, 1) := by decide +kernel
theorem dX11_next_100 : decode cX11_next 100 = .ok (.getfield 156, 3) := by decide +kernel
theorem dX11_next_103 : decode cX11_next 103 = .ok (.aload_n 0, 1) := by decide +kernel
theorem dX11_next_104 : decode cX11_next 104 = .ok (.getfield 153, 3) := by decide +kernel
theorem dX11_next_107 : decode cX11_next 107 = .ok (.if_icmp .ge 68, 3) := by decide +kernel
theorem dX11_next_110 : decode cX11_next 110 = .ok (.aload_n 0, 1) := by decide +kernel
theorem dX11_next_111 : decode cX11_next 111 = .ok (.getfield 40, 3) := by decide +kernel
theorem dX11_next_114 : decode cX11_next 114 = .ok (.aload_n 0, 1) := by decide +kernel
theorem dX11_next_115 : decode cX11_next 115 = .ok (.getfield 156, 3) := by decide +kernel
theorem dX11_next_118 : decode cX11_next 118 = .ok (.iaload, 1) := by decide +kernel
theorem dX11_next_119 : decode cX11_next 119 = .ok (.invokestatic 165, 3) := by decide +kernel
theorem dX11_next_122 : decode cX11_next 122 = .ok (.ifCond .eq 53, 3) := by decide +kernel
theorem dX11_next_125 : decode cX11_next 125 = .ok (.aload_n 0, 1) := by decide +kernel
theorem dX11_next_126 : decode cX11_next 126 = .ok (.getfield 156, 3) := by decide +kernel
theorem dX11_next_129 : decode cX11_next 129 = .ok (.aload_n 0, 1) := by decide +kernel
theorem dX11_next_130 : decode cX11_next 130 = .ok (.getfield 159, 3) := by decide +kernel
theorem dX11_next_133 : decode cX11_next 133 = .ok (.isub, 1) := by decide +kernel
theorem dX11_next_134 : decode cX11_next 134 = .ok (.iconst 4, 1) := by decide +kernel
theorem dX11_next_135 : decode cX11_next 135 = .ok (.if_icmp .ge 27, 3) := by decide +kernel
theorem dX11_next_138 : decode cX11_next 138 = .ok (.aload_n 0, 1) := by decide +kernel
theorem dX11_next_139 : decode cX11_next 139 = .ok (.bipush 10, 2) := by decide +kernel
theorem dX11_next_141 : decode cX11_next 141 = .ok (.aload_n 0, 1) := by decide +kernel
theorem dX11_next_142 : decode cX11_next 142 = .ok (.getfield 168, 3) := by decide +kernel
theorem dX11_next_145 : decode cX11_next 145 = .ok (.imul, 1) := by decide +kernel
theorem dX11_next_146 : decode cX11_next 146 = .ok (.aload_n 0, 1) := by decide +kernel
theorem dX11_next_147 : decode cX11_next 147 = .ok (.getfield 40, 3) := by decide +kernel
theorem dX11_next_150 : decode cX11_next 150 = .ok (.aload_n 0, 1) := by decide +kernel
theorem dX11_next_151 : decode cX11_next 151 = .ok (.getfield 156, 3) := by decide +kernel
theorem dX11_next_154 : decode cX11_next 154 = .ok (.iaload, 1) := by decide +kernel
theorem dX11_next_155 : decode cX11_next 155 = .ok (.iadd, 1) := by decide +kernel
theorem dX11_next_156 : decode cX11_next 156 = .ok (.bipush 48, 2) := by decide +kernel
theorem dX11_next_158 : decode cX11_next 158 = .ok (.isub, 1) := by decide +kernel
theorem dX11_next_159 : decode cX11_next 159 = .ok (.putfield 168, 3) := by decide +kernel
theorem dX11_next_162 : decode cX11_next 162 = .ok (.aload_n 0, 1) := by decide +kernel
theorem dX11_next_163 : decode cX11_next 163 = .ok (.dup, 1) := by decide +kernel
theorem dX11_next_164 : decode cX11_next 164 = .ok (.getfield 156, 3) := by decide +kernel
theorem dX11_next_167 : decode cX11_next 167 = .ok (.iconst 1, 1) := by decide +kernel
theorem dX11_next_168 : decode cX11_next 168 = .ok (.iadd, 1) := by decide +kernel
theorem dX11_next_169 : decode cX11_next 169 = .ok (.putfield 156, 3) := by decide +kernel
theorem dX11_next_172 : decode cX11_next 172 = .ok (.goto (-73), 3) := by decide +kernel
theorem dX11_next_175 : decode cX11_next 175 = .ok (.aload_n 0, 1) := by decide +kernel
theorem dX11_next_176 : decode cX11_next 176 = .ok (.aload_n 0, 1) := by decide +kernel
theorem dX11_next_177 : decode cX11_next 177 = .ok (.getfield 156, 3) := by decide +kernel
theorem dX11_next_180 : decode cX11_next 180 = .ok (.aload_n 0, 1) := by decide +kernel
theorem dX11_next_181 : decode cX11_next 181 = .ok (.getfield 159, 3) := by decide +kernel
theorem dX11_next_184 : decode cX11_next 184 = .ok (.isub, 1) := by decide +kernel
theorem dX11_next_185 : decode cX11_next 185 = .ok (.iconst 4, 1) := by decide +kernel
theorem dX11_next_186 : decode cX11_next 186 = .ok (.if_icmp .le 7, 3) := by decide +kernel
theorem dX11_next_189 : decode cX11_next 189 = .ok (.iconst 4, 1) := by decide +kernel
theorem dX11_next_190 : decode cX11_next 190 = .ok (.goto 4, 3) := by decide +kernel
theorem dX11_next_193 : decode cX11_next 193 = .ok (.iconst 1, 1) := by decide +kernel
theorem dX11_next_194 : decode cX11_next 194 = .ok (.putfield 162, 3) := by decide +kernel
theorem dX11_next_197 : decode cX11_next 197 = .ok (.return_, 1) := by decide +kernel
theorem dX11_next_198 : decode cX11_next 198 = .ok (.iload_n 1, 1) := by decide +kernel
theorem dX11_next_199 : decode cX11_next 199 = .ok (.invokestatic 171, 3) := by decide +kernel
theorem dX11_next_202 : decode cX11_next 202 = .ok (.ifCond .eq 48, 3) := by decide +kernel
theorem dX11_next_205 : decode cX11_next 205 = .ok (.aload_n 0, 1) := by decide +kernel
theorem dX11_next_206 : decode cX11_next 206 = .ok (.getfield 156, 3) := by decide +kernel
theorem dX11_next_209 : decode cX11_next 209 = .ok (.aload_n 0, 1) := by decide +kernel
theorem dX11_next_210 : decode cX11_next 210 = .ok (.getfield 153, 3) := by decide +kernel
theorem dX11_next_213 : decode cX11_next 213 = .ok (.if_icmp .ge 31, 3) := by decide +kernel
theorem dX11_next_216 : decode cX11_next 216 = .ok (.aload_n 0, 1) := by decide +kernel
theorem dX11_next_217 : decode cX11_next 217 = .ok (.getfield 40, 3) := by decide +kernel
theorem dX11_next_220 : decode cX11_next 220 = .ok (.aload_n 0, 1) := by decide +kernel
theorem dX11_next_221 : decode cX11_next 221 = .ok (.getfield 156, 3) := by decide +kernel
theorem dX11_next_224 : decode cX11_next 224 = .ok (.iaload, 1) := by decide +kernel
theorem dX11_next_225 : decode cX11_next 225 = .ok (.invokestatic 171, 3) := by decide +kernel
theorem dX11_next_228 : decode cX11_next 228 = .ok (.ifCond .eq 16, 3) := by decide +kernel
theorem dX11_next_231 : decode cX11_next 231 = .ok (.aload_n 0, 1) := by decide +kernel
theorem dX11_next_232 : decode cX11_next 232 = .ok (.dup, 1) := by decide +kernel
theorem dX11_next_233 : decode cX11_next 233 = .ok (.getfield 156, 3) := by decide +kernel
theorem dX11_next_236 : decode cX11_next 236 = .ok (.iconst 1, 1) := by decide +kernel
theorem dX11_next_237 : decode cX11_next 237 = .ok (.iadd, 1) := by decide +kernel
theorem dX11_next_238 : decode cX11_next 238 = .ok (.putfield 156, 3) := by decide +kernel
theorem dX11_next_241 : decode cX11_next 241 = .ok (.goto (-36), 3) := by decide +kernel
theorem dX11_next_244 : decode cX11_next 244 = .ok (.aload_n 0, 1) := by decide +kernel
theorem dX11_next_245 : decode cX11_next 245 = .ok (.iconst 2, 1) := by decide +kernel
theorem dX11_next_246 : decode cX11_next 246 = .ok (.putfield 162, 3) := by decide +kernel
theorem dX11_next_249 : decode cX11_next 249 = .ok (.return_, 1) := by decide +kernel
theorem dX11_next_250 : decode cX11_next 250 = .ok (.aload_n 0, 1) := by decide +kernel
theorem dX11_next_251 : decode cX11_next 251 = .ok (.dup, 1) := by decide +kernel
theorem dX11_next_252 : decode cX11_next 252 = .ok (.getfield 156, 3) := by decide +kernel
theorem dX11_next_255 : decode cX11_next 255 = .ok (.iconst 1, 1) := by decide +kernel
theorem dX11_next_256 : decode cX11_next 256 = .ok (.iadd, 1) := by decide +kernel
theorem dX11_next_257 : decode cX11_next 257 = .ok (.putfield 156, 3) := by decide +kernel
theorem dX11_next_260 : decode cX11_next 260 = .ok (.aload_n 0, 1) := by decide +kernel
theorem dX11_next_261 : decode cX11_next 261 = .ok (.iload_n 1, 1) := by decide +kernel
theorem dX11_next_262 : decode cX11_next 262 = .ok (.putfield 168, 3) := by decide +kernel
theorem dX11_next_265 : decode cX11_next 265 = .ok (.aload_n 0, 1) := by decide +kernel
theorem dX11_next_266 : decode cX11_next 266 = .ok (.iload_n 1, 1) := by decide +kernel
theorem dX11_next_267 : decode cX11_next 267 = .ok (.bipush 40, 2) := by decide +kernel
theorem dX11_next_269 : decode cX11_next 269 = .ok (.if_icmp .eq 45, 3) := by decide +kernel
theorem dX11_next_272 : decode cX11_next 272 = .ok (.iload_n 1, 1) := by decide +kernel
theorem dX11_next_273 : decode cX11_next 273 = .ok (.bipush 41, 2) := by decide +kernel
theorem dX11_next_275 : decode cX11_next 275 = .ok (.if_icmp .eq 39, 3) := by decide +kernel
theorem dX11_next_278 : decode cX11_next 278 = .ok (.iload_n 1, 1) := by decide +kernel
theorem dX11_next_279 : decode cX11_next 279 = .ok (.bipush 59, 2) := by decide +kernel
theorem dX11_next_281 : decode cX11_next 281 = .ok (.if_icmp .eq 33, 3) := by decide +kernel
theorem dX11_next_284 : decode cX11_next 284 = .ok (.iload_n 1, 1) := by decide +kernel
theorem dX11_next_285 : decode cX11_next 285 = .ok (.bipush 43, 2) := by decide +kernel
theorem dX11_next_287 : decode cX11_next 287 = .ok (.if_icmp .eq 27, 3) := by decide +kernel
theorem dX11_next_290 : decode cX11_next 290 = .ok (.iload_n 1, 1) := by decide +kernel
theorem dX11_next_291 : decode cX11_next 291 = .ok (.bipush 45, 2) := by decide +kernel
theorem dX11_next_293 : decode cX11_next 293 = .ok (.if_icmp .eq 21, 3) := by decide +kernel
theorem dX11_next_296 : decode cX11_next 296 = .ok (.iload_n 1, 1) := by decide +kernel
theorem dX11_next_297 : decode cX11_next 297 = .ok (.bipush 42, 2) := by decide +kernel
theorem dX11_next_299 : decode cX11_next 299 = .ok (.if_icmp .eq 15, 3) := by decide +kernel
theorem dX11_next_302 : decode cX11_next 302 = .ok (.iload_n 1, 1) := by decide +kernel
theorem dX11_next_303 : decode cX11_next 303 = .ok (.bipush 60, 2) := by decide +kernel
theorem dX11_next_305 : decode cX11_next 305 = .ok (.if_icmp .eq 9, 3) := by decide +kernel
theorem dX11_next_308 : decode cX11_next 308 = .ok (.iload_n 1, 1) := by decide +kernel
theorem dX11_next_309 : decode cX11_next 309 = .ok (.bipush 61, 2) := by decide +kernel
theorem dX11_next_311 : decode cX11_next 311 = .ok (.if_icmp .ne 7, 3) := by decide +kernel
theorem dX11_next_314 : decode cX11_next 314 = .ok (.iconst 3, 1) := by decide +kernel
theorem dX11_next_315 : decode cX11_next 315 = .ok (.goto 4, 3) := by decide +kernel
theorem dX11_next_318 : decode cX11_next 318 = .ok (.iconst 4, 1) := by decide +kernel
theorem dX11_next_319 : decode cX11_next 319 = .ok (.putfield 162, 3) := by decide +kernel
theorem dX11_next_322 : decode cX11_next 322 = .ok (.return_, 1) := by decide +kernel
theorem dX11_isDigit_0 : decode cX11_isDigit 0 = .ok (.iload_n 0, 1) := by decide +kernel
theorem dX11_isDigit_1 : decode cX11_isDigit 1 = .ok (.bipush 48, 2) := by decide +kernel
theorem dX11_isDigit_3 : decode cX11_isDigit 3 = .ok (.if_icmp .lt 13, 3) := by decide +kernel
theorem dX11_isDigit_6 : decode cX11_isDigit 6 = .ok (.iload_n 0, 1) := by decide +kernel
theorem dX11_isDigit_7 : decode cX11_isDigit 7 = .ok (.bipush 57, 2) := by decide +kernel
theorem dX11_isDigit_9 : decode cX11_isDigit 9 = .ok (.if_icmp .gt 7, 3) := by decide +kernel
theorem dX11_isDigit_12 : decode cX11_isDigit 12 = .ok (.iconst 1, 1) := by decide +kernel
theorem dX11_isDigit_13 : decode cX11_isDigit 13 = .ok (.goto 4, 3) := by decide +kernel
theorem dX11_isDigit_16 : decode cX11_isDigit 16 = .ok (.iconst 0, 1) := by decide +kernel
theorem dX11_isDigit_17 : decode cX11_isDigit 17 = .ok (.ireturn, 1) := by decide +kernel
theorem dX11_isLetter_0 : decode cX11_isLetter 0 = .ok (.iload_n 0, 1) := by decide +kernel
theorem dX11_isLetter_1 : decode cX11_isLetter 1 = .ok (.bipush 97, 2) := by decide +kernel
theorem dX11_isLetter_3 : decode cX11_isLetter 3 = .ok (.if_icmp .lt 13, 3) := by decide +kernel
theorem dX11_isLetter_6 : decode cX11_isLetter 6 = .ok (.iload_n 0, 1) := by decide +kernel
theorem dX11_isLetter_7 : decode cX11_isLetter 7 = .ok (.bipush 122, 2) := by decide +kernel
theorem dX11_isLetter_9 : decode cX11_isLetter 9 = .ok (.if_icmp .gt 7, 3) := by decide +kernel
theorem dX11_isLetter_12 : decode cX11_isLetter 12 = .ok (.iconst 1, 1) := by decide +kernel
theorem dX11_isLetter_13 : decode cX11_isLetter 13 = .ok (.goto 4, 3) := by decide +kernel
theorem dX11_isLetter_16 : decode cX11_isLetter 16 = .ok (.iconst 0, 1) := by decide +kernel
theorem dX11_isLetter_17 : decode cX11_isLetter 17 = .ok (.ireturn, 1) := by decide +kernel
theorem dX11_is_0 : decode cX11_is 0 = .ok (.aload_n 0, 1) := by decide +kernel
theorem dX11_is_1 : decode cX11_is 1 = .ok (.getfield 162, 3) := by decide +kernel
theorem dX11_is_4 : decode cX11_is 4 = .ok (.iconst 2, 1) := by decide +kernel
theorem dX11_is_5 : decode cX11_is 5 = .ok (.if_icmp .ne 19, 3) := by decide +kernel
theorem dX11_is_8 : decode cX11_is 8 = .ok (.aload_n 0, 1) := by decide +kernel
theorem dX11_is_9 : decode cX11_is 9 = .ok (.getfield 156, 3) := by decide +kernel
theorem dX11_is_12 : decode cX11_is 12 = .ok (.aload_n 0, 1) := by decide +kernel
theorem dX11_is_13 : decode cX11_is 13 = .ok (.getfield 159, 3) := by decide +kernel
theorem dX11_is_16 : decode cX11_is 16 = .ok (.isub, 1) := by decide +kernel
theorem dX11_is_17 : decode cX11_is 17 = .ok (.aload_n 1, 1) := by decide +kernel
theorem dX11_is_18 : decode cX11_is 18 = .ok (.invokevirtual 106, 3) := by decide +kernel
theorem dX11_is_21 : decode cX11_is 21 = .ok (.if_icmp .eq 5, 3) := by decide +kernel
theorem dX11_is_24 : decode cX11_is 24 = .ok (.iconst 0, 1) := by decide +kernel
theorem dX11_is_25 : decode cX11_is 25 = .ok (.ireturn, 1) := by decide +kernel
theorem dX11_is_26 : decode cX11_is 26 = .ok (.iconst 0, 1) := by decide +kernel
theorem dX11_is_27 : decode cX11_is 27 = .ok (.istore_n 2, 1) := by decide +kernel
theorem dX11_is_28 : decode cX11_is 28 = .ok (.iload_n 2, 1) := by decide +kernel
theorem dX11_is_29 : decode cX11_is 29 = .ok (.aload_n 1, 1) := by decide +kernel
theorem dX11_is_30 : decode cX11_is 30 = .ok (.invokevirtual 106, 3) := by decide +kernel
theorem dX11_is_33 : decode cX11_is 33 = .ok (.if_icmp .ge 30, 3) := by decide +kernel
theorem dX11_is_36 : decode cX11_is 36 = .ok (.aload_n 0, 1) := by decide +kernel
theorem dX11_is_37 : decode cX11_is 37 = .ok (.getfield 40, 3) := by decide +kernel
theorem dX11_is_40 : decode cX11_is 40 = .ok (.aload_n 0, 1) := by decide +kernel
theorem dX11_is_41 : decode cX11_is 41 = .ok (.getfield 159, 3) := by decide +kernel
theorem dX11_is_44 : decode cX11_is 44 = .ok (.iload_n 2, 1) := by decide +kernel
theorem dX11_is_45 : decode cX11_is 45 = .ok (.iadd, 1) := by decide +kernel
theorem dX11_is_46 : decode cX11_is 46 = .ok (.iaload, 1) := by decide +kernel
theorem dX11_is_47 : decode cX11_is 47 = .ok (.aload_n 1, 1) := by decide +kernel
theorem dX11_is_48 : decode cX11_is 48 = .ok (.iload_n 2, 1) := by decide +kernel
theorem dX11_is_49 : decode cX11_is 49 = .ok (.invokevirtual 112, 3) := by decide +kernel
theorem dX11_is_52 : decode cX11_is 52 = .ok (.if_icmp .eq 5, 3) := by decide +kernel
theorem dX11_is_55 : decode cX11_is 55 = .ok (.iconst 0, 1) := by decide +kernel
theorem dX11_is_56 : decode cX11_is 56 = .ok (.ireturn, 1) := by decide +kernel
theorem dX11_is_57 : decode cX11_is 57 = .ok (.iinc 2 1, 3) := by decide +kernel
theorem dX11_is_60 : decode cX11_is 60 = .ok (.goto (-32), 3) := by decide +kernel
theorem dX11_is_63 : decode cX11_is 63 = .ok (.iconst 1, 1) := by decide +kernel
theorem dX11_is_64 : decode cX11_is 64 = .ok (.ireturn, 1) := by decide +kernel
theorem dX11_is__0 : decode cX11_is_ 0 = .ok (.aload_n 0, 1) := by decide +kernel
theorem dX11_is__1 : decode cX11_is_ 1 = .ok (.getfield 162, 3) := by decide +kernel
theorem dX11_is__4 : decode cX11_is_ 4 = .ok (.iconst 3, 1) := by decide +kernel
theorem dX11_is__5 : decode cX11_is_ 5 = .ok (.if_icmp .ne 15, 3) := by decide +kernel
theorem dX11_is__8 : decode cX11_is_ 8 = .ok (.aload_n 0, 1) := by decide +kernel
theorem dX11_is__9 : decode cX11_is_ 9 = .ok (.getfield 168, 3) := by decide +kernel
theorem dX11_is__12 : decode cX11_is_ 12 = .ok (.iload_n 1, 1) := by decide +kernel
theorem dX11_is__13 : decode cX11_is_ 13 = .ok (.if_icmp .ne 7, 3) := by decide +kernel
theorem dX11_is__16 : decode cX11_is_ 16 = .ok (.iconst 1, 1) := by decide +kernel
theorem dX11_is__17 : decode cX11_is_ 17 = .ok (.goto 4, 3) := by decide +kernel
theorem dX11_is__20 : decode cX11_is_ 20 = .ok (.iconst 0, 1) := by decide +kernel
theorem dX11_is__21 : decode cX11_is_ 21 = .ok (.ireturn, 1) := by decide +kernel
theorem dX11_name_0 : decode cX11_name 0 = .ok (.aload_n 0, 1) := by decide +kernel
theorem dX11_name_1 : decode cX11_name 1 = .ok (.ldc 174, 2) := by decide +kernel
theorem dX11_name_3 : decode cX11_name 3 = .ok (.invokevirtual 176, 3) := by decide +kernel
theorem dX11_name_6 : decode cX11_name 6 = .ok (.ifCond .eq 5, 3) := by decide +kernel
theorem dX11_name_9 : decode cX11_name 9 = .ok (.iconst 1, 1) := by decide +kernel
theorem dX11_name_10 : decode cX11_name 10 = .ok (.ireturn, 1) := by decide +kernel
theorem dX11_name_11 : decode cX11_name 11 = .ok (.aload_n 0, 1) := by decide +kernel
theorem dX11_name_12 : decode cX11_name 12 = .ok (.ldc 180, 2) := by decide +kernel
theorem dX11_name_14 : decode cX11_name 14 = .ok (.invokevirtual 176, 3) := by decide +kernel
theorem dX11_name_17 : decode cX11_name 17 = .ok (.ifCond .eq 5, 3) := by decide +kernel
theorem dX11_name_20 : decode cX11_name 20 = .ok (.iconst 2, 1) := by decide +kernel
theorem dX11_name_21 : decode cX11_name 21 = .ok (.ireturn, 1) := by decide +kernel
theorem dX11_name_22 : decode cX11_name 22 = .ok (.aload_n 0, 1) := by decide +kernel
theorem dX11_name_23 : decode cX11_name 23 = .ok (.ldc 182, 2) := by decide +kernel
theorem dX11_name_25 : decode cX11_name 25 = .ok (.invokevirtual 176, 3) := by decide +kernel
theorem dX11_name_28 : decode cX11_name 28 = .ok (.ifCond .eq 5, 3) := by decide +kernel
theorem dX11_name_31 : decode cX11_name 31 = .ok (.iconst 3, 1) := by decide +kernel
theorem dX11_name_32 : decode cX11_name 32 = .ok (.ireturn, 1) := by decide +kernel
theorem dX11_name_33 : decode cX11_name 33 = .ok (.aload_n 0, 1) := by decide +kernel
theorem dX11_name_34 : decode cX11_name 34 = .ok (.ldc 183, 2) := by decide +kernel
theorem dX11_name_36 : decode cX11_name 36 = .ok (.invokevirtual 176, 3) := by decide +kernel
theorem dX11_name_39 : decode cX11_name 39 = .ok (.ifCond .eq 5, 3) := by decide +kernel
theorem dX11_name_42 : decode cX11_name 42 = .ok (.iconst 4, 1) := by decide +kernel
theorem dX11_name_43 : decode cX11_name 43 = .ok (.ireturn, 1) := by decide +kernel
theorem dX11_name_44 : decode cX11_name 44 = .ok (.aload_n 0, 1) := by decide +kernel
theorem dX11_name_45 : decode cX11_name 45 = .ok (.ldc 185, 2) := by decide +kernel
theorem dX11_name_47 : decode cX11_name 47 = .ok (.invokevirtual 176, 3) := by decide +kernel
theorem dX11_name_50 : decode cX11_name 50 = .ok (.ifCond .eq 5, 3) := by decide +kernel
theorem dX11_name_53 : decode cX11_name 53 = .ok (.iconst 5, 1) := by decide +kernel
theorem dX11_name_54 : decode cX11_name 54 = .ok (.ireturn, 1) := by decide +kernel
theorem dX11_name_55 : decode cX11_name 55 = .ok (.aload_n 0, 1) := by decide +kernel
theorem dX11_name_56 : decode cX11_name 56 = .ok (.ldc 186, 2) := by decide +kernel
theorem dX11_name_58 : decode cX11_name 58 = .ok (.invokevirtual 176, 3) := by decide +kernel
theorem dX11_name_61 : decode cX11_name 61 = .ok (.ifCond .eq 6, 3) := by decide +kernel
theorem dX11_name_64 : decode cX11_name 64 = .ok (.bipush 6, 2) := by decide +kernel
theorem dX11_name_66 : decode cX11_name 66 = .ok (.ireturn, 1) := by decide +kernel
theorem dX11_name_67 : decode cX11_name 67 = .ok (.iconst 0, 1) := by decide +kernel
theorem dX11_name_68 : decode cX11_name 68 = .ok (.ireturn, 1) := by decide +kernel
theorem dX11_put_0 : decode cX11_put 0 = .ok (.aload_n 0, 1) := by decide +kernel
theorem dX11_put_1 : decode cX11_put 1 = .ok (.getfield 43, 3) := by decide +kernel
theorem dX11_put_4 : decode cX11_put 4 = .ok (.sipush 170, 3) := by decide +kernel
theorem dX11_put_7 : decode cX11_put 7 = .ok (.aload_n 0, 1) := by decide +kernel
theorem dX11_put_8 : decode cX11_put 8 = .ok (.getfield 187, 3) := by decide +kernel
theorem dX11_put_11 : decode cX11_put 11 = .ok (.imul, 1) := by decide +kernel
theorem dX11_put_12 : decode cX11_put 12 = .ok (.aload_n 0, 1) := by decide +kernel
theorem dX11_put_13 : decode cX11_put 13 = .ok (.dup, 1) := by decide +kernel
theorem dX11_put_14 : decode cX11_put 14 = .ok (.getfield 190, 3) := by decide +kernel
theorem dX11_put_17 : decode cX11_put 17 = .ok (.dup_x1, 1) := by decide +kernel
theorem dX11_put_18 : decode cX11_put 18 = .ok (.iconst 1, 1) := by decide +kernel
theorem dX11_put_19 : decode cX11_put 19 = .ok (.iadd, 1) := by decide +kernel
theorem dX11_put_20 : decode cX11_put 20 = .ok (.putfield 190, 3) := by decide +kernel
theorem dX11_put_23 : decode cX11_put 23 = .ok (.iadd, 1) := by decide +kernel
theorem dX11_put_24 : decode cX11_put 24 = .ok (.iload_n 1, 1) := by decide +kernel
theorem dX11_put_25 : decode cX11_put 25 = .ok (.iastore, 1) := by decide +kernel
theorem dX11_put_26 : decode cX11_put 26 = .ok (.return_, 1) := by decide +kernel
theorem dX11_any_0 : decode cX11_any 0 = .ok (.aload_n 0, 1) := by decide +kernel
theorem dX11_any_1 : decode cX11_any 1 = .ok (.invokevirtual 193, 3) := by decide +kernel
theorem dX11_any_4 : decode cX11_any 4 = .ok (.ifCond .ne 5, 3) := by decide +kernel
theorem dX11_any_7 : decode cX11_any 7 = .ok (.iconst 0, 1) := by decide +kernel
theorem dX11_any_8 : decode cX11_any 8 = .ok (.ireturn, 1) := by decide +kernel
theorem dX11_any_9 : decode cX11_any 9 = .ok (.aload_n 0, 1) := by decide +kernel
theorem dX11_any_10 : decode cX11_any 10 = .ok (.ldc 197, 2) := by decide +kernel
theorem dX11_any_12 : decode cX11_any 12 = .ok (.invokevirtual 176, 3) := by decide +kernel
theorem dX11_any_15 : decode cX11_any 15 = .ok (.ifCond .eq 25, 3) := by decide +kernel
theorem dX11_any_18 : decode cX11_any 18 = .ok (.aload_n 0, 1) := by decide +kernel
theorem dX11_any_19 : decode cX11_any 19 = .ok (.invokevirtual 199, 3) := by decide +kernel
theorem dX11_any_22 : decode cX11_any 22 = .ok (.aload_n 0, 1) := by decide +kernel
theorem dX11_any_23 : decode cX11_any 23 = .ok (.invokevirtual 193, 3) := by decide +kernel
theorem dX11_any_26 : decode cX11_any 26 = .ok (.ifCond .ne 5, 3) := by decide +kernel
theorem dX11_any_29 : decode cX11_any 29 = .ok (.iconst 0, 1) := by decide +kernel
theorem dX11_any_30 : decode cX11_any 30 = .ok (.ireturn, 1) := by decide +kernel
theorem dX11_any_31 : decode cX11_any 31 = .ok (.aload_n 0, 1) := by decide +kernel
theorem dX11_any_32 : decode cX11_any 32 = .ok (.bipush (-11), 2) := by decide +kernel
theorem dX11_any_34 : decode cX11_any 34 = .ok (.invokevirtual 202, 3) := by decide +kernel
theorem dX11_any_37 : decode cX11_any 37 = .ok (.goto (-28), 3) := by decide +kernel
theorem dX11_any_40 : decode cX11_any 40 = .ok (.iconst 1, 1) := by decide +kernel
theorem dX11_any_41 : decode cX11_any 41 = .ok (.ireturn, 1) := by decide +kernel
theorem dX11_both_0 : decode cX11_both 0 = .ok (.aload_n 0, 1) := by decide +kernel
theorem dX11_both_1 : decode cX11_both 1 = .ok (.invokevirtual 206, 3) := by decide +kernel
theorem dX11_both_4 : decode cX11_both 4 = .ok (.ifCond .ne 5, 3) := by decide +kernel
theorem dX11_both_7 : decode cX11_both 7 = .ok (.iconst 0, 1) := by decide +kernel
theorem dX11_both_8 : decode cX11_both 8 = .ok (.ireturn, 1) := by decide +kernel
theorem dX11_both_9 : decode cX11_both 9 = .ok (.aload_n 0, 1) := by decide +kernel
theorem dX11_both_10 : decode cX11_both 10 = .ok (.ldc 209, 2) := by decide +kernel
theorem dX11_both_12 : decode cX11_both 12 = .ok (.invokevirtual 176, 3) := by decide +kernel
theorem dX11_both_15 : decode cX11_both 15 = .ok (.ifCond .eq 25, 3) := by decide +kernel
theorem dX11_both_18 : decode cX11_both 18 = .ok (.aload_n 0, 1) := by decide +kernel
theorem dX11_both_19 : decode cX11_both 19 = .ok (.invokevirtual 199, 3) := by decide +kernel
theorem dX11_both_22 : decode cX11_both 22 = .ok (.aload_n 0, 1) := by decide +kernel
theorem dX11_both_23 : decode cX11_both 23 = .ok (.invokevirtual 206, 3) := by decide +kernel
theorem dX11_both_26 : decode cX11_both 26 = .ok (.ifCond .ne 5, 3) := by decide +kernel
theorem dX11_both_29 : decode cX11_both 29 = .ok (.iconst 0, 1) := by decide +kernel
theorem dX11_both_30 : decode cX11_both 30 = .ok (.ireturn, 1) := by decide +kernel
theorem dX11_both_31 : decode cX11_both 31 = .ok (.aload_n 0, 1) := by decide +kernel
theorem dX11_both_32 : decode cX11_both 32 = .ok (.bipush (-12), 2) := by decide +kernel
theorem dX11_both_34 : decode cX11_both 34 = .ok (.invokevirtual 202, 3) := by decide +kernel
theorem dX11_both_37 : decode cX11_both 37 = .ok (.goto (-28), 3) := by decide +kernel
theorem dX11_both_40 : decode cX11_both 40 = .ok (.iconst 1, 1) := by decide +kernel
theorem dX11_both_41 : decode cX11_both 41 = .ok (.ireturn, 1) := by decide +kernel
theorem dX11_not_0 : decode cX11_not 0 = .ok (.aload_n 0, 1) := by decide +kernel
theorem dX11_not_1 : decode cX11_not 1 = .ok (.ldc 211, 2) := by decide +kernel
theorem dX11_not_3 : decode cX11_not 3 = .ok (.invokevirtual 176, 3) := by decide +kernel
theorem dX11_not_6 : decode cX11_not 6 = .ok (.ifCond .eq 54, 3) := by decide +kernel
theorem dX11_not_9 : decode cX11_not 9 = .ok (.aload_n 0, 1) := by decide +kernel
theorem dX11_not_10 : decode cX11_not 10 = .ok (.getfield 212, 3) := by decide +kernel
theorem dX11_not_13 : decode cX11_not 13 = .ok (.iconst 5, 1) := by decide +kernel
theorem dX11_not_14 : decode cX11_not 14 = .ok (.if_icmp .ne 5, 3) := by decide +kernel
theorem dX11_not_17 : decode cX11_not 17 = .ok (.iconst 0, 1) := by decide +kernel
theorem dX11_not_18 : decode cX11_not 18 = .ok (.ireturn, 1) := by decide +kernel
theorem dX11_not_19 : decode cX11_not 19 = .ok (.aload_n 0, 1) := by decide +kernel
theorem dX11_not_20 : decode cX11_not 20 = .ok (.dup, 1) := by decide +kernel
theorem dX11_not_21 : decode cX11_not 21 = .ok (.getfield 212, 3) := by decide +kernel
theorem dX11_not_24 : decode cX11_not 24 = .ok (.iconst 1, 1) := by decide +kernel
theorem dX11_not_25 : decode cX11_not 25 = .ok (.iadd, 1) := by decide +kernel
theorem dX11_not_26 : decode cX11_not 26 = .ok (.putfield 212, 3) := by decide +kernel
theorem dX11_not_29 : decode cX11_not 29 = .ok (.aload_n 0, 1) := by decide +kernel
theorem dX11_not_30 : decode cX11_not 30 = .ok (.invokevirtual 199, 3) := by decide +kernel
theorem dX11_not_33 : decode cX11_not 33 = .ok (.aload_n 0, 1) := by decide +kernel
theorem dX11_not_34 : decode cX11_not 34 = .ok (.invokevirtual 206, 3) := by decide +kernel
theorem dX11_not_37 : decode cX11_not 37 = .ok (.ifCond .ne 5, 3) := by decide +kernel
theorem dX11_not_40 : decode cX11_not 40 = .ok (.iconst 0, 1) := by decide +kernel
theorem dX11_not_41 : decode cX11_not 41 = .ok (.ireturn, 1) := by decide +kernel
theorem dX11_not_42 : decode cX11_not 42 = .ok (.aload_n 0, 1) := by decide +kernel
theorem dX11_not_43 : decode cX11_not 43 = .ok (.dup, 1) := by decide +kernel
theorem dX11_not_44 : decode cX11_not 44 = .ok (.getfield 212, 3) := by decide +kernel
theorem dX11_not_47 : decode cX11_not 47 = .ok (.iconst 1, 1) := by decide +kernel
theorem dX11_not_48 : decode cX11_not 48 = .ok (.isub, 1) := by decide +kernel
theorem dX11_not_49 : decode cX11_not 49 = .ok (.putfield 212, 3) := by decide +kernel
theorem dX11_not_52 : decode cX11_not 52 = .ok (.aload_n 0, 1) := by decide +kernel
theorem dX11_not_53 : decode cX11_not 53 = .ok (.bipush (-13), 2) := by decide +kernel
theorem dX11_not_55 : decode cX11_not 55 = .ok (.invokevirtual 202, 3) := by decide +kernel
theorem dX11_not_58 : decode cX11_not 58 = .ok (.iconst 1, 1) := by decide +kernel
theorem dX11_not_59 : decode cX11_not 59 = .ok (.ireturn, 1) := by decide +kernel
theorem dX11_not_60 : decode cX11_not 60 = .ok (.aload_n 0, 1) := by decide +kernel
theorem dX11_not_61 : decode cX11_not 61 = .ok (.invokevirtual 215, 3) := by decide +kernel
theorem dX11_not_64 : decode cX11_not 64 = .ok (.ifCond .ne 5, 3) := by decide +kernel
theorem dX11_not_67 : decode cX11_not 67 = .ok (.iconst 0, 1) := by decide +kernel
theorem dX11_not_68 : decode cX11_not 68 = .ok (.ireturn, 1) := by decide +kernel
theorem dX11_not_69 : decode cX11_not 69 = .ok (.aload_n 0, 1) := by decide +kernel
theorem dX11_not_70 : decode cX11_not 70 = .ok (.bipush 60, 2) := by decide +kernel
theorem dX11_not_72 : decode cX11_not 72 = .ok (.invokevirtual 218, 3) := by decide +kernel
theorem dX11_not_75 : decode cX11_not 75 = .ok (.ifCond .ne 12, 3) := by decide +kernel
theorem dX11_not_78 : decode cX11_not 78 = .ok (.aload_n 0, 1) := by decide +kernel
theorem dX11_not_79 : decode cX11_not 79 = .ok (.bipush 61, 2) := by decide +kernel
theorem dX11_not_81 : decode cX11_not 81 = .ok (.invokevirtual 218, 3) := by decide +kernel
theorem dX11_not_84 : decode cX11_not 84 = .ok (.ifCond .eq 38, 3) := by decide +kernel
theorem dX11_not_87 : decode cX11_not 87 = .ok (.aload_n 0, 1) := by decide +kernel
theorem dX11_not_88 : decode cX11_not 88 = .ok (.bipush 60, 2) := by decide +kernel
theorem dX11_not_90 : decode cX11_not 90 = .ok (.invokevirtual 218, 3) := by decide +kernel
theorem dX11_not_93 : decode cX11_not 93 = .ok (.ifCond .eq 8, 3) := by decide +kernel
theorem dX11_not_96 : decode cX11_not 96 = .ok (.bipush (-14), 2) := by decide +kernel
theorem dX11_not_98 : decode cX11_not 98 = .ok (.goto 5, 3) := by decide +kernel
theorem dX11_not_101 : decode cX11_not 101 = .ok (.bipush (-15), 2) := by decide +kernel
theorem dX11_not_103 : decode cX11_not 103 = .ok (.istore_n 1, 1) := by decide +kernel
theorem dX11_not_104 : decode cX11_not 104 = .ok (.aload_n 0, 1) := by decide +kernel
theorem dX11_not_105 : decode cX11_not 105 = .ok (.invokevirtual 199, 3) := by decide +kernel
theorem dX11_not_108 : decode cX11_not 108 = .ok (.aload_n 0, 1) := by decide +kernel
theorem dX11_not_109 : decode cX11_not 109 = .ok (.invokevirtual 215, 3) := by decide +kernel
theorem dX11_not_112 : decode cX11_not 112 = .ok (.ifCond .ne 5, 3) := by decide +kernel
theorem dX11_not_115 : decode cX11_not 115 = .ok (.iconst 0, 1) := by decide +kernel
theorem dX11_not_116 : decode cX11_not 116 = .ok (.ireturn, 1) := by decide +kernel
theorem dX11_not_117 : decode cX11_not 117 = .ok (.aload_n 0, 1) := by decide +kernel
theorem dX11_not_118 : decode cX11_not 118 = .ok (.iload_n 1, 1) := by decide +kernel
theorem dX11_not_119 : decode cX11_not 119 = .ok (.invokevirtual 202, 3) := by decide +kernel
theorem dX11_not_122 : decode cX11_not 122 = .ok (.iconst 1, 1) := by decide +kernel
theorem dX11_not_123 : decode cX11_not 123 = .ok (.ireturn, 1) := by decide +kernel
theorem dX11_sum_0 : decode cX11_sum 0 = .ok (.aload_n 0, 1) := by decide +kernel
theorem dX11_sum_1 : decode cX11_sum 1 = .ok (.invokevirtual 221, 3) := by decide +kernel
theorem dX11_sum_4 : decode cX11_sum 4 = .ok (.ifCond .ne 5, 3) := by decide +kernel
theorem dX11_sum_7 : decode cX11_sum 7 = .ok (.iconst 0, 1) := by decide +kernel
theorem dX11_sum_8 : decode cX11_sum 8 = .ok (.ireturn, 1) := by decide +kernel
theorem dX11_sum_9 : decode cX11_sum 9 = .ok (.aload_n 0, 1) := by decide +kernel
theorem dX11_sum_10 : decode cX11_sum 10 = .ok (.bipush 43, 2) := by decide +kernel
theorem dX11_sum_12 : decode cX11_sum 12 = .ok (.invokevirtual 218, 3) := by decide +kernel
theorem dX11_sum_15 : decode cX11_sum 15 = .ok (.ifCond .ne 12, 3) := by decide +kernel
theorem dX11_sum_18 : decode cX11_sum 18 = .ok (.aload_n 0, 1) := by decide +kernel
theorem dX11_sum_19 : decode cX11_sum 19 = .ok (.bipush 45, 2) := by decide +kernel
theorem dX11_sum_21 : decode cX11_sum 21 = .ok (.invokevirtual 218, 3) := by decide +kernel
theorem dX11_sum_24 : decode cX11_sum 24 = .ok (.ifCond .eq 41, 3) := by decide +kernel
theorem dX11_sum_27 : decode cX11_sum 27 = .ok (.aload_n 0, 1) := by decide +kernel
theorem dX11_sum_28 : decode cX11_sum 28 = .ok (.bipush 43, 2) := by decide +kernel
theorem dX11_sum_30 : decode cX11_sum 30 = .ok (.invokevirtual 218, 3) := by decide +kernel
theorem dX11_sum_33 : decode cX11_sum 33 = .ok (.ifCond .eq 8, 3) := by decide +kernel
theorem dX11_sum_36 : decode cX11_sum 36 = .ok (.bipush (-16), 2) := by decide +kernel
theorem dX11_sum_38 : decode cX11_sum 38 = .ok (.goto 5, 3) := by decide +kernel
theorem dX11_sum_41 : decode cX11_sum 41 = .ok (.bipush (-17), 2) := by decide +kernel
theorem dX11_sum_43 : decode cX11_sum 43 = .ok (.istore_n 1, 1) := by decide +kernel
theorem dX11_sum_44 : decode cX11_sum 44 = .ok (.aload_n 0, 1) := by decide +kernel
theorem dX11_sum_45 : decode cX11_sum 45 = .ok (.invokevirtual 199, 3) := by decide +kernel
theorem dX11_sum_48 : decode cX11_sum 48 = .ok (.aload_n 0, 1) := by decide +kernel
theorem dX11_sum_49 : decode cX11_sum 49 = .ok (.invokevirtual 221, 3) := by decide +kernel
theorem dX11_sum_52 : decode cX11_sum 52 = .ok (.ifCond .ne 5, 3) := by decide +kernel
theorem dX11_sum_55 : decode cX11_sum 55 = .ok (.iconst 0, 1) := by decide +kernel
theorem dX11_sum_56 : decode cX11_sum 56 = .ok (.ireturn, 1) := by decide +kernel
theorem dX11_sum_57 : decode cX11_sum 57 = .ok (.aload_n 0, 1) := by decide +kernel
theorem dX11_sum_58 : decode cX11_sum 58 = .ok (.iload_n 1, 1) := by decide +kernel
theorem dX11_sum_59 : decode cX11_sum 59 = .ok (.invokevirtual 202, 3) := by decide +kernel
theorem dX11_sum_62 : decode cX11_sum 62 = .ok (.goto (-53), 3) := by decide +kernel
theorem dX11_sum_65 : decode cX11_sum 65 = .ok (.iconst 1, 1) := by decide +kernel
theorem dX11_sum_66 : decode cX11_sum 66 = .ok (.ireturn, 1) := by decide +kernel
theorem dX11_term_0 : decode cX11_term 0 = .ok (.aload_n 0, 1) := by decide +kernel
theorem dX11_term_1 : decode cX11_term 1 = .ok (.invokevirtual 224, 3) := by decide +kernel
theorem dX11_term_4 : decode cX11_term 4 = .ok (.ifCond .ne 5, 3) := by decide +kernel
theorem dX11_term_7 : decode cX11_term 7 = .ok (.iconst 0, 1) := by decide +kernel
theorem dX11_term_8 : decode cX11_term 8 = .ok (.ireturn, 1) := by decide +kernel
theorem dX11_term_9 : decode cX11_term 9 = .ok (.aload_n 0, 1) := by decide +kernel
theorem dX11_term_10 : decode cX11_term 10 = .ok (.bipush 42, 2) := by decide +kernel
theorem dX11_term_12 : decode cX11_term 12 = .ok (.invokevirtual 218, 3) := by decide +kernel
theorem dX11_term_15 : decode cX11_term 15 = .ok (.ifCond .eq 25, 3) := by decide +kernel
theorem dX11_term_18 : decode cX11_term 18 = .ok (.aload_n 0, 1) := by decide +kernel
theorem dX11_term_19 : decode cX11_term 19 = .ok (.invokevirtual 199, 3) := by decide +kernel
theorem dX11_term_22 : decode cX11_term 22 = .ok (.aload_n 0, 1) := by decide +kernel
theorem dX11_term_23 : decode cX11_term 23 = .ok (.invokevirtual 224, 3) := by decide +kernel
theorem dX11_term_26 : decode cX11_term 26 = .ok (.ifCond .ne 5, 3) := by decide +kernel
theorem dX11_term_29 : decode cX11_term 29 = .ok (.iconst 0, 1) := by decide +kernel
theorem dX11_term_30 : decode cX11_term 30 = .ok (.ireturn, 1) := by decide +kernel
theorem dX11_term_31 : decode cX11_term 31 = .ok (.aload_n 0, 1) := by decide +kernel
theorem dX11_term_32 : decode cX11_term 32 = .ok (.bipush (-18), 2) := by decide +kernel
theorem dX11_term_34 : decode cX11_term 34 = .ok (.invokevirtual 202, 3) := by decide +kernel
theorem dX11_term_37 : decode cX11_term 37 = .ok (.goto (-28), 3) := by decide +kernel
theorem dX11_term_40 : decode cX11_term 40 = .ok (.iconst 1, 1) := by decide +kernel
theorem dX11_term_41 : decode cX11_term 41 = .ok (.ireturn, 1) := by decide +kernel
theorem dX11_one_0 : decode cX11_one 0 = .ok (.aload_n 0, 1) := by decide +kernel
theorem dX11_one_1 : decode cX11_one 1 = .ok (.getfield 162, 3) := by decide +kernel
theorem dX11_one_4 : decode cX11_one 4 = .ok (.iconst 1, 1) := by decide +kernel
theorem dX11_one_5 : decode cX11_one 5 = .ok (.if_icmp .ne 17, 3) := by decide +kernel
theorem dX11_one_8 : decode cX11_one 8 = .ok (.aload_n 0, 1) := by decide +kernel
theorem dX11_one_9 : decode cX11_one 9 = .ok (.aload_n 0, 1) := by decide +kernel
theorem dX11_one_10 : decode cX11_one 10 = .ok (.getfield 168, 3) := by decide +kernel
theorem dX11_one_13 : decode cX11_one 13 = .ok (.invokevirtual 202, 3) := by decide +kernel
theorem dX11_one_16 : decode cX11_one 16 = .ok (.aload_n 0, 1) := by decide +kernel
theorem dX11_one_17 : decode cX11_one 17 = .ok (.invokevirtual 199, 3) := by decide +kernel
theorem dX11_one_20 : decode cX11_one 20 = .ok (.iconst 1, 1) := by decide +kernel
theorem dX11_one_21 : decode cX11_one 21 = .ok (.ireturn, 1) := by decide +kernel
theorem dX11_one_22 : decode cX11_one 22 = .ok (.aload_n 0, 1) := by decide +kernel
theorem dX11_one_23 : decode cX11_one 23 = .ok (.invokevirtual 227, 3) := by decide +kernel
theorem dX11_one_26 : decode cX11_one 26 = .ok (.istore_n 1, 1) := by decide +kernel
theorem dX11_one_27 : decode cX11_one 27 = .ok (.iload_n 1, 1) := by decide +kernel
theorem dX11_one_28 : decode cX11_one 28 = .ok (.ifCond .le 15, 3) := by decide +kernel
theorem dX11_one_31 : decode cX11_one 31 = .ok (.aload_n 0, 1) := by decide +kernel
theorem dX11_one_32 : decode cX11_one 32 = .ok (.iload_n 1, 1) := by decide +kernel
theorem dX11_one_33 : decode cX11_one 33 = .ok (.ineg, 1) := by decide +kernel
theorem dX11_one_34 : decode cX11_one 34 = .ok (.invokevirtual 202, 3) := by decide +kernel
theorem dX11_one_37 : decode cX11_one 37 = .ok (.aload_n 0, 1) := by decide +kernel
theorem dX11_one_38 : decode cX11_one 38 = .ok (.invokevirtual 199, 3) := by decide +kernel
theorem dX11_one_41 : decode cX11_one 41 = .ok (.iconst 1, 1) := by decide +kernel
theorem dX11_one_42 : decode cX11_one 42 = .ok (.ireturn, 1) := by decide +kernel
theorem dX11_one_43 : decode cX11_one 43 = .ok (.aload_n 0, 1) := by decide +kernel
theorem dX11_one_44 : decode cX11_one 44 = .ok (.bipush 45, 2) := by decide +kernel
theorem dX11_one_46 : decode cX11_one 46 = .ok (.invokevirtual 218, 3) := by decide +kernel
theorem dX11_one_49 : decode cX11_one 49 = .ok (.ifCond .eq 54, 3) := by decide +kernel
theorem dX11_one_52 : decode cX11_one 52 = .ok (.aload_n 0, 1) := by decide +kernel
theorem dX11_one_53 : decode cX11_one 53 = .ok (.getfield 212, 3) := by decide +kernel
theorem dX11_one_56 : decode cX11_one 56 = .ok (.iconst 5, 1) := by decide +kernel
theorem dX11_one_57 : decode cX11_one 57 = .ok (.if_icmp .ne 5, 3) := by decide +kernel
theorem dX11_one_60 : decode cX11_one 60 = .ok (.iconst 0, 1) := by decide +kernel
theorem dX11_one_61 : decode cX11_one 61 = .ok (.ireturn, 1) := by decide +kernel
theorem dX11_one_62 : decode cX11_one 62 = .ok (.aload_n 0, 1) := by decide +kernel
theorem dX11_one_63 : decode cX11_one 63 = .ok (.dup, 1) := by decide +kernel
theorem dX11_one_64 : decode cX11_one 64 = .ok (.getfield 212, 3) := by decide +kernel
theorem dX11_one_67 : decode cX11_one 67 = .ok (.iconst 1, 1) := by decide +kernel
theorem dX11_one_68 : decode cX11_one 68 = .ok (.iadd, 1) := by decide +kernel
theorem dX11_one_69 : decode cX11_one 69 = .ok (.putfield 212, 3) := by decide +kernel
theorem dX11_one_72 : decode cX11_one 72 = .ok (.aload_n 0, 1) := by decide +kernel
theorem dX11_one_73 : decode cX11_one 73 = .ok (.invokevirtual 199, 3) := by decide +kernel
theorem dX11_one_76 : decode cX11_one 76 = .ok (.aload_n 0, 1) := by decide +kernel
theorem dX11_one_77 : decode cX11_one 77 = .ok (.invokevirtual 224, 3) := by decide +kernel
theorem dX11_one_80 : decode cX11_one 80 = .ok (.ifCond .ne 5, 3) := by decide +kernel
theorem dX11_one_83 : decode cX11_one 83 = .ok (.iconst 0, 1) := by decide +kernel
theorem dX11_one_84 : decode cX11_one 84 = .ok (.ireturn, 1) := by decide +kernel
theorem dX11_one_85 : decode cX11_one 85 = .ok (.aload_n 0, 1) := by decide +kernel
theorem dX11_one_86 : decode cX11_one 86 = .ok (.dup, 1) := by decide +kernel
theorem dX11_one_87 : decode cX11_one 87 = .ok (.getfield 212, 3) := by decide +kernel
theorem dX11_one_90 : decode cX11_one 90 = .ok (.iconst 1, 1) := by decide +kernel
theorem dX11_one_91 : decode cX11_one 91 = .ok (.isub, 1) := by decide +kernel
theorem dX11_one_92 : decode cX11_one 92 = .ok (.putfield 212, 3) := by decide +kernel
theorem dX11_one_95 : decode cX11_one 95 = .ok (.aload_n 0, 1) := by decide +kernel
theorem dX11_one_96 : decode cX11_one 96 = .ok (.bipush (-19), 2) := by decide +kernel
theorem dX11_one_98 : decode cX11_one 98 = .ok (.invokevirtual 202, 3) := by decide +kernel
theorem dX11_one_101 : decode cX11_one 101 = .ok (.iconst 1, 1) := by decide +kernel
theorem dX11_one_102 : decode cX11_one 102 = .ok (.ireturn, 1) := by decide +kernel
theorem dX11_one_103 : decode cX11_one 103 = .ok (.aload_n 0, 1) := by decide +kernel
theorem dX11_one_104 : decode cX11_one 104 = .ok (.bipush 40, 2) := by decide +kernel
theorem dX11_one_106 : decode cX11_one 106 = .ok (.invokevirtual 218, 3) := by decide +kernel
theorem dX11_one_109 : decode cX11_one 109 = .ok (.ifCond .eq 11, 3) := by decide +kernel
theorem dX11_one_112 : decode cX11_one 112 = .ok (.aload_n 0, 1) := by decide +kernel
theorem dX11_one_113 : decode cX11_one 113 = .ok (.getfield 212, 3) := by decide +kernel
theorem dX11_one_116 : decode cX11_one 116 = .ok (.iconst 5, 1) := by decide +kernel
theorem dX11_one_117 : decode cX11_one 117 = .ok (.if_icmp .ne 5, 3) := by decide +kernel
theorem dX11_one_120 : decode cX11_one 120 = .ok (.iconst 0, 1) := by decide +kernel
theorem dX11_one_121 : decode cX11_one 121 = .ok (.ireturn, 1) := by decide +kernel
theorem dX11_one_122 : decode cX11_one 122 = .ok (.aload_n 0, 1) := by decide +kernel
theorem dX11_one_123 : decode cX11_one 123 = .ok (.dup, 1) := by decide +kernel
theorem dX11_one_124 : decode cX11_one 124 = .ok (.getfield 212, 3) := by decide +kernel
theorem dX11_one_127 : decode cX11_one 127 = .ok (.iconst 1, 1) := by decide +kernel
theorem dX11_one_128 : decode cX11_one 128 = .ok (.iadd, 1) := by decide +kernel
theorem dX11_one_129 : decode cX11_one 129 = .ok (.putfield 212, 3) := by decide +kernel
theorem dX11_one_132 : decode cX11_one 132 = .ok (.aload_n 0, 1) := by decide +kernel
theorem dX11_one_133 : decode cX11_one 133 = .ok (.invokevirtual 199, 3) := by decide +kernel
theorem dX11_one_136 : decode cX11_one 136 = .ok (.aload_n 0, 1) := by decide +kernel
theorem dX11_one_137 : decode cX11_one 137 = .ok (.invokevirtual 230, 3) := by decide +kernel
theorem dX11_one_140 : decode cX11_one 140 = .ok (.ifCond .eq 12, 3) := by decide +kernel
theorem dX11_one_143 : decode cX11_one 143 = .ok (.aload_n 0, 1) := by decide +kernel
theorem dX11_one_144 : decode cX11_one 144 = .ok (.bipush 41, 2) := by decide +kernel
theorem dX11_one_146 : decode cX11_one 146 = .ok (.invokevirtual 218, 3) := by decide +kernel
theorem dX11_one_149 : decode cX11_one 149 = .ok (.ifCond .ne 5, 3) := by decide +kernel
theorem dX11_one_152 : decode cX11_one 152 = .ok (.iconst 0, 1) := by decide +kernel
theorem dX11_one_153 : decode cX11_one 153 = .ok (.ireturn, 1) := by decide +kernel
theorem dX11_one_154 : decode cX11_one 154 = .ok (.aload_n 0, 1) := by decide +kernel
theorem dX11_one_155 : decode cX11_one 155 = .ok (.dup, 1) := by decide +kernel
theorem dX11_one_156 : decode cX11_one 156 = .ok (.getfield 212, 3) := by decide +kernel
theorem dX11_one_159 : decode cX11_one 159 = .ok (.iconst 1, 1) := by decide +kernel
theorem dX11_one_160 : decode cX11_one 160 = .ok (.isub, 1) := by decide +kernel
theorem dX11_one_161 : decode cX11_one 161 = .ok (.putfield 212, 3) := by decide +kernel
theorem dX11_one_164 : decode cX11_one 164 = .ok (.aload_n 0, 1) := by decide +kernel
theorem dX11_one_165 : decode cX11_one 165 = .ok (.invokevirtual 199, 3) := by decide +kernel
theorem dX11_one_168 : decode cX11_one 168 = .ok (.iconst 1, 1) := by decide +kernel
theorem dX11_one_169 : decode cX11_one 169 = .ok (.ireturn, 1) := by decide +kernel
theorem dX11_part_0 : decode cX11_part 0 = .ok (.aload_n 0, 1) := by decide +kernel
theorem dX11_part_1 : decode cX11_part 1 = .ok (.aload_n 1, 1) := by decide +kernel
theorem dX11_part_2 : decode cX11_part 2 = .ok (.invokevirtual 176, 3) := by decide +kernel
theorem dX11_part_5 : decode cX11_part 5 = .ok (.ifCond .ne 5, 3) := by decide +kernel
theorem dX11_part_8 : decode cX11_part 8 = .ok (.iconst 0, 1) := by decide +kernel
theorem dX11_part_9 : decode cX11_part 9 = .ok (.ireturn, 1) := by decide +kernel
theorem dX11_part_10 : decode cX11_part 10 = .ok (.aload_n 0, 1) := by decide +kernel
theorem dX11_part_11 : decode cX11_part 11 = .ok (.invokevirtual 199, 3) := by decide +kernel
theorem dX11_part_14 : decode cX11_part 14 = .ok (.aload_n 0, 1) := by decide +kernel
theorem dX11_part_15 : decode cX11_part 15 = .ok (.getfield 46, 3) := by decide +kernel
theorem dX11_part_18 : decode cX11_part 18 = .ok (.iconst 4, 1) := by decide +kernel
theorem dX11_part_19 : decode cX11_part 19 = .ok (.aload_n 0, 1) := by decide +kernel
theorem dX11_part_20 : decode cX11_part 20 = .ok (.getfield 187, 3) := by decide +kernel
theorem dX11_part_23 : decode cX11_part 23 = .ok (.imul, 1) := by decide +kernel
theorem dX11_part_24 : decode cX11_part 24 = .ok (.iload_n 2, 1) := by decide +kernel
theorem dX11_part_25 : decode cX11_part 25 = .ok (.iadd, 1) := by decide +kernel
theorem dX11_part_26 : decode cX11_part 26 = .ok (.aload_n 0, 1) := by decide +kernel
theorem dX11_part_27 : decode cX11_part 27 = .ok (.getfield 190, 3) := by decide +kernel
theorem dX11_part_30 : decode cX11_part 30 = .ok (.iastore, 1) := by decide +kernel
theorem dX11_part_31 : decode cX11_part 31 = .ok (.aload_n 0, 1) := by decide +kernel
theorem dX11_part_32 : decode cX11_part 32 = .ok (.invokevirtual 230, 3) := by decide +kernel
theorem dX11_part_35 : decode cX11_part 35 = .ok (.ifCond .eq 12, 3) := by decide +kernel
theorem dX11_part_38 : decode cX11_part 38 = .ok (.aload_n 0, 1) := by decide +kernel
theorem dX11_part_39 : decode cX11_part 39 = .ok (.bipush 59, 2) := by decide +kernel
theorem dX11_part_41 : decode cX11_part 41 = .ok (.invokevirtual 218, 3) := by decide +kernel
theorem dX11_part_44 : decode cX11_part 44 = .ok (.ifCond .ne 5, 3) := by decide +kernel
theorem dX11_part_47 : decode cX11_part 47 = .ok (.iconst 0, 1) := by decide +kernel
theorem dX11_part_48 : decode cX11_part 48 = .ok (.ireturn, 1) := by decide +kernel
theorem dX11_part_49 : decode cX11_part 49 = .ok (.aload_n 0, 1) := by decide +kernel
theorem dX11_part_50 : decode cX11_part 50 = .ok (.invokevirtual 199, 3) := by decide +kernel
theorem dX11_part_53 : decode cX11_part 53 = .ok (.iconst 1, 1) := by decide +kernel
theorem dX11_part_54 : decode cX11_part 54 = .ok (.ireturn, 1) := by decide +kernel
theorem dX11_text_0 : decode cX11_text 0 = .ok (.aload_n 0, 1) := by decide +kernel
theorem dX11_text_1 : decode cX11_text 1 = .ok (.getfield 187, 3) := by decide +kernel
theorem dX11_text_4 : decode cX11_text 4 = .ok (.bipush 6, 2) := by decide +kernel
theorem dX11_text_6 : decode cX11_text 6 = .ok (.if_icmp .ne 6, 3) := by decide +kernel
theorem dX11_text_9 : decode cX11_text 9 = .ok (.bipush (-4), 2) := by decide +kernel
theorem dX11_text_11 : decode cX11_text 11 = .ok (.ireturn, 1) := by decide +kernel
theorem dX11_text_12 : decode cX11_text 12 = .ok (.aload_n 0, 1) := by decide +kernel
theorem dX11_text_13 : decode cX11_text 13 = .ok (.iconst 0, 1) := by decide +kernel
theorem dX11_text_14 : decode cX11_text 14 = .ok (.putfield 156, 3) := by decide +kernel
theorem dX11_text_17 : decode cX11_text 17 = .ok (.aload_n 0, 1) := by decide +kernel
theorem dX11_text_18 : decode cX11_text 18 = .ok (.iconst 0, 1) := by decide +kernel
theorem dX11_text_19 : decode cX11_text 19 = .ok (.putfield 212, 3) := by decide +kernel
theorem dX11_text_22 : decode cX11_text 22 = .ok (.aload_n 0, 1) := by decide +kernel
theorem dX11_text_23 : decode cX11_text 23 = .ok (.iconst 0, 1) := by decide +kernel
theorem dX11_text_24 : decode cX11_text 24 = .ok (.putfield 190, 3) := by decide +kernel
theorem dX11_text_27 : decode cX11_text 27 = .ok (.aload_n 0, 1) := by decide +kernel
theorem dX11_text_28 : decode cX11_text 28 = .ok (.invokevirtual 199, 3) := by decide +kernel
theorem dX11_text_31 : decode cX11_text 31 = .ok (.aload_n 0, 1) := by decide +kernel
theorem dX11_text_32 : decode cX11_text 32 = .ok (.ldc 233, 2) := by decide +kernel
theorem dX11_text_34 : decode cX11_text 34 = .ok (.iconst 0, 1) := by decide +kernel
theorem dX11_text_35 : decode cX11_text 35 = .ok (.invokevirtual 235, 3) := by decide +kernel
theorem dX11_text_38 : decode cX11_text 38 = .ok (.ifCond .eq 34, 3) := by decide +kernel
theorem dX11_text_41 : decode cX11_text 41 = .ok (.aload_n 0, 1) := by decide +kernel
theorem dX11_text_42 : decode cX11_text 42 = .ok (.ldc 239, 2) := by decide +kernel
theorem dX11_text_44 : decode cX11_text 44 = .ok (.iconst 1, 1) := by decide +kernel
theorem dX11_text_45 : decode cX11_text 45 = .ok (.invokevirtual 235, 3) := by decide +kernel
theorem dX11_text_48 : decode cX11_text 48 = .ok (.ifCond .eq 24, 3) := by decide +kernel
theorem dX11_text_51 : decode cX11_text 51 = .ok (.aload_n 0, 1) := by decide +kernel
theorem dX11_text_52 : decode cX11_text 52 = .ok (.ldc 241, 2) := by decide +kernel
theorem dX11_text_54 : decode cX11_text 54 = .ok (.iconst 2, 1) := by decide +kernel
theorem dX11_text_55 : decode cX11_text 55 = .ok (.invokevirtual 235, 3) := by decide +kernel
theorem dX11_text_58 : decode cX11_text 58 = .ok (.ifCond .eq 14, 3) := by decide +kernel
theorem dX11_text_61 : decode cX11_text 61 = .ok (.aload_n 0, 1) := by decide +kernel
theorem dX11_text_62 : decode cX11_text 62 = .ok (.getfield 162, 3) := by decide +kernel
theorem dX11_text_65 : decode cX11_text 65 = .ok (.ifCond .ne 7, 3) := by decide +kernel
theorem dX11_text_68 : decode cX11_text 68 = .ok (.iconst 1, 1) := by decide +kernel
theorem dX11_text_69 : decode cX11_text 69 = .ok (.goto 4, 3) := by decide +kernel
theorem dX11_text_72 : decode cX11_text 72 = .ok (.iconst 0, 1) := by decide +kernel
theorem dX11_text_73 : decode cX11_text 73 = .ok (.istore_n 1, 1) := by decide +kernel
theorem dX11_text_74 : decode cX11_text 74 = .ok (.aload_n 0, 1) := by decide +kernel
theorem dX11_text_75 : decode cX11_text 75 = .ok (.iconst 0, 1) := by decide +kernel
theorem dX11_text_76 : decode cX11_text 76 = .ok (.putfield 153, 3) := by decide +kernel
theorem dX11_text_79 : decode cX11_text 79 = .ok (.iload_n 1, 1) := by decide +kernel
theorem dX11_text_80 : decode cX11_text 80 = .ok (.ifCond .ne 11, 3) := by decide +kernel
theorem dX11_text_83 : decode cX11_text 83 = .ok (.bipush (-100), 2) := by decide +kernel
theorem dX11_text_85 : decode cX11_text 85 = .ok (.aload_n 0, 1) := by decide +kernel
theorem dX11_text_86 : decode cX11_text 86 = .ok (.getfield 159, 3) := by decide +kernel
theorem dX11_text_89 : decode cX11_text 89 = .ok (.isub, 1) := by decide +kernel
theorem dX11_text_90 : decode cX11_text 90 = .ok (.ireturn, 1) := by decide +kernel
theorem dX11_text_91 : decode cX11_text 91 = .ok (.aload_n 0, 1) := by decide +kernel
theorem dX11_text_92 : decode cX11_text 92 = .ok (.getfield 46, 3) := by decide +kernel
theorem dX11_text_95 : decode cX11_text 95 = .ok (.iconst 4, 1) := by decide +kernel
theorem dX11_text_96 : decode cX11_text 96 = .ok (.aload_n 0, 1) := by decide +kernel
theorem dX11_text_97 : decode cX11_text 97 = .ok (.getfield 187, 3) := by decide +kernel
theorem dX11_text_100 : decode cX11_text 100 = .ok (.imul, 1) := by decide +kernel
theorem dX11_text_101 : decode cX11_text 101 = .ok (.iconst 3, 1) := by decide +kernel
theorem dX11_text_102 : decode cX11_text 102 = .ok (.iadd, 1) := by decide +kernel
theorem dX11_text_103 : decode cX11_text 103 = .ok (.aload_n 0, 1) := by decide +kernel
theorem dX11_text_104 : decode cX11_text 104 = .ok (.getfield 190, 3) := by decide +kernel
theorem dX11_text_107 : decode cX11_text 107 = .ok (.iastore, 1) := by decide +kernel
theorem dX11_text_108 : decode cX11_text 108 = .ok (.aload_n 0, 1) := by decide +kernel
theorem dX11_text_109 : decode cX11_text 109 = .ok (.dup, 1) := by decide +kernel
theorem dX11_text_110 : decode cX11_text 110 = .ok (.getfield 187, 3) := by decide +kernel
theorem dX11_text_113 : decode cX11_text 113 = .ok (.dup_x1, 1) := by decide +kernel
theorem dX11_text_114 : decode cX11_text 114 = .ok (.iconst 1, 1) := by decide +kernel
theorem dX11_text_115 : decode cX11_text 115 = .ok (.iadd, 1) := by decide +kernel
theorem dX11_text_116 : decode cX11_text 116 = .ok (.putfield 187, 3) := by decide +kernel
theorem dX11_text_119 : decode cX11_text 119 = .ok (.ireturn, 1) := by decide +kernel
theorem dX11_force_0 : decode cX11_force 0 = .ok (.iload_n 1, 1) := by decide +kernel
theorem dX11_force_1 : decode cX11_force 1 = .ok (.iconst 0, 1) := by decide +kernel
theorem dX11_force_2 : decode cX11_force 2 = .ok (.aload_n 0, 1) := by decide +kernel
theorem dX11_force_3 : decode cX11_force 3 = .ok (.getfield 187, 3) := by decide +kernel
theorem dX11_force_6 : decode cX11_force 6 = .ok (.iconst 1, 1) := by decide +kernel
theorem dX11_force_7 : decode cX11_force 7 = .ok (.isub, 1) := by decide +kernel
theorem dX11_force_8 : decode cX11_force 8 = .ok (.invokestatic 127, 3) := by decide +kernel
theorem dX11_force_11 : decode cX11_force 11 = .ok (.ifCond .ne 6, 3) := by decide +kernel
theorem dX11_force_14 : decode cX11_force 14 = .ok (.bipush (-2), 2) := by decide +kernel
theorem dX11_force_16 : decode cX11_force 16 = .ok (.ireturn, 1) := by decide +kernel
theorem dX11_force_17 : decode cX11_force 17 = .ok (.aload_n 0, 1) := by decide +kernel
theorem dX11_force_18 : decode cX11_force 18 = .ok (.getfield 243, 3) := by decide +kernel
theorem dX11_force_21 : decode cX11_force 21 = .ok (.istore_n 2, 1) := by decide +kernel
theorem dX11_force_22 : decode cX11_force 22 = .ok (.aload_n 0, 1) := by decide +kernel
theorem dX11_force_23 : decode cX11_force 23 = .ok (.iload_n 1, 1) := by decide +kernel
theorem dX11_force_24 : decode cX11_force 24 = .ok (.putfield 243, 3) := by decide +kernel
theorem dX11_force_27 : decode cX11_force 27 = .ok (.iload_n 2, 1) := by decide +kernel
theorem dX11_force_28 : decode cX11_force 28 = .ok (.ireturn, 1) := by decide +kernel
theorem dX11_worth_0 : decode cX11_worth 0 = .ok (.aload_n 0, 1) := by decide +kernel
theorem dX11_worth_1 : decode cX11_worth 1 = .ok (.getfield 46, 3) := by decide +kernel
theorem dX11_worth_4 : decode cX11_worth 4 = .ok (.iconst 4, 1) := by decide +kernel
theorem dX11_worth_5 : decode cX11_worth 5 = .ok (.aload_n 0, 1) := by decide +kernel
theorem dX11_worth_6 : decode cX11_worth 6 = .ok (.getfield 243, 3) := by decide +kernel
theorem dX11_worth_9 : decode cX11_worth 9 = .ok (.imul, 1) := by decide +kernel
theorem dX11_worth_10 : decode cX11_worth 10 = .ok (.iload_n 1, 1) := by decide +kernel
theorem dX11_worth_11 : decode cX11_worth 11 = .ok (.iadd, 1) := by decide +kernel
theorem dX11_worth_12 : decode cX11_worth 12 = .ok (.iconst 1, 1) := by decide +kernel
theorem dX11_worth_13 : decode cX11_worth 13 = .ok (.iadd, 1) := by decide +kernel
theorem dX11_worth_14 : decode cX11_worth 14 = .ok (.iaload, 1) := by decide +kernel
theorem dX11_worth_15 : decode cX11_worth 15 = .ok (.istore 8, 2) := by decide +kernel
theorem dX11_worth_17 : decode cX11_worth 17 = .ok (.iconst 0, 1) := by decide +kernel
theorem dX11_worth_18 : decode cX11_worth 18 = .ok (.istore 9, 2) := by decide +kernel
theorem dX11_worth_20 : decode cX11_worth 20 = .ok (.aload_n 0, 1) := by decide +kernel
theorem dX11_worth_21 : decode cX11_worth 21 = .ok (.getfield 46, 3) := by decide +kernel
theorem dX11_worth_24 : decode cX11_worth 24 = .ok (.iconst 4, 1) := by decide +kernel
theorem dX11_worth_25 : decode cX11_worth 25 = .ok (.aload_n 0, 1) := by decide +kernel
theorem dX11_worth_26 : decode cX11_worth 26 = .ok (.getfield 243, 3) := by decide +kernel
theorem dX11_worth_29 : decode cX11_worth 29 = .ok (.imul, 1) := by decide +kernel
theorem dX11_worth_30 : decode cX11_worth 30 = .ok (.iload_n 1, 1) := by decide +kernel
theorem dX11_worth_31 : decode cX11_worth 31 = .ok (.iadd, 1) := by decide +kernel
theorem dX11_worth_32 : decode cX11_worth 32 = .ok (.iaload, 1) := by decide +kernel
theorem dX11_worth_33 : decode cX11_worth 33 = .ok (.istore 10, 2) := by decide +kernel
theorem dX11_worth_35 : decode cX11_worth 35 = .ok (.iload 10, 2) := by decide +kernel
theorem dX11_worth_37 : decode cX11_worth 37 = .ok (.iload 8, 2) := by decide +kernel
theorem dX11_worth_39 : decode cX11_worth 39 = .ok (.if_icmp .ge 359, 3) := by decide +kernel
theorem dX11_worth_42 : decode cX11_worth 42 = .ok (.aload_n 0, 1) := by decide +kernel
theorem dX11_worth_43 : decode cX11_worth 43 = .ok (.getfield 43, 3) := by decide +kernel
theorem dX11_worth_46 : decode cX11_worth 46 = .ok (.sipush 170, 3) := by decide +kernel
theorem dX11_worth_49 : decode cX11_worth 49 = .ok (.aload_n 0, 1) := by decide +kernel
theorem dX11_worth_50 : decode cX11_worth 50 = .ok (.getfield 243, 3) := by decide +kernel
theorem dX11_worth_53 : decode cX11_worth 53 = .ok (.imul, 1) := by decide +kernel
theorem dX11_worth_54 : decode cX11_worth 54 = .ok (.iload 10, 2) := by decide +kernel
theorem dX11_worth_56 : decode cX11_worth 56 = .ok (.iadd, 1) := by decide +kernel
theorem dX11_worth_57 : decode cX11_worth 57 = .ok (.iaload, 1) := by decide +kernel
theorem dX11_worth_58 : decode cX11_worth 58 = .ok (.istore 11, 2) := by decide +kernel
theorem dX11_worth_60 : decode cX11_worth 60 = .ok (.iload 11, 2) := by decide +kernel
theorem dX11_worth_62 : decode cX11_worth 62 = .ok (.ifCond .lt 18, 3) := by decide +kernel
theorem dX11_worth_65 : decode cX11_worth 65 = .ok (.aload_n 0, 1) := by decide +kernel
theorem dX11_worth_66 : decode cX11_worth 66 = .ok (.getfield 49, 3) := by decide +kernel
theorem dX11_worth_69 : decode cX11_worth 69 = .ok (.iload 9, 2) := by decide +kernel
theorem dX11_worth_71 : decode cX11_worth 71 = .ok (.iinc 9 1, 3) := by decide +kernel
theorem dX11_worth_74 : decode cX11_worth 74 = .ok (.iload 11, 2) := by decide +kernel
theorem dX11_worth_76 : decode cX11_worth 76 = .ok (.iastore, 1) := by decide +kernel
theorem dX11_worth_77 : decode cX11_worth 77 = .ok (.goto 315, 3) := by decide +kernel
theorem dX11_worth_80 : decode cX11_worth 80 = .ok (.iload 11, 2) := by decide +kernel
theorem dX11_worth_82 : decode cX11_worth 82 = .ok (.bipush (-7), 2) := by decide +kernel
theorem dX11_worth_84 : decode cX11_worth 84 = .ok (.if_icmp .le 75, 3) := by decide +kernel
theorem dX11_worth_87 : decode cX11_worth 87 = .ok (.aload_n 0, 1) := by decide +kernel
theorem dX11_worth_88 : decode cX11_worth 88 = .ok (.getfield 49, 3) := by decide +kernel
theorem dX11_worth_91 : decode cX11_worth 91 = .ok (.iload 9, 2) := by decide +kernel
theorem dX11_worth_93 : decode cX11_worth 93 = .ok (.iinc 9 1, 3) := by decide +kernel
theorem dX11_worth_96 : decode cX11_worth 96 = .ok (.iload 11, 2) := by decide +kernel
theorem dX11_worth_98 : decode cX11_worth 98 = .ok (.iconst (-1), 1) := by decide +kernel
theorem dX11_worth_99 : decode cX11_worth 99 = .ok (.if_icmp .ne 7, 3) := by decide +kernel
theorem dX11_worth_102 : decode cX11_worth 102 = .ok (.iload_n 2, 1) := by decide +kernel
theorem dX11_worth_103 : decode cX11_worth 103 = .ok (.goto 52, 3) := by decide +kernel
theorem dX11_worth_106 : decode cX11_worth 106 = .ok (.iload 11, 2) := by decide +kernel
theorem dX11_worth_108 : decode cX11_worth 108 = .ok (.bipush (-2), 2) := by decide +kernel
theorem dX11_worth_110 : decode cX11_worth 110 = .ok (.if_icmp .ne 7, 3) := by decide +kernel
theorem dX11_worth_113 : decode cX11_worth 113 = .ok (.iload_n 3, 1) := by decide +kernel
theorem dX11_worth_114 : decode cX11_worth 114 = .ok (.goto 41, 3) := by decide +kernel
theorem dX11_worth_117 : decode cX11_worth 117 = .ok (.iload 11, 2) := by decide +kernel
theorem dX11_worth_119 : decode cX11_worth 119 = .ok (.bipush (-3), 2) := by decide +kernel
theorem dX11_worth_121 : decode cX11_worth 121 = .ok (.if_icmp .ne 8, 3) := by decide +kernel
theorem dX11_worth_124 : decode cX11_worth 124 = .ok (.iload 4, 2) := by decide +kernel
theorem dX11_worth_126 : decode cX11_worth 126 = .ok (.goto 29, 3) := by decide +kernel
theorem dX11_worth_129 : decode cX11_worth 129 = .ok (.iload 11, 2) := by decide +kernel
theorem dX11_worth_131 : decode cX11_worth 131 = .ok (.bipush (-4), 2) := by decide +kernel
theorem dX11_worth_133 : decode cX11_worth 133 = .ok (.if_icmp .ne 8, 3) := by decide +kernel
theorem dX11_worth_136 : decode cX11_worth 136 = .ok (.iload 5, 2) := by decide +kernel
theorem dX11_worth_138 : decode cX11_worth 138 = .ok (.goto 17, 3) := by decide +kernel
theorem dX11_worth_141 : decode cX11_worth 141 = .ok (.iload 11, 2) := by decide +kernel
theorem dX11_worth_143 : decode cX11_worth 143 = .ok (.bipush (-5), 2) := by decide +kernel
theorem dX11_worth_145 : decode cX11_worth 145 = .ok (.if_icmp .ne 8, 3) := by decide +kernel
theorem dX11_worth_148 : decode cX11_worth 148 = .ok (.iload 6, 2) := by decide +kernel
theorem dX11_worth_150 : decode cX11_worth 150 = .ok (.goto 5, 3) := by decide +kernel
theorem dX11_worth_153 : decode cX11_worth 153 = .ok (.iload 7, 2) := by decide +kernel
theorem dX11_worth_155 : decode cX11_worth 155 = .ok (.iastore, 1) := by decide +kernel
theorem dX11_worth_156 : decode cX11_worth 156 = .ok (.goto 236, 3) := by decide +kernel
theorem dX11_worth_159 : decode cX11_worth 159 = .ok (.aload_n 0, 1) := by decide +kernel
theorem dX11_worth_160 : decode cX11_worth 160 = .ok (.getfield 49, 3) := by decide +kernel
theorem dX11_worth_163 : decode cX11_worth 163 = .ok (.iload 9, 2) := by decide +kernel
theorem dX11_worth_165 : decode cX11_worth 165 = .ok (.iconst 1, 1) := by decide +kernel
theorem dX11_worth_166 : decode cX11_worth 166 = .ok (.isub, 1) := by decide +kernel
theorem dX11_worth_167 : decode cX11_worth 167 = .ok (.iaload, 1) := by decide +kernel
theorem dX11_worth_168 : decode cX11_worth 168 = .ok (.istore 12, 2) := by decide +kernel
theorem dX11_worth_170 : decode cX11_worth 170 = .ok (.iload 11, 2) := by decide +kernel
theorem dX11_worth_172 : decode cX11_worth 172 = .ok (.bipush (-13), 2) := by decide +kernel
theorem dX11_worth_174 : decode cX11_worth 174 = .ok (.if_icmp .ne 25, 3) := by decide +kernel
theorem dX11_worth_177 : decode cX11_worth 177 = .ok (.aload_n 0, 1) := by decide +kernel
theorem dX11_worth_178 : decode cX11_worth 178 = .ok (.getfield 49, 3) := by decide +kernel
theorem dX11_worth_181 : decode cX11_worth 181 = .ok (.iload 9, 2) := by decide +kernel
theorem dX11_worth_183 : decode cX11_worth 183 = .ok (.iconst 1, 1) := by decide +kernel
theorem dX11_worth_184 : decode cX11_worth 184 = .ok (.isub, 1) := by decide +kernel
theorem dX11_worth_185 : decode cX11_worth 185 = .ok (.iload 12, 2) := by decide +kernel
theorem dX11_worth_187 : decode cX11_worth 187 = .ok (.ifCond .ne 7, 3) := by decide +kernel
theorem dX11_worth_190 : decode cX11_worth 190 = .ok (.iconst 1, 1) := by decide +kernel
theorem dX11_worth_191 : decode cX11_worth 191 = .ok (.goto 4, 3) := by decide +kernel
theorem dX11_worth_194 : decode cX11_worth 194 = .ok (.iconst 0, 1) := by decide +kernel
theorem dX11_worth_195 : decode cX11_worth 195 = .ok (.iastore, 1) := by decide +kernel
theorem dX11_worth_196 : decode cX11_worth 196 = .ok (.goto 196, 3) := by decide +kernel
theorem dX11_worth_199 : decode cX11_worth 199 = .ok (.iload 11, 2) := by decide +kernel
theorem dX11_worth_201 : decode cX11_worth 201 = .ok (.bipush (-19), 2) := by decide +kernel
theorem dX11_worth_203 : decode cX11_worth 203 = .ok (.if_icmp .ne 18, 3) := by decide +kernel
theorem dX11_worth_206 : decode cX11_worth 206 = .ok (.aload_n 0, 1) := by decide +kernel
theorem dX11_worth_207 : decode cX11_worth 207 = .ok (.getfield 49, 3) := by decide +kernel
theorem dX11_worth_210 : decode cX11_worth 210 = .ok (.iload 9, 2) := by decide +kernel
theorem dX11_worth_212 : decode cX11_worth 212 = .ok (.iconst 1, 1) := by decide +kernel
theorem dX11_worth_213 : decode cX11_worth 213 = .ok (.isub, 1) := by decide +kernel
theorem dX11_worth_214 : decode cX11_worth 214 = .ok (.iload 12, 2) := by decide +kernel
theorem dX11_worth_216 : decode cX11_worth 216 = .ok (.ineg, 1) := by decide +kernel
theorem dX11_worth_217 : decode cX11_worth 217 = .ok (.iastore, 1) := by decide +kernel
theorem dX11_worth_218 : decode cX11_worth 218 = .ok (.goto 174, 3) := by decide +kernel
theorem dX11_worth_221 : decode cX11_worth 221 = .ok (.aload_n 0, 1) := by decide +kernel
theorem dX11_worth_222 : decode cX11_worth 222 = .ok (.getfield 49, 3) := by decide +kernel
theorem dX11_worth_225 : decode cX11_worth 225 = .ok (.iload 9, 2) := by decide +kernel
theorem dX11_worth_227 : decode cX11_worth 227 = .ok (.iconst 2, 1) := by decide +kernel
theorem dX11_worth_228 : decode cX11_worth 228 = .ok (.isub, 1) := by decide +kernel
theorem dX11_worth_229 : decode cX11_worth 229 = .ok (.iaload, 1) := by decide +kernel
theorem dX11_worth_230 : decode cX11_worth 230 = .ok (.istore 13, 2) := by decide +kernel
theorem dX11_worth_232 : decode cX11_worth 232 = .ok (.iinc 9 (-1), 3) := by decide +kernel
theorem dX11_worth_235 : decode cX11_worth 235 = .ok (.iload 11, 2) := by decide +kernel
theorem dX11_worth_237 : decode cX11_worth 237 = .ok (.tableswitch 137 (-17) (-11) #[127, 117, 100, 83, 137, 63, 43], 43) := by decide +kernel
theorem dX11_worth_280 : decode cX11_worth 280 = .ok (.iload 13, 2) := by decide +kernel
theorem dX11_worth_282 : decode cX11_worth 282 = .ok (.ifCond .ne 8, 3) := by decide +kernel
theorem dX11_worth_285 : decode cX11_worth 285 = .ok (.iload 12, 2) := by decide +kernel
theorem dX11_worth_287 : decode cX11_worth 287 = .ok (.ifCond .eq 7, 3) := by decide +kernel
theorem dX11_worth_290 : decode cX11_worth 290 = .ok (.iconst 1, 1) := by decide +kernel
theorem dX11_worth_291 : decode cX11_worth 291 = .ok (.goto 4, 3) := by decide +kernel
theorem dX11_worth_294 : decode cX11_worth 294 = .ok (.iconst 0, 1) := by decide +kernel
theorem dX11_worth_295 : decode cX11_worth 295 = .ok (.istore 14, 2) := by decide +kernel
theorem dX11_worth_297 : decode cX11_worth 297 = .ok (.goto 84, 3) := by decide +kernel
theorem dX11_worth_300 : decode cX11_worth 300 = .ok (.iload 13, 2) := by decide +kernel
theorem dX11_worth_302 : decode cX11_worth 302 = .ok (.ifCond .eq 12, 3) := by decide +kernel
theorem dX11_worth_305 : decode cX11_worth 305 = .ok (.iload 12, 2) := by decide +kernel
theorem dX11_worth_307 : decode cX11_worth 307 = .ok (.ifCond .eq 7, 3) := by decide +kernel
theorem dX11_worth_310 : decode cX11_worth 310 = .ok (.iconst 1, 1) := by decide +kernel
theorem dX11_worth_311 : decode cX11_worth 311 = .ok (.goto 4, 3) := by decide +kernel
theorem dX11_worth_314 : decode cX11_worth 314 = .ok (.iconst 0, 1) := by decide +kernel
theorem dX11_worth_315 : decode cX11_worth 315 = .ok (.istore 14, 2) := by decide +kernel
theorem dX11_worth_317 : decode cX11_worth 317 = .ok (.goto 64, 3) := by decide +kernel
theorem dX11_worth_320 : decode cX11_worth 320 = .ok (.iload 13, 2) := by decide +kernel
theorem dX11_worth_322 : decode cX11_worth 322 = .ok (.iload 12, 2) := by decide +kernel
theorem dX11_worth_324 : decode cX11_worth 324 = .ok (.if_icmp .ge 7, 3) := by decide +kernel
theorem dX11_worth_327 : decode cX11_worth 327 = .ok (.iconst 1, 1) := by decide +kernel
theorem dX11_worth_328 : decode cX11_worth 328 = .ok (.goto 4, 3) := by decide +kernel
theorem dX11_worth_331 : decode cX11_worth 331 = .ok (.iconst 0, 1) := by decide +kernel
theorem dX11_worth_332 : decode cX11_worth 332 = .ok (.istore 14, 2) := by decide +kernel
theorem dX11_worth_334 : decode cX11_worth 334 = .ok (.goto 47, 3) := by decide +kernel
theorem dX11_worth_337 : decode cX11_worth 337 = .ok (.iload 13, 2) := by decide +kernel
theorem dX11_worth_339 : decode cX11_worth 339 = .ok (.iload 12, 2) := by decide +kernel
theorem dX11_worth_341 : decode cX11_worth 341 = .ok (.if_icmp .ne 7, 3) := by decide +kernel
theorem dX11_worth_344 : decode cX11_worth 344 = .ok (.iconst 1, 1) := by decide +kernel
theorem dX11_worth_345 : decode cX11_worth 345 = .ok (.goto 4, 3) := by decide +kernel
theorem dX11_worth_348 : decode cX11_worth 348 = .ok (.iconst 0, 1) := by decide +kernel
theorem dX11_worth_349 : decode cX11_worth 349 = .ok (.istore 14, 2) := by decide +kernel
theorem dX11_worth_351 : decode cX11_worth 351 = .ok (.goto 30, 3) := by decide +kernel
theorem dX11_worth_354 : decode cX11_worth 354 = .ok (.iload 13, 2) := by decide +kernel
theorem dX11_worth_356 : decode cX11_worth 356 = .ok (.iload 12, 2) := by decide +kernel
theorem dX11_worth_358 : decode cX11_worth 358 = .ok (.iadd, 1) := by decide +kernel
theorem dX11_worth_359 : decode cX11_worth 359 = .ok (.istore 14, 2) := by decide +kernel
theorem dX11_worth_361 : decode cX11_worth 361 = .ok (.goto 20, 3) := by decide +kernel
theorem dX11_worth_364 : decode cX11_worth 364 = .ok (.iload 13, 2) := by decide +kernel
theorem dX11_worth_366 : decode cX11_worth 366 = .ok (.iload 12, 2) := by decide +kernel
theorem dX11_worth_368 : decode cX11_worth 368 = .ok (.isub, 1) := by decide +kernel
theorem dX11_worth_369 : decode cX11_worth 369 = .ok (.istore 14, 2) := by decide +kernel
theorem dX11_worth_371 : decode cX11_worth 371 = .ok (.goto 10, 3) := by decide +kernel
theorem dX11_worth_374 : decode cX11_worth 374 = .ok (.iload 13, 2) := by decide +kernel
theorem dX11_worth_376 : decode cX11_worth 376 = .ok (.iload 12, 2) := by decide +kernel
theorem dX11_worth_378 : decode cX11_worth 378 = .ok (.imul, 1) := by decide +kernel
theorem dX11_worth_379 : decode cX11_worth 379 = .ok (.istore 14, 2) := by decide +kernel
theorem dX11_worth_381 : decode cX11_worth 381 = .ok (.aload_n 0, 1) := by decide +kernel
theorem dX11_worth_382 : decode cX11_worth 382 = .ok (.getfield 49, 3) := by decide +kernel
theorem dX11_worth_385 : decode cX11_worth 385 = .ok (.iload 9, 2) := by decide +kernel
theorem dX11_worth_387 : decode cX11_worth 387 = .ok (.iconst 1, 1) := by decide +kernel
theorem dX11_worth_388 : decode cX11_worth 388 = .ok (.isub, 1) := by decide +kernel
theorem dX11_worth_389 : decode cX11_worth 389 = .ok (.iload 14, 2) := by decide +kernel
theorem dX11_worth_391 : decode cX11_worth 391 = .ok (.iastore, 1) := by decide +kernel
theorem dX11_worth_392 : decode cX11_worth 392 = .ok (.iinc 10 1, 3) := by decide +kernel
theorem dX11_worth_395 : decode cX11_worth 395 = .ok (.goto (-360), 3) := by decide +kernel
theorem dX11_worth_398 : decode cX11_worth 398 = .ok (.aload_n 0, 1) := by decide +kernel
theorem dX11_worth_399 : decode cX11_worth 399 = .ok (.getfield 49, 3) := by decide +kernel
theorem dX11_worth_402 : decode cX11_worth 402 = .ok (.iconst 0, 1) := by decide +kernel
theorem dX11_worth_403 : decode cX11_worth 403 = .ok (.iaload, 1) := by decide +kernel
theorem dX11_worth_404 : decode cX11_worth 404 = .ok (.ireturn, 1) := by decide +kernel
theorem dX11_comes_0 : decode cX11_comes 0 = .ok (.iload_n 2, 1) := by decide +kernel
theorem dX11_comes_1 : decode cX11_comes 1 = .ok (.aload_n 0, 1) := by decide +kernel
theorem dX11_comes_2 : decode cX11_comes 2 = .ok (.getfield 7, 3) := by decide +kernel
theorem dX11_comes_5 : decode cX11_comes 5 = .ok (.iload_n 1, 1) := by decide +kernel
theorem dX11_comes_6 : decode cX11_comes 6 = .ok (.iaload, 1) := by decide +kernel
theorem dX11_comes_7 : decode cX11_comes 7 = .ok (.if_icmp .lt 25, 3) := by decide +kernel
theorem dX11_comes_10 : decode cX11_comes 10 = .ok (.iload_n 2, 1) := by decide +kernel
theorem dX11_comes_11 : decode cX11_comes 11 = .ok (.aload_n 0, 1) := by decide +kernel
theorem dX11_comes_12 : decode cX11_comes 12 = .ok (.getfield 7, 3) := by decide +kernel
theorem dX11_comes_15 : decode cX11_comes 15 = .ok (.iload_n 1, 1) := by decide +kernel
theorem dX11_comes_16 : decode cX11_comes 16 = .ok (.iaload, 1) := by decide +kernel
theorem dX11_comes_17 : decode cX11_comes 17 = .ok (.isub, 1) := by decide +kernel
theorem dX11_comes_18 : decode cX11_comes 18 = .ok (.aload_n 0, 1) := by decide +kernel
theorem dX11_comes_19 : decode cX11_comes 19 = .ok (.getfield 13, 3) := by decide +kernel
theorem dX11_comes_22 : decode cX11_comes 22 = .ok (.iload_n 1, 1) := by decide +kernel
theorem dX11_comes_23 : decode cX11_comes 23 = .ok (.iaload, 1) := by decide +kernel
theorem dX11_comes_24 : decode cX11_comes 24 = .ok (.irem, 1) := by decide +kernel
theorem dX11_comes_25 : decode cX11_comes 25 = .ok (.ifCond .ne 7, 3) := by decide +kernel
theorem dX11_comes_28 : decode cX11_comes 28 = .ok (.iconst 1, 1) := by decide +kernel
theorem dX11_comes_29 : decode cX11_comes 29 = .ok (.goto 4, 3) := by decide +kernel
theorem dX11_comes_32 : decode cX11_comes 32 = .ok (.iconst 0, 1) := by decide +kernel
theorem dX11_comes_33 : decode cX11_comes 33 = .ok (.ireturn, 1) := by decide +kernel
theorem dX11_there_0 : decode cX11_there 0 = .ok (.iload_n 2, 1) := by decide +kernel
theorem dX11_there_1 : decode cX11_there 1 = .ok (.aload_n 0, 1) := by decide +kernel
theorem dX11_there_2 : decode cX11_there 2 = .ok (.getfield 25, 3) := by decide +kernel
theorem dX11_there_5 : decode cX11_there 5 = .ok (.iload_n 1, 1) := by decide +kernel
theorem dX11_there_6 : decode cX11_there 6 = .ok (.iaload, 1) := by decide +kernel
theorem dX11_there_7 : decode cX11_there 7 = .ok (.if_icmp .le 23, 3) := by decide +kernel
theorem dX11_there_10 : decode cX11_there 10 = .ok (.iload_n 2, 1) := by decide +kernel
theorem dX11_there_11 : decode cX11_there 11 = .ok (.aload_n 0, 1) := by decide +kernel
theorem dX11_there_12 : decode cX11_there 12 = .ok (.getfield 25, 3) := by decide +kernel
theorem dX11_there_15 : decode cX11_there 15 = .ok (.iload_n 1, 1) := by decide +kernel
theorem dX11_there_16 : decode cX11_there 16 = .ok (.iaload, 1) := by decide +kernel
theorem dX11_there_17 : decode cX11_there 17 = .ok (.isub, 1) := by decide +kernel
theorem dX11_there_18 : decode cX11_there 18 = .ok (.aload_n 0, 1) := by decide +kernel
theorem dX11_there_19 : decode cX11_there 19 = .ok (.iload_n 1, 1) := by decide +kernel
theorem dX11_there_20 : decode cX11_there 20 = .ok (.invokevirtual 144, 3) := by decide +kernel
theorem dX11_there_23 : decode cX11_there 23 = .ok (.if_icmp .gt 7, 3) := by decide +kernel
theorem dX11_there_26 : decode cX11_there 26 = .ok (.iconst 1, 1) := by decide +kernel
theorem dX11_there_27 : decode cX11_there 27 = .ok (.goto 4, 3) := by decide +kernel
theorem dX11_there_30 : decode cX11_there 30 = .ok (.iconst 0, 1) := by decide +kernel
theorem dX11_there_31 : decode cX11_there 31 = .ok (.ireturn, 1) := by decide +kernel
theorem dX11_above_0 : decode cX11_above 0 = .ok (.iload_n 2, 1) := by decide +kernel
theorem dX11_above_1 : decode cX11_above 1 = .ok (.ifCond .ge 5, 3) := by decide +kernel
theorem dX11_above_4 : decode cX11_above 4 = .ok (.iconst 1, 1) := by decide +kernel
theorem dX11_above_5 : decode cX11_above 5 = .ok (.ireturn, 1) := by decide +kernel
theorem dX11_above_6 : decode cX11_above 6 = .ok (.aload_n 0, 1) := by decide +kernel
theorem dX11_above_7 : decode cX11_above 7 = .ok (.iload_n 1, 1) := by decide +kernel
theorem dX11_above_8 : decode cX11_above 8 = .ok (.invokevirtual 141, 3) := by decide +kernel
theorem dX11_above_11 : decode cX11_above 11 = .ok (.aload_n 0, 1) := by decide +kernel
theorem dX11_above_12 : decode cX11_above 12 = .ok (.iload_n 2, 1) := by decide +kernel
theorem dX11_above_13 : decode cX11_above 13 = .ok (.invokevirtual 141, 3) := by decide +kernel
theorem dX11_above_16 : decode cX11_above 16 = .ok (.if_icmp .eq 22, 3) := by decide +kernel
theorem dX11_above_19 : decode cX11_above 19 = .ok (.aload_n 0, 1) := by decide +kernel
theorem dX11_above_20 : decode cX11_above 20 = .ok (.iload_n 1, 1) := by decide +kernel
theorem dX11_above_21 : decode cX11_above 21 = .ok (.invokevirtual 141, 3) := by decide +kernel
theorem dX11_above_24 : decode cX11_above 24 = .ok (.aload_n 0, 1) := by decide +kernel
theorem dX11_above_25 : decode cX11_above 25 = .ok (.iload_n 2, 1) := by decide +kernel
theorem dX11_above_26 : decode cX11_above 26 = .ok (.invokevirtual 141, 3) := by decide +kernel
theorem dX11_above_29 : decode cX11_above 29 = .ok (.if_icmp .le 7, 3) := by decide +kernel
theorem dX11_above_32 : decode cX11_above 32 = .ok (.iconst 1, 1) := by decide +kernel
theorem dX11_above_33 : decode cX11_above 33 = .ok (.goto 4, 3) := by decide +kernel
theorem dX11_above_36 : decode cX11_above 36 = .ok (.iconst 0, 1) := by decide +kernel
theorem dX11_above_37 : decode cX11_above 37 = .ok (.ireturn, 1) := by decide +kernel
theorem dX11_above_38 : decode cX11_above 38 = .ok (.aload_n 0, 1) := by decide +kernel
theorem dX11_above_39 : decode cX11_above 39 = .ok (.getfield 25, 3) := by decide +kernel
theorem dX11_above_42 : decode cX11_above 42 = .ok (.iload_n 1, 1) := by decide +kernel
theorem dX11_above_43 : decode cX11_above 43 = .ok (.iaload, 1) := by decide +kernel
theorem dX11_above_44 : decode cX11_above 44 = .ok (.aload_n 0, 1) := by decide +kernel
theorem dX11_above_45 : decode cX11_above 45 = .ok (.getfield 25, 3) := by decide +kernel
theorem dX11_above_48 : decode cX11_above 48 = .ok (.iload_n 2, 1) := by decide +kernel
theorem dX11_above_49 : decode cX11_above 49 = .ok (.iaload, 1) := by decide +kernel
theorem dX11_above_50 : decode cX11_above 50 = .ok (.if_icmp .eq 26, 3) := by decide +kernel
theorem dX11_above_53 : decode cX11_above 53 = .ok (.aload_n 0, 1) := by decide +kernel
theorem dX11_above_54 : decode cX11_above 54 = .ok (.getfield 25, 3) := by decide +kernel
theorem dX11_above_57 : decode cX11_above 57 = .ok (.iload_n 1, 1) := by decide +kernel
theorem dX11_above_58 : decode cX11_above 58 = .ok (.iaload, 1) := by decide +kernel
theorem dX11_above_59 : decode cX11_above 59 = .ok (.aload_n 0, 1) := by decide +kernel
theorem dX11_above_60 : decode cX11_above 60 = .ok (.getfield 25, 3) := by decide +kernel
theorem dX11_above_63 : decode cX11_above 63 = .ok (.iload_n 2, 1) := by decide +kernel
theorem dX11_above_64 : decode cX11_above 64 = .ok (.iaload, 1) := by decide +kernel
theorem dX11_above_65 : decode cX11_above 65 = .ok (.if_icmp .le 7, 3) := by decide +kernel
theorem dX11_above_68 : decode cX11_above 68 = .ok (.iconst 1, 1) := by decide +kernel
theorem dX11_above_69 : decode cX11_above 69 = .ok (.goto 17, 3) := by decide +kernel
theorem dX11_above_72 : decode cX11_above 72 = .ok (.iconst 0, 1) := by decide +kernel
theorem dX11_above_73 : decode cX11_above 73 = .ok (.goto 13, 3) := by decide +kernel
theorem dX11_above_76 : decode cX11_above 76 = .ok (.iload_n 1, 1) := by decide +kernel
theorem dX11_above_77 : decode cX11_above 77 = .ok (.iload_n 2, 1) := by decide +kernel
theorem dX11_above_78 : decode cX11_above 78 = .ok (.if_icmp .le 7, 3) := by decide +kernel
theorem dX11_above_81 : decode cX11_above 81 = .ok (.iconst 1, 1) := by decide +kernel
theorem dX11_above_82 : decode cX11_above 82 = .ok (.goto 4, 3) := by decide +kernel

theorem dX0_init_0 : decode cX0_init 0 = .ok (.aload_n 0, 1) := by decide +kernel
theorem dX0_init_1 : decode cX0_init 1 = .ok (.invokespecial 3, 3) := by decide +kernel
theorem dX0_init_4 : decode cX0_init 4 = .ok (.aload_n 0, 1) := by decide +kernel
theorem dX0_init_5 : decode cX0_init 5 = .ok (.bipush 16, 2) := by decide +kernel
theorem dX0_init_7 : decode cX0_init 7 = .ok (.newarray .int, 2) := by decide +kernel
theorem dX0_init_9 : decode cX0_init 9 = .ok (.putfield 11, 3) := by decide +kernel
theorem dX0_init_12 : decode cX0_init 12 = .ok (.aload_n 0, 1) := by decide +kernel
theorem dX0_init_13 : decode cX0_init 13 = .ok (.bipush 16, 2) := by decide +kernel
theorem dX0_init_15 : decode cX0_init 15 = .ok (.newarray .boolean, 2) := by decide +kernel
theorem dX0_init_17 : decode cX0_init 17 = .ok (.putfield 15, 3) := by decide +kernel
theorem dX0_init_20 : decode cX0_init 20 = .ok (.aload_n 0, 1) := by decide +kernel
theorem dX0_init_21 : decode cX0_init 21 = .ok (.bipush 16, 2) := by decide +kernel
theorem dX0_init_23 : decode cX0_init 23 = .ok (.newarray .int, 2) := by decide +kernel
theorem dX0_init_25 : decode cX0_init 25 = .ok (.putfield 19, 3) := by decide +kernel
theorem dX0_init_28 : decode cX0_init 28 = .ok (.aload_n 0, 1) := by decide +kernel
theorem dX0_init_29 : decode cX0_init 29 = .ok (.bipush 16, 2) := by decide +kernel
theorem dX0_init_31 : decode cX0_init 31 = .ok (.newarray .int, 2) := by decide +kernel
theorem dX0_init_33 : decode cX0_init 33 = .ok (.putfield 22, 3) := by decide +kernel
theorem dX0_init_36 : decode cX0_init 36 = .ok (.aload_n 0, 1) := by decide +kernel
theorem dX0_init_37 : decode cX0_init 37 = .ok (.sipush 256, 3) := by decide +kernel
theorem dX0_init_40 : decode cX0_init 40 = .ok (.newarray .int, 2) := by decide +kernel
theorem dX0_init_42 : decode cX0_init 42 = .ok (.putfield 25, 3) := by decide +kernel
theorem dX0_init_45 : decode cX0_init 45 = .ok (.aload_n 0, 1) := by decide +kernel
theorem dX0_init_46 : decode cX0_init 46 = .ok (.bipush 40, 2) := by decide +kernel
theorem dX0_init_48 : decode cX0_init 48 = .ok (.newarray .int, 2) := by decide +kernel
theorem dX0_init_50 : decode cX0_init 50 = .ok (.putfield 30, 3) := by decide +kernel
theorem dX0_init_53 : decode cX0_init 53 = .ok (.aload_n 0, 1) := by decide +kernel
theorem dX0_init_54 : decode cX0_init 54 = .ok (.bipush 16, 2) := by decide +kernel
theorem dX0_init_56 : decode cX0_init 56 = .ok (.newarray .boolean, 2) := by decide +kernel
theorem dX0_init_58 : decode cX0_init 58 = .ok (.putfield 33, 3) := by decide +kernel
theorem dX0_init_61 : decode cX0_init 61 = .ok (.aload_n 0, 1) := by decide +kernel
theorem dX0_init_62 : decode cX0_init 62 = .ok (.bipush 16, 2) := by decide +kernel
theorem dX0_init_64 : decode cX0_init 64 = .ok (.newarray .int, 2) := by decide +kernel
theorem dX0_init_66 : decode cX0_init 66 = .ok (.putfield 36, 3) := by decide +kernel
theorem dX0_init_69 : decode cX0_init 69 = .ok (.iconst 0, 1) := by decide +kernel
theorem dX0_init_70 : decode cX0_init 70 = .ok (.istore_n 1, 1) := by decide +kernel
theorem dX0_init_71 : decode cX0_init 71 = .ok (.iload_n 1, 1) := by decide +kernel
theorem dX0_init_72 : decode cX0_init 72 = .ok (.bipush 16, 2) := by decide +kernel
theorem dX0_init_74 : decode cX0_init 74 = .ok (.if_icmp .ge 23, 3) := by decide +kernel
theorem dX0_init_77 : decode cX0_init 77 = .ok (.aload_n 0, 1) := by decide +kernel
theorem dX0_init_78 : decode cX0_init 78 = .ok (.getfield 19, 3) := by decide +kernel
theorem dX0_init_81 : decode cX0_init 81 = .ok (.iload_n 1, 1) := by decide +kernel
theorem dX0_init_82 : decode cX0_init 82 = .ok (.iconst (-1), 1) := by decide +kernel
theorem dX0_init_83 : decode cX0_init 83 = .ok (.iastore, 1) := by decide +kernel
theorem dX0_init_84 : decode cX0_init 84 = .ok (.aload_n 0, 1) := by decide +kernel
theorem dX0_init_85 : decode cX0_init 85 = .ok (.getfield 22, 3) := by decide +kernel
theorem dX0_init_88 : decode cX0_init 88 = .ok (.iload_n 1, 1) := by decide +kernel
theorem dX0_init_89 : decode cX0_init 89 = .ok (.iconst (-1), 1) := by decide +kernel
theorem dX0_init_90 : decode cX0_init 90 = .ok (.iastore, 1) := by decide +kernel
theorem dX0_init_91 : decode cX0_init 91 = .ok (.iinc 1 1, 3) := by decide +kernel
theorem dX0_init_94 : decode cX0_init 94 = .ok (.goto (-23), 3) := by decide +kernel
theorem dX0_init_97 : decode cX0_init 97 = .ok (.iconst 0, 1) := by decide +kernel
theorem dX0_init_98 : decode cX0_init 98 = .ok (.istore_n 1, 1) := by decide +kernel
theorem dX0_init_99 : decode cX0_init 99 = .ok (.iload_n 1, 1) := by decide +kernel
theorem dX0_init_100 : decode cX0_init 100 = .ok (.bipush 40, 2) := by decide +kernel
theorem dX0_init_102 : decode cX0_init 102 = .ok (.if_icmp .ge 16, 3) := by decide +kernel
theorem dX0_init_105 : decode cX0_init 105 = .ok (.aload_n 0, 1) := by decide +kernel
theorem dX0_init_106 : decode cX0_init 106 = .ok (.getfield 30, 3) := by decide +kernel
theorem dX0_init_109 : decode cX0_init 109 = .ok (.iload_n 1, 1) := by decide +kernel
theorem dX0_init_110 : decode cX0_init 110 = .ok (.iconst (-1), 1) := by decide +kernel
theorem dX0_init_111 : decode cX0_init 111 = .ok (.iastore, 1) := by decide +kernel
theorem dX0_init_112 : decode cX0_init 112 = .ok (.iinc 1 1, 3) := by decide +kernel
theorem dX0_init_115 : decode cX0_init 115 = .ok (.goto (-16), 3) := by decide +kernel
theorem dX0_init_118 : decode cX0_init 118 = .ok (.return_, 1) := by decide +kernel
theorem dX0_number_0 : decode cX0_number 0 = .ok (.aload_n 0, 1) := by decide +kernel
theorem dX0_number_1 : decode cX0_number 1 = .ok (.getfield 39, 3) := by decide +kernel
theorem dX0_number_4 : decode cX0_number 4 = .ok (.ireturn, 1) := by decide +kernel
theorem dX0_isFull_0 : decode cX0_isFull 0 = .ok (.aload_n 0, 1) := by decide +kernel
theorem dX0_isFull_1 : decode cX0_isFull 1 = .ok (.getfield 39, 3) := by decide +kernel
theorem dX0_isFull_4 : decode cX0_isFull 4 = .ok (.bipush 16, 2) := by decide +kernel
theorem dX0_isFull_6 : decode cX0_isFull 6 = .ok (.if_icmp .lt 7, 3) := by decide +kernel
theorem dX0_isFull_9 : decode cX0_isFull 9 = .ok (.iconst 1, 1) := by decide +kernel
theorem dX0_isFull_10 : decode cX0_isFull 10 = .ok (.goto 4, 3) := by decide +kernel
theorem dX0_isFull_13 : decode cX0_isFull 13 = .ok (.iconst 0, 1) := by decide +kernel
theorem dX0_isFull_14 : decode cX0_isFull 14 = .ok (.ireturn, 1) := by decide +kernel
theorem dX0_knows_0 : decode cX0_knows 0 = .ok (.iload_n 1, 1) := by decide +kernel
theorem dX0_knows_1 : decode cX0_knows 1 = .ok (.ifCond .lt 21, 3) := by decide +kernel
theorem dX0_knows_4 : decode cX0_knows 4 = .ok (.iload_n 1, 1) := by decide +kernel
theorem dX0_knows_5 : decode cX0_knows 5 = .ok (.aload_n 0, 1) := by decide +kernel
theorem dX0_knows_6 : decode cX0_knows 6 = .ok (.getfield 39, 3) := by decide +kernel
theorem dX0_knows_9 : decode cX0_knows 9 = .ok (.if_icmp .ge 13, 3) := by decide +kernel
theorem dX0_knows_12 : decode cX0_knows 12 = .ok (.iload_n 1, 1) := by decide +kernel
theorem dX0_knows_13 : decode cX0_knows 13 = .ok (.bipush 16, 2) := by decide +kernel
theorem dX0_knows_15 : decode cX0_knows 15 = .ok (.if_icmp .ge 7, 3) := by decide +kernel
theorem dX0_knows_18 : decode cX0_knows 18 = .ok (.iconst 1, 1) := by decide +kernel
theorem dX0_knows_19 : decode cX0_knows 19 = .ok (.goto 4, 3) := by decide +kernel
theorem dX0_knows_22 : decode cX0_knows 22 = .ok (.iconst 0, 1) := by decide +kernel
theorem dX0_knows_23 : decode cX0_knows 23 = .ok (.ireturn, 1) := by decide +kernel
theorem dX0_lives_0 : decode cX0_lives 0 = .ok (.aload_n 0, 1) := by decide +kernel
theorem dX0_lives_1 : decode cX0_lives 1 = .ok (.iload_n 1, 1) := by decide +kernel
theorem dX0_lives_2 : decode cX0_lives 2 = .ok (.invokevirtual 43, 3) := by decide +kernel
theorem dX0_lives_5 : decode cX0_lives 5 = .ok (.ifCond .eq 16, 3) := by decide +kernel
theorem dX0_lives_8 : decode cX0_lives 8 = .ok (.aload_n 0, 1) := by decide +kernel
theorem dX0_lives_9 : decode cX0_lives 9 = .ok (.getfield 15, 3) := by decide +kernel
theorem dX0_lives_12 : decode cX0_lives 12 = .ok (.iload_n 1, 1) := by decide +kernel
theorem dX0_lives_13 : decode cX0_lives 13 = .ok (.baload, 1) := by decide +kernel
theorem dX0_lives_14 : decode cX0_lives 14 = .ok (.ifCond .eq 7, 3) := by decide +kernel
theorem dX0_lives_17 : decode cX0_lives 17 = .ok (.iconst 1, 1) := by decide +kernel
theorem dX0_lives_18 : decode cX0_lives 18 = .ok (.goto 4, 3) := by decide +kernel
theorem dX0_lives_21 : decode cX0_lives 21 = .ok (.iconst 0, 1) := by decide +kernel
theorem dX0_lives_22 : decode cX0_lives 22 = .ok (.ireturn, 1) := by decide +kernel
theorem dX0_sits_0 : decode cX0_sits 0 = .ok (.aload_n 0, 1) := by decide +kernel
theorem dX0_sits_1 : decode cX0_sits 1 = .ok (.iload_n 1, 1) := by decide +kernel
theorem dX0_sits_2 : decode cX0_sits 2 = .ok (.invokevirtual 47, 3) := by decide +kernel
theorem dX0_sits_5 : decode cX0_sits 5 = .ok (.iconst (-1), 1) := by decide +kernel
theorem dX0_sits_6 : decode cX0_sits 6 = .ok (.if_icmp .eq 7, 3) := by decide +kernel
theorem dX0_sits_9 : decode cX0_sits 9 = .ok (.iconst 1, 1) := by decide +kernel
theorem dX0_sits_10 : decode cX0_sits 10 = .ok (.goto 4, 3) := by decide +kernel
theorem dX0_sits_13 : decode cX0_sits 13 = .ok (.iconst 0, 1) := by decide +kernel
theorem dX0_sits_14 : decode cX0_sits 14 = .ok (.ireturn, 1) := by decide +kernel
theorem dX0_seatOf_0 : decode cX0_seatOf 0 = .ok (.aload_n 0, 1) := by decide +kernel
theorem dX0_seatOf_1 : decode cX0_seatOf 1 = .ok (.iload_n 1, 1) := by decide +kernel
theorem dX0_seatOf_2 : decode cX0_seatOf 2 = .ok (.invokevirtual 43, 3) := by decide +kernel
theorem dX0_seatOf_5 : decode cX0_seatOf 5 = .ok (.ifCond .eq 12, 3) := by decide +kernel
theorem dX0_seatOf_8 : decode cX0_seatOf 8 = .ok (.aload_n 0, 1) := by decide +kernel
theorem dX0_seatOf_9 : decode cX0_seatOf 9 = .ok (.getfield 19, 3) := by decide +kernel
theorem dX0_seatOf_12 : decode cX0_seatOf 12 = .ok (.iload_n 1, 1) := by decide +kernel
theorem dX0_seatOf_13 : decode cX0_seatOf 13 = .ok (.iaload, 1) := by decide +kernel
theorem dX0_seatOf_14 : decode cX0_seatOf 14 = .ok (.goto 4, 3) := by decide +kernel
theorem dX0_seatOf_17 : decode cX0_seatOf 17 = .ok (.iconst (-1), 1) := by decide +kernel
theorem dX0_seatOf_18 : decode cX0_seatOf 18 = .ok (.ireturn, 1) := by decide +kernel
theorem dX0_landOf_0 : decode cX0_landOf 0 = .ok (.aload_n 0, 1) := by decide +kernel
theorem dX0_landOf_1 : decode cX0_landOf 1 = .ok (.iload_n 1, 1) := by decide +kernel
theorem dX0_landOf_2 : decode cX0_landOf 2 = .ok (.invokevirtual 43, 3) := by decide +kernel
theorem dX0_landOf_5 : decode cX0_landOf 5 = .ok (.ifCond .eq 12, 3) := by decide +kernel
theorem dX0_landOf_8 : decode cX0_landOf 8 = .ok (.aload_n 0, 1) := by decide +kernel
theorem dX0_landOf_9 : decode cX0_landOf 9 = .ok (.getfield 11, 3) := by decide +kernel
theorem dX0_landOf_12 : decode cX0_landOf 12 = .ok (.iload_n 1, 1) := by decide +kernel
theorem dX0_landOf_13 : decode cX0_landOf 13 = .ok (.iaload, 1) := by decide +kernel
theorem dX0_landOf_14 : decode cX0_landOf 14 = .ok (.goto 4, 3) := by decide +kernel
theorem dX0_landOf_17 : decode cX0_landOf 17 = .ok (.iconst 0, 1) := by decide +kernel
theorem dX0_landOf_18 : decode cX0_landOf 18 = .ok (.ireturn, 1) := by decide +kernel
theorem dX0_isStray_0 : decode cX0_isStray 0 = .ok (.aload_n 0, 1) := by decide +kernel
theorem dX0_isStray_1 : decode cX0_isStray 1 = .ok (.iload_n 1, 1) := by decide +kernel
theorem dX0_isStray_2 : decode cX0_isStray 2 = .ok (.invokevirtual 51, 3) := by decide +kernel
theorem dX0_isStray_5 : decode cX0_isStray 5 = .ok (.ifCond .eq 22, 3) := by decide +kernel
theorem dX0_isStray_8 : decode cX0_isStray 8 = .ok (.aload_n 0, 1) := by decide +kernel
theorem dX0_isStray_9 : decode cX0_isStray 9 = .ok (.iload_n 1, 1) := by decide +kernel
theorem dX0_isStray_10 : decode cX0_isStray 10 = .ok (.invokevirtual 47, 3) := by decide +kernel
theorem dX0_isStray_13 : decode cX0_isStray 13 = .ok (.iconst 1, 1) := by decide +kernel
theorem dX0_isStray_14 : decode cX0_isStray 14 = .ok (.iand, 1) := by decide +kernel
theorem dX0_isStray_15 : decode cX0_isStray 15 = .ok (.aload_n 0, 1) := by decide +kernel
theorem dX0_isStray_16 : decode cX0_isStray 16 = .ok (.iload_n 1, 1) := by decide +kernel
theorem dX0_isStray_17 : decode cX0_isStray 17 = .ok (.invokevirtual 54, 3) := by decide +kernel
theorem dX0_isStray_20 : decode cX0_isStray 20 = .ok (.if_icmp .eq 7, 3) := by decide +kernel
theorem dX0_isStray_23 : decode cX0_isStray 23 = .ok (.iconst 1, 1) := by decide +kernel
theorem dX0_isStray_24 : decode cX0_isStray 24 = .ok (.goto 4, 3) := by decide +kernel
theorem dX0_isStray_27 : decode cX0_isStray 27 = .ok (.iconst 0, 1) := by decide +kernel
theorem dX0_isStray_28 : decode cX0_isStray 28 = .ok (.ireturn, 1) := by decide +kernel
theorem dX0_at_0 : decode cX0_at 0 = .ok (.iload_n 1, 1) := by decide +kernel
theorem dX0_at_1 : decode cX0_at 1 = .ok (.invokestatic 57, 3) := by decide +kernel
theorem dX0_at_4 : decode cX0_at 4 = .ok (.ifCond .eq 12, 3) := by decide +kernel
theorem dX0_at_7 : decode cX0_at 7 = .ok (.aload_n 0, 1) := by decide +kernel
theorem dX0_at_8 : decode cX0_at 8 = .ok (.getfield 30, 3) := by decide +kernel
theorem dX0_at_11 : decode cX0_at 11 = .ok (.iload_n 1, 1) := by decide +kernel
theorem dX0_at_12 : decode cX0_at 12 = .ok (.iaload, 1) := by decide +kernel
theorem dX0_at_13 : decode cX0_at 13 = .ok (.goto 4, 3) := by decide +kernel
theorem dX0_at_16 : decode cX0_at 16 = .ok (.iconst (-1), 1) := by decide +kernel
theorem dX0_at_17 : decode cX0_at 17 = .ok (.ireturn, 1) := by decide +kernel
theorem dX0_add_0 : decode cX0_add 0 = .ok (.aload_n 0, 1) := by decide +kernel
theorem dX0_add_1 : decode cX0_add 1 = .ok (.invokevirtual 60, 3) := by decide +kernel
theorem dX0_add_4 : decode cX0_add 4 = .ok (.ifCond .eq 5, 3) := by decide +kernel
theorem dX0_add_7 : decode cX0_add 7 = .ok (.iconst (-1), 1) := by decide +kernel
theorem dX0_add_8 : decode cX0_add 8 = .ok (.ireturn, 1) := by decide +kernel
theorem dX0_add_9 : decode cX0_add 9 = .ok (.aload_n 0, 1) := by decide +kernel
theorem dX0_add_10 : decode cX0_add 10 = .ok (.getfield 39, 3) := by decide +kernel
theorem dX0_add_13 : decode cX0_add 13 = .ok (.istore_n 3, 1) := by decide +kernel
theorem dX0_add_14 : decode cX0_add 14 = .ok (.aload_n 0, 1) := by decide +kernel
theorem dX0_add_15 : decode cX0_add 15 = .ok (.dup, 1) := by decide +kernel
theorem dX0_add_16 : decode cX0_add 16 = .ok (.getfield 39, 3) := by decide +kernel
theorem dX0_add_19 : decode cX0_add 19 = .ok (.iconst 1, 1) := by decide +kernel
theorem dX0_add_20 : decode cX0_add 20 = .ok (.iadd, 1) := by decide +kernel
theorem dX0_add_21 : decode cX0_add 21 = .ok (.putfield 39, 3) := by decide +kernel
theorem dX0_add_24 : decode cX0_add 24 = .ok (.aload_n 0, 1) := by decide +kernel
theorem dX0_add_25 : decode cX0_add 25 = .ok (.getfield 11, 3) := by decide +kernel
theorem dX0_add_28 : decode cX0_add 28 = .ok (.iload_n 3, 1) := by decide +kernel
theorem dX0_add_29 : decode cX0_add 29 = .ok (.iload_n 1, 1) := by decide +kernel
theorem dX0_add_30 : decode cX0_add 30 = .ok (.iastore, 1) := by decide +kernel
theorem dX0_add_31 : decode cX0_add 31 = .ok (.aload_n 0, 1) := by decide +kernel
theorem dX0_add_32 : decode cX0_add 32 = .ok (.getfield 15, 3) := by decide +kernel
theorem dX0_add_35 : decode cX0_add 35 = .ok (.iload_n 3, 1) := by decide +kernel
theorem dX0_add_36 : decode cX0_add 36 = .ok (.iconst 1, 1) := by decide +kernel
theorem dX0_add_37 : decode cX0_add 37 = .ok (.bastore, 1) := by decide +kernel
theorem dX0_add_38 : decode cX0_add 38 = .ok (.aload_n 0, 1) := by decide +kernel
theorem dX0_add_39 : decode cX0_add 39 = .ok (.iload_n 3, 1) := by decide +kernel
theorem dX0_add_40 : decode cX0_add 40 = .ok (.iload_n 2, 1) := by decide +kernel
theorem dX0_add_41 : decode cX0_add 41 = .ok (.invokevirtual 64, 3) := by decide +kernel
theorem dX0_add_44 : decode cX0_add 44 = .ok (.iload_n 3, 1) := by decide +kernel
theorem dX0_add_45 : decode cX0_add 45 = .ok (.ireturn, 1) := by decide +kernel
theorem dX0_place_0 : decode cX0_place 0 = .ok (.aload_n 0, 1) := by decide +kernel
theorem dX0_place_1 : decode cX0_place 1 = .ok (.iload_n 1, 1) := by decide +kernel
theorem dX0_place_2 : decode cX0_place 2 = .ok (.invokevirtual 43, 3) := by decide +kernel
theorem dX0_place_5 : decode cX0_place 5 = .ok (.ifCond .ne 4, 3) := by decide +kernel
theorem dX0_place_8 : decode cX0_place 8 = .ok (.return_, 1) := by decide +kernel
theorem dX0_place_9 : decode cX0_place 9 = .ok (.aload_n 0, 1) := by decide +kernel
theorem dX0_place_10 : decode cX0_place 10 = .ok (.getfield 19, 3) := by decide +kernel
theorem dX0_place_13 : decode cX0_place 13 = .ok (.iload_n 1, 1) := by decide +kernel
theorem dX0_place_14 : decode cX0_place 14 = .ok (.iaload, 1) := by decide +kernel
theorem dX0_place_15 : decode cX0_place 15 = .ok (.invokestatic 57, 3) := by decide +kernel
theorem dX0_place_18 : decode cX0_place 18 = .ok (.ifCond .eq 15, 3) := by decide +kernel
theorem dX0_place_21 : decode cX0_place 21 = .ok (.aload_n 0, 1) := by decide +kernel
theorem dX0_place_22 : decode cX0_place 22 = .ok (.getfield 30, 3) := by decide +kernel
theorem dX0_place_25 : decode cX0_place 25 = .ok (.aload_n 0, 1) := by decide +kernel
theorem dX0_place_26 : decode cX0_place 26 = .ok (.getfield 19, 3) := by decide +kernel
theorem dX0_place_29 : decode cX0_place 29 = .ok (.iload_n 1, 1) := by decide +kernel
theorem dX0_place_30 : decode cX0_place 30 = .ok (.iaload, 1) := by decide +kernel
theorem dX0_place_31 : decode cX0_place 31 = .ok (.iconst (-1), 1) := by decide +kernel
theorem dX0_place_32 : decode cX0_place 32 = .ok (.iastore, 1) := by decide +kernel
theorem dX0_place_33 : decode cX0_place 33 = .ok (.aload_n 0, 1) := by decide +kernel
theorem dX0_place_34 : decode cX0_place 34 = .ok (.getfield 19, 3) := by decide +kernel
theorem dX0_place_37 : decode cX0_place 37 = .ok (.iload_n 1, 1) := by decide +kernel
theorem dX0_place_38 : decode cX0_place 38 = .ok (.iload_n 2, 1) := by decide +kernel
theorem dX0_place_39 : decode cX0_place 39 = .ok (.iastore, 1) := by decide +kernel
theorem dX0_place_40 : decode cX0_place 40 = .ok (.iload_n 2, 1) := by decide +kernel
theorem dX0_place_41 : decode cX0_place 41 = .ok (.invokestatic 57, 3) := by decide +kernel
theorem dX0_place_44 : decode cX0_place 44 = .ok (.ifCond .eq 10, 3) := by decide +kernel
theorem dX0_place_47 : decode cX0_place 47 = .ok (.aload_n 0, 1) := by decide +kernel
theorem dX0_place_48 : decode cX0_place 48 = .ok (.getfield 30, 3) := by decide +kernel
theorem dX0_place_51 : decode cX0_place 51 = .ok (.iload_n 2, 1) := by decide +kernel
theorem dX0_place_52 : decode cX0_place 52 = .ok (.iload_n 1, 1) := by decide +kernel
theorem dX0_place_53 : decode cX0_place 53 = .ok (.iastore, 1) := by decide +kernel
theorem dX0_place_54 : decode cX0_place 54 = .ok (.return_, 1) := by decide +kernel
theorem dX0_bury_0 : decode cX0_bury 0 = .ok (.aload_n 0, 1) := by decide +kernel
theorem dX0_bury_1 : decode cX0_bury 1 = .ok (.iload_n 1, 1) := by decide +kernel
theorem dX0_bury_2 : decode cX0_bury 2 = .ok (.invokevirtual 43, 3) := by decide +kernel
theorem dX0_bury_5 : decode cX0_bury 5 = .ok (.ifCond .eq 16, 3) := by decide +kernel
theorem dX0_bury_8 : decode cX0_bury 8 = .ok (.aload_n 0, 1) := by decide +kernel
theorem dX0_bury_9 : decode cX0_bury 9 = .ok (.iload_n 1, 1) := by decide +kernel
theorem dX0_bury_10 : decode cX0_bury 10 = .ok (.iconst (-1), 1) := by decide +kernel
theorem dX0_bury_11 : decode cX0_bury 11 = .ok (.invokevirtual 64, 3) := by decide +kernel
theorem dX0_bury_14 : decode cX0_bury 14 = .ok (.aload_n 0, 1) := by decide +kernel
theorem dX0_bury_15 : decode cX0_bury 15 = .ok (.getfield 15, 3) := by decide +kernel
theorem dX0_bury_18 : decode cX0_bury 18 = .ok (.iload_n 1, 1) := by decide +kernel
theorem dX0_bury_19 : decode cX0_bury 19 = .ok (.iconst 0, 1) := by decide +kernel
theorem dX0_bury_20 : decode cX0_bury 20 = .ok (.bastore, 1) := by decide +kernel
theorem dX0_bury_21 : decode cX0_bury 21 = .ok (.return_, 1) := by decide +kernel
theorem dX0_bequeath_0 : decode cX0_bequeath 0 = .ok (.aload_n 0, 1) := by decide +kernel
theorem dX0_bequeath_1 : decode cX0_bequeath 1 = .ok (.iload_n 1, 1) := by decide +kernel
theorem dX0_bequeath_2 : decode cX0_bequeath 2 = .ok (.invokevirtual 43, 3) := by decide +kernel
theorem dX0_bequeath_5 : decode cX0_bequeath 5 = .ok (.ifCond .eq 10, 3) := by decide +kernel
theorem dX0_bequeath_8 : decode cX0_bequeath 8 = .ok (.aload_n 0, 1) := by decide +kernel
theorem dX0_bequeath_9 : decode cX0_bequeath 9 = .ok (.getfield 22, 3) := by decide +kernel
theorem dX0_bequeath_12 : decode cX0_bequeath 12 = .ok (.iload_n 1, 1) := by decide +kernel
theorem dX0_bequeath_13 : decode cX0_bequeath 13 = .ok (.iload_n 2, 1) := by decide +kernel
theorem dX0_bequeath_14 : decode cX0_bequeath 14 = .ok (.iastore, 1) := by decide +kernel
theorem dX0_bequeath_15 : decode cX0_bequeath 15 = .ok (.return_, 1) := by decide +kernel
theorem dX0_heirOf_0 : decode cX0_heirOf 0 = .ok (.aload_n 0, 1) := by decide +kernel
theorem dX0_heirOf_1 : decode cX0_heirOf 1 = .ok (.iload_n 1, 1) := by decide +kernel
theorem dX0_heirOf_2 : decode cX0_heirOf 2 = .ok (.invokevirtual 43, 3) := by decide +kernel
theorem dX0_heirOf_5 : decode cX0_heirOf 5 = .ok (.ifCond .eq 12, 3) := by decide +kernel
theorem dX0_heirOf_8 : decode cX0_heirOf 8 = .ok (.aload_n 0, 1) := by decide +kernel
theorem dX0_heirOf_9 : decode cX0_heirOf 9 = .ok (.getfield 22, 3) := by decide +kernel
theorem dX0_heirOf_12 : decode cX0_heirOf 12 = .ok (.iload_n 1, 1) := by decide +kernel
theorem dX0_heirOf_13 : decode cX0_heirOf 13 = .ok (.iaload, 1) := by decide +kernel
theorem dX0_heirOf_14 : decode cX0_heirOf 14 = .ok (.goto 4, 3) := by decide +kernel
theorem dX0_heirOf_17 : decode cX0_heirOf 17 = .ok (.iconst (-1), 1) := by decide +kernel
theorem dX0_heirOf_18 : decode cX0_heirOf 18 = .ok (.ireturn, 1) := by decide +kernel
theorem dX0_like_0 : decode cX0_like 0 = .ok (.aload_n 0, 1) := by decide +kernel
theorem dX0_like_1 : decode cX0_like 1 = .ok (.iload_n 1, 1) := by decide +kernel
theorem dX0_like_2 : decode cX0_like 2 = .ok (.invokevirtual 43, 3) := by decide +kernel
theorem dX0_like_5 : decode cX0_like 5 = .ok (.ifCond .eq 23, 3) := by decide +kernel
theorem dX0_like_8 : decode cX0_like 8 = .ok (.aload_n 0, 1) := by decide +kernel
theorem dX0_like_9 : decode cX0_like 9 = .ok (.iload_n 2, 1) := by decide +kernel
theorem dX0_like_10 : decode cX0_like 10 = .ok (.invokevirtual 43, 3) := by decide +kernel
theorem dX0_like_13 : decode cX0_like 13 = .ok (.ifCond .eq 15, 3) := by decide +kernel
theorem dX0_like_16 : decode cX0_like 16 = .ok (.aload_n 0, 1) := by decide +kernel
theorem dX0_like_17 : decode cX0_like 17 = .ok (.getfield 25, 3) := by decide +kernel
theorem dX0_like_20 : decode cX0_like 20 = .ok (.iload_n 1, 1) := by decide +kernel
theorem dX0_like_21 : decode cX0_like 21 = .ok (.bipush 16, 2) := by decide +kernel
theorem dX0_like_23 : decode cX0_like 23 = .ok (.imul, 1) := by decide +kernel
theorem dX0_like_24 : decode cX0_like 24 = .ok (.iload_n 2, 1) := by decide +kernel
theorem dX0_like_25 : decode cX0_like 25 = .ok (.iadd, 1) := by decide +kernel
theorem dX0_like_26 : decode cX0_like 26 = .ok (.iload_n 3, 1) := by decide +kernel
theorem dX0_like_27 : decode cX0_like 27 = .ok (.iastore, 1) := by decide +kernel
theorem dX0_like_28 : decode cX0_like 28 = .ok (.return_, 1) := by decide +kernel
theorem dX0_likingOf_0 : decode cX0_likingOf 0 = .ok (.aload_n 0, 1) := by decide +kernel
theorem dX0_likingOf_1 : decode cX0_likingOf 1 = .ok (.iload_n 1, 1) := by decide +kernel
theorem dX0_likingOf_2 : decode cX0_likingOf 2 = .ok (.invokevirtual 43, 3) := by decide +kernel
theorem dX0_likingOf_5 : decode cX0_likingOf 5 = .ok (.ifCond .eq 25, 3) := by decide +kernel
theorem dX0_likingOf_8 : decode cX0_likingOf 8 = .ok (.aload_n 0, 1) := by decide +kernel
theorem dX0_likingOf_9 : decode cX0_likingOf 9 = .ok (.iload_n 2, 1) := by decide +kernel
theorem dX0_likingOf_10 : decode cX0_likingOf 10 = .ok (.invokevirtual 43, 3) := by decide +kernel
theorem dX0_likingOf_13 : decode cX0_likingOf 13 = .ok (.ifCond .eq 17, 3) := by decide +kernel
theorem dX0_likingOf_16 : decode cX0_likingOf 16 = .ok (.aload_n 0, 1) := by decide +kernel
theorem dX0_likingOf_17 : decode cX0_likingOf 17 = .ok (.getfield 25, 3) := by decide +kernel
theorem dX0_likingOf_20 : decode cX0_likingOf 20 = .ok (.iload_n 1, 1) := by decide +kernel
theorem dX0_likingOf_21 : decode cX0_likingOf 21 = .ok (.bipush 16, 2) := by decide +kernel
theorem dX0_likingOf_23 : decode cX0_likingOf 23 = .ok (.imul, 1) := by decide +kernel
theorem dX0_likingOf_24 : decode cX0_likingOf 24 = .ok (.iload_n 2, 1) := by decide +kernel
theorem dX0_likingOf_25 : decode cX0_likingOf 25 = .ok (.iadd, 1) := by decide +kernel
theorem dX0_likingOf_26 : decode cX0_likingOf 26 = .ok (.iaload, 1) := by decide +kernel
theorem dX0_likingOf_27 : decode cX0_likingOf 27 = .ok (.goto 4, 3) := by decide +kernel
theorem dX0_likingOf_30 : decode cX0_likingOf 30 = .ok (.iconst 0, 1) := by decide +kernel
theorem dX0_likingOf_31 : decode cX0_likingOf 31 = .ok (.ireturn, 1) := by decide +kernel
theorem dX0_store_0 : decode cX0_store 0 = .ok (.aload_n 0, 1) := by decide +kernel
theorem dX0_store_1 : decode cX0_store 1 = .ok (.getfield 19, 3) := by decide +kernel
theorem dX0_store_4 : decode cX0_store 4 = .ok (.iconst 0, 1) := by decide +kernel
theorem dX0_store_5 : decode cX0_store 5 = .ok (.aload_n 0, 1) := by decide +kernel
theorem dX0_store_6 : decode cX0_store 6 = .ok (.getfield 36, 3) := by decide +kernel
theorem dX0_store_9 : decode cX0_store 9 = .ok (.iconst 0, 1) := by decide +kernel
theorem dX0_store_10 : decode cX0_store 10 = .ok (.bipush 16, 2) := by decide +kernel
theorem dX0_store_12 : decode cX0_store 12 = .ok (.invokestatic 71, 3) := by decide +kernel
theorem dX0_store_15 : decode cX0_store 15 = .ok (.iconst 0, 1) := by decide +kernel
theorem dX0_store_16 : decode cX0_store 16 = .ok (.istore_n 1, 1) := by decide +kernel
theorem dX0_store_17 : decode cX0_store 17 = .ok (.iload_n 1, 1) := by decide +kernel
theorem dX0_store_18 : decode cX0_store 18 = .ok (.bipush 16, 2) := by decide +kernel
theorem dX0_store_20 : decode cX0_store 20 = .ok (.if_icmp .ge 21, 3) := by decide +kernel
theorem dX0_store_23 : decode cX0_store 23 = .ok (.aload_n 0, 1) := by decide +kernel
theorem dX0_store_24 : decode cX0_store 24 = .ok (.getfield 33, 3) := by decide +kernel
theorem dX0_store_27 : decode cX0_store 27 = .ok (.iload_n 1, 1) := by decide +kernel
theorem dX0_store_28 : decode cX0_store 28 = .ok (.aload_n 0, 1) := by decide +kernel
theorem dX0_store_29 : decode cX0_store 29 = .ok (.getfield 15, 3) := by decide +kernel
theorem dX0_store_32 : decode cX0_store 32 = .ok (.iload_n 1, 1) := by decide +kernel
theorem dX0_store_33 : decode cX0_store 33 = .ok (.baload, 1) := by decide +kernel
theorem dX0_store_34 : decode cX0_store 34 = .ok (.bastore, 1) := by decide +kernel
theorem dX0_store_35 : decode cX0_store 35 = .ok (.iinc 1 1, 3) := by decide +kernel
theorem dX0_store_38 : decode cX0_store 38 = .ok (.goto (-21), 3) := by decide +kernel
theorem dX0_store_41 : decode cX0_store 41 = .ok (.return_, 1) := by decide +kernel
theorem dX0_restore_0 : decode cX0_restore 0 = .ok (.iconst 0, 1) := by decide +kernel
theorem dX0_restore_1 : decode cX0_restore 1 = .ok (.istore_n 1, 1) := by decide +kernel
theorem dX0_restore_2 : decode cX0_restore 2 = .ok (.iload_n 1, 1) := by decide +kernel
theorem dX0_restore_3 : decode cX0_restore 3 = .ok (.aload_n 0, 1) := by decide +kernel
theorem dX0_restore_4 : decode cX0_restore 4 = .ok (.getfield 39, 3) := by decide +kernel
theorem dX0_restore_7 : decode cX0_restore 7 = .ok (.if_icmp .ge 15, 3) := by decide +kernel
theorem dX0_restore_10 : decode cX0_restore 10 = .ok (.aload_n 0, 1) := by decide +kernel
theorem dX0_restore_11 : decode cX0_restore 11 = .ok (.iload_n 1, 1) := by decide +kernel
theorem dX0_restore_12 : decode cX0_restore 12 = .ok (.iconst (-1), 1) := by decide +kernel
theorem dX0_restore_13 : decode cX0_restore 13 = .ok (.invokevirtual 64, 3) := by decide +kernel
theorem dX0_restore_16 : decode cX0_restore 16 = .ok (.iinc 1 1, 3) := by decide +kernel
theorem dX0_restore_19 : decode cX0_restore 19 = .ok (.goto (-17), 3) := by decide +kernel
theorem dX0_restore_22 : decode cX0_restore 22 = .ok (.iconst 0, 1) := by decide +kernel
theorem dX0_restore_23 : decode cX0_restore 23 = .ok (.istore_n 1, 1) := by decide +kernel
theorem dX0_restore_24 : decode cX0_restore 24 = .ok (.iload_n 1, 1) := by decide +kernel
theorem dX0_restore_25 : decode cX0_restore 25 = .ok (.aload_n 0, 1) := by decide +kernel
theorem dX0_restore_26 : decode cX0_restore 26 = .ok (.getfield 39, 3) := by decide +kernel
theorem dX0_restore_29 : decode cX0_restore 29 = .ok (.if_icmp .ge 38, 3) := by decide +kernel
theorem dX0_restore_32 : decode cX0_restore 32 = .ok (.iload_n 1, 1) := by decide +kernel
theorem dX0_restore_33 : decode cX0_restore 33 = .ok (.bipush 16, 2) := by decide +kernel
theorem dX0_restore_35 : decode cX0_restore 35 = .ok (.if_icmp .ge 32, 3) := by decide +kernel
theorem dX0_restore_38 : decode cX0_restore 38 = .ok (.aload_n 0, 1) := by decide +kernel
theorem dX0_restore_39 : decode cX0_restore 39 = .ok (.getfield 15, 3) := by decide +kernel
theorem dX0_restore_42 : decode cX0_restore 42 = .ok (.iload_n 1, 1) := by decide +kernel
theorem dX0_restore_43 : decode cX0_restore 43 = .ok (.aload_n 0, 1) := by decide +kernel
theorem dX0_restore_44 : decode cX0_restore 44 = .ok (.getfield 33, 3) := by decide +kernel
theorem dX0_restore_47 : decode cX0_restore 47 = .ok (.iload_n 1, 1) := by decide +kernel
theorem dX0_restore_48 : decode cX0_restore 48 = .ok (.baload, 1) := by decide +kernel
theorem dX0_restore_49 : decode cX0_restore 49 = .ok (.bastore, 1) := by decide +kernel
theorem dX0_restore_50 : decode cX0_restore 50 = .ok (.aload_n 0, 1) := by decide +kernel
theorem dX0_restore_51 : decode cX0_restore 51 = .ok (.iload_n 1, 1) := by decide +kernel
theorem dX0_restore_52 : decode cX0_restore 52 = .ok (.aload_n 0, 1) := by decide +kernel
theorem dX0_restore_53 : decode cX0_restore 53 = .ok (.getfield 36, 3) := by decide +kernel
theorem dX0_restore_56 : decode cX0_restore 56 = .ok (.iload_n 1, 1) := by decide +kernel
theorem dX0_restore_57 : decode cX0_restore 57 = .ok (.iaload, 1) := by decide +kernel
theorem dX0_restore_58 : decode cX0_restore 58 = .ok (.invokevirtual 64, 3) := by decide +kernel
theorem dX0_restore_61 : decode cX0_restore 61 = .ok (.iinc 1 1, 3) := by decide +kernel
theorem dX0_restore_64 : decode cX0_restore 64 = .ok (.goto (-40), 3) := by decide +kernel
theorem dX0_restore_67 : decode cX0_restore 67 = .ok (.return_, 1) := by decide +kernel
theorem dX1_init_0 : decode cX1_init 0 = .ok (.aload_n 0, 1) := by decide +kernel
theorem dX1_init_1 : decode cX1_init 1 = .ok (.invokespecial 7, 3) := by decide +kernel
theorem dX1_init_4 : decode cX1_init 4 = .ok (.aload_n 0, 1) := by decide +kernel
theorem dX1_init_5 : decode cX1_init 5 = .ok (.bipush 10, 2) := by decide +kernel
theorem dX1_init_7 : decode cX1_init 7 = .ok (.newarray .int, 2) := by decide +kernel
theorem dX1_init_9 : decode cX1_init 9 = .ok (.putfield 13, 3) := by decide +kernel
theorem dX1_init_12 : decode cX1_init 12 = .ok (.aload_n 0, 1) := by decide +kernel
theorem dX1_init_13 : decode cX1_init 13 = .ok (.ldc 19, 2) := by decide +kernel
theorem dX1_init_15 : decode cX1_init 15 = .ok (.newarray .int, 2) := by decide +kernel
theorem dX1_init_17 : decode cX1_init 17 = .ok (.putfield 20, 3) := by decide +kernel
theorem dX1_init_20 : decode cX1_init 20 = .ok (.aload_n 0, 1) := by decide +kernel
theorem dX1_init_21 : decode cX1_init 21 = .ok (.sipush 640, 3) := by decide +kernel
theorem dX1_init_24 : decode cX1_init 24 = .ok (.newarray .int, 2) := by decide +kernel
theorem dX1_init_26 : decode cX1_init 26 = .ok (.putfield 23, 3) := by decide +kernel
theorem dX1_init_29 : decode cX1_init 29 = .ok (.aload_n 0, 1) := by decide +kernel
theorem dX1_init_30 : decode cX1_init 30 = .ok (.new 26, 3) := by decide +kernel
theorem dX1_init_33 : decode cX1_init 33 = .ok (.dup, 1) := by decide +kernel
theorem dX1_init_34 : decode cX1_init 34 = .ok (.invokespecial 28, 3) := by decide +kernel
theorem dX1_init_37 : decode cX1_init 37 = .ok (.putfield 29, 3) := by decide +kernel
theorem dX1_init_40 : decode cX1_init 40 = .ok (.aload_n 0, 1) := by decide +kernel
theorem dX1_init_41 : decode cX1_init 41 = .ok (.iconst 1, 1) := by decide +kernel
theorem dX1_init_42 : decode cX1_init 42 = .ok (.putfield 33, 3) := by decide +kernel
theorem dX1_init_45 : decode cX1_init 45 = .ok (.aload_n 0, 1) := by decide +kernel
theorem dX1_init_46 : decode cX1_init 46 = .ok (.aload_n 1, 1) := by decide +kernel
theorem dX1_init_47 : decode cX1_init 47 = .ok (.putfield 37, 3) := by decide +kernel
theorem dX1_init_50 : decode cX1_init 50 = .ok (.return_, 1) := by decide +kernel
theorem dX1_letterPlace_0 : decode cX1_letterPlace 0 = .ok (.iload_n 0, 1) := by decide +kernel
theorem dX1_letterPlace_1 : decode cX1_letterPlace 1 = .ok (.tableswitch 119 97 116 #[99, 101, 119, 113, 119, 95, 97, 119, 119, 119, 119, 107, 110, 119, 116, 119, 119, 119, 103, 105], 95) := by decide +kernel
theorem dX1_letterPlace_96 : decode cX1_letterPlace 96 = .ok (.iconst 0, 1) := by decide +kernel
theorem dX1_letterPlace_97 : decode cX1_letterPlace 97 = .ok (.ireturn, 1) := by decide +kernel
theorem dX1_letterPlace_98 : decode cX1_letterPlace 98 = .ok (.iconst 1, 1) := by decide +kernel
theorem dX1_letterPlace_99 : decode cX1_letterPlace 99 = .ok (.ireturn, 1) := by decide +kernel
theorem dX1_letterPlace_100 : decode cX1_letterPlace 100 = .ok (.iconst 2, 1) := by decide +kernel
theorem dX1_letterPlace_101 : decode cX1_letterPlace 101 = .ok (.ireturn, 1) := by decide +kernel
theorem dX1_letterPlace_102 : decode cX1_letterPlace 102 = .ok (.iconst 3, 1) := by decide +kernel
theorem dX1_letterPlace_103 : decode cX1_letterPlace 103 = .ok (.ireturn, 1) := by decide +kernel
theorem dX1_letterPlace_104 : decode cX1_letterPlace 104 = .ok (.iconst 4, 1) := by decide +kernel
theorem dX1_letterPlace_105 : decode cX1_letterPlace 105 = .ok (.ireturn, 1) := by decide +kernel
theorem dX1_letterPlace_106 : decode cX1_letterPlace 106 = .ok (.iconst 5, 1) := by decide +kernel
theorem dX1_letterPlace_107 : decode cX1_letterPlace 107 = .ok (.ireturn, 1) := by decide +kernel
theorem dX1_letterPlace_108 : decode cX1_letterPlace 108 = .ok (.bipush 6, 2) := by decide +kernel
theorem dX1_letterPlace_110 : decode cX1_letterPlace 110 = .ok (.ireturn, 1) := by decide +kernel
theorem dX1_letterPlace_111 : decode cX1_letterPlace 111 = .ok (.bipush 7, 2) := by decide +kernel
theorem dX1_letterPlace_113 : decode cX1_letterPlace 113 = .ok (.ireturn, 1) := by decide +kernel
theorem dX1_letterPlace_114 : decode cX1_letterPlace 114 = .ok (.bipush 8, 2) := by decide +kernel
theorem dX1_letterPlace_116 : decode cX1_letterPlace 116 = .ok (.ireturn, 1) := by decide +kernel
theorem dX1_letterPlace_117 : decode cX1_letterPlace 117 = .ok (.bipush 9, 2) := by decide +kernel
theorem dX1_letterPlace_119 : decode cX1_letterPlace 119 = .ok (.ireturn, 1) := by decide +kernel
theorem dX1_letterPlace_120 : decode cX1_letterPlace 120 = .ok (.iconst (-1), 1) := by decide +kernel
theorem dX1_letterPlace_121 : decode cX1_letterPlace 121 = .ok (.ireturn, 1) := by decide +kernel
theorem dX1_inForce_0 : decode cX1_inForce 0 = .ok (.aload_n 0, 1) := by decide +kernel
theorem dX1_inForce_1 : decode cX1_inForce 1 = .ok (.getfield 29, 3) := by decide +kernel
theorem dX1_inForce_4 : decode cX1_inForce 4 = .ok (.areturn, 1) := by decide +kernel
theorem dX1_take_0 : decode cX1_take 0 = .ok (.aload_n 0, 1) := by decide +kernel
theorem dX1_take_1 : decode cX1_take 1 = .ok (.aload_n 1, 1) := by decide +kernel
theorem dX1_take_2 : decode cX1_take 2 = .ok (.putfield 29, 3) := by decide +kernel
theorem dX1_take_5 : decode cX1_take 5 = .ok (.aload_n 0, 1) := by decide +kernel
theorem dX1_take_6 : decode cX1_take 6 = .ok (.invokevirtual 41, 3) := by decide +kernel
theorem dX1_take_9 : decode cX1_take 9 = .ok (.return_, 1) := by decide +kernel
theorem dX1_forget_0 : decode cX1_forget 0 = .ok (.aload_n 0, 1) := by decide +kernel
theorem dX1_forget_1 : decode cX1_forget 1 = .ok (.dup, 1) := by decide +kernel
theorem dX1_forget_2 : decode cX1_forget 2 = .ok (.getfield 33, 3) := by decide +kernel
theorem dX1_forget_5 : decode cX1_forget 5 = .ok (.iconst 1, 1) := by decide +kernel
theorem dX1_forget_6 : decode cX1_forget 6 = .ok (.iadd, 1) := by decide +kernel
theorem dX1_forget_7 : decode cX1_forget 7 = .ok (.putfield 33, 3) := by decide +kernel
theorem dX1_forget_10 : decode cX1_forget 10 = .ok (.return_, 1) := by decide +kernel
theorem dX1_allows_0 : decode cX1_allows 0 = .ok (.aload_n 0, 1) := by decide +kernel
theorem dX1_allows_1 : decode cX1_allows 1 = .ok (.iload_n 1, 1) := by decide +kernel
theorem dX1_allows_2 : decode cX1_allows 2 = .ok (.aload_n 0, 1) := by decide +kernel
theorem dX1_allows_3 : decode cX1_allows 3 = .ok (.getfield 37, 3) := by decide +kernel
theorem dX1_allows_6 : decode cX1_allows 6 = .ok (.iload_n 1, 1) := by decide +kernel
theorem dX1_allows_7 : decode cX1_allows 7 = .ok (.invokevirtual 44, 3) := by decide +kernel
theorem dX1_allows_10 : decode cX1_allows 10 = .ok (.iload_n 2, 1) := by decide +kernel
theorem dX1_allows_11 : decode cX1_allows 11 = .ok (.aload_n 0, 1) := by decide +kernel
theorem dX1_allows_12 : decode cX1_allows 12 = .ok (.getfield 37, 3) := by decide +kernel
theorem dX1_allows_15 : decode cX1_allows 15 = .ok (.iload_n 2, 1) := by decide +kernel
theorem dX1_allows_16 : decode cX1_allows 16 = .ok (.invokevirtual 44, 3) := by decide +kernel
theorem dX1_allows_19 : decode cX1_allows 19 = .ok (.invokevirtual 48, 3) := by decide +kernel
theorem dX1_allows_22 : decode cX1_allows 22 = .ok (.aload_n 0, 1) := by decide +kernel
theorem dX1_allows_23 : decode cX1_allows 23 = .ok (.getfield 29, 3) := by decide +kernel
theorem dX1_allows_26 : decode cX1_allows 26 = .ok (.aload_n 0, 1) := by decide +kernel
theorem dX1_allows_27 : decode cX1_allows 27 = .ok (.getfield 13, 3) := by decide +kernel
theorem dX1_allows_30 : decode cX1_allows 30 = .ok (.invokevirtual 52, 3) := by decide +kernel
theorem dX1_allows_33 : decode cX1_allows 33 = .ok (.ireturn, 1) := by decide +kernel
theorem dX1_seen_0 : decode cX1_seen 0 = .ok (.aload_n 0, 1) := by decide +kernel
theorem dX1_seen_1 : decode cX1_seen 1 = .ok (.iload_n 1, 1) := by decide +kernel
theorem dX1_seen_2 : decode cX1_seen 2 = .ok (.aload_n 0, 1) := by decide +kernel
theorem dX1_seen_3 : decode cX1_seen 3 = .ok (.getfield 37, 3) := by decide +kernel
theorem dX1_seen_6 : decode cX1_seen 6 = .ok (.iload_n 1, 1) := by decide +kernel
theorem dX1_seen_7 : decode cX1_seen 7 = .ok (.invokevirtual 44, 3) := by decide +kernel
theorem dX1_seen_10 : decode cX1_seen 10 = .ok (.iload_n 2, 1) := by decide +kernel
theorem dX1_seen_11 : decode cX1_seen 11 = .ok (.aload_n 0, 1) := by decide +kernel
theorem dX1_seen_12 : decode cX1_seen 12 = .ok (.getfield 37, 3) := by decide +kernel
theorem dX1_seen_15 : decode cX1_seen 15 = .ok (.iload_n 2, 1) := by decide +kernel
theorem dX1_seen_16 : decode cX1_seen 16 = .ok (.invokevirtual 44, 3) := by decide +kernel
theorem dX1_seen_19 : decode cX1_seen 19 = .ok (.invokevirtual 48, 3) := by decide +kernel
theorem dX1_seen_22 : decode cX1_seen 22 = .ok (.aload_n 0, 1) := by decide +kernel
theorem dX1_seen_23 : decode cX1_seen 23 = .ok (.getfield 29, 3) := by decide +kernel
theorem dX1_seen_26 : decode cX1_seen 26 = .ok (.bipush 118, 2) := by decide +kernel
theorem dX1_seen_28 : decode cX1_seen 28 = .ok (.aload_n 0, 1) := by decide +kernel
theorem dX1_seen_29 : decode cX1_seen 29 = .ok (.getfield 13, 3) := by decide +kernel
theorem dX1_seen_32 : decode cX1_seen 32 = .ok (.iconst 0, 1) := by decide +kernel
theorem dX1_seen_33 : decode cX1_seen 33 = .ok (.sipush 1000, 3) := by decide +kernel
theorem dX1_seen_36 : decode cX1_seen 36 = .ok (.invokevirtual 56, 3) := by decide +kernel
theorem dX1_seen_39 : decode cX1_seen 39 = .ok (.ireturn, 1) := by decide +kernel
theorem dX1_harm_0 : decode cX1_harm 0 = .ok (.iload_n 1, 1) := by decide +kernel
theorem dX1_harm_1 : decode cX1_harm 1 = .ok (.iload_n 2, 1) := by decide +kernel
theorem dX1_harm_2 : decode cX1_harm 2 = .ok (.invokestatic 60, 3) := by decide +kernel
theorem dX1_harm_5 : decode cX1_harm 5 = .ok (.istore_n 3, 1) := by decide +kernel
theorem dX1_harm_6 : decode cX1_harm 6 = .ok (.iload_n 1, 1) := by decide +kernel
theorem dX1_harm_7 : decode cX1_harm 7 = .ok (.iload_n 2, 1) := by decide +kernel
theorem dX1_harm_8 : decode cX1_harm 8 = .ok (.invokestatic 66, 3) := by decide +kernel
theorem dX1_harm_11 : decode cX1_harm 11 = .ok (.istore 4, 2) := by decide +kernel
theorem dX1_harm_13 : decode cX1_harm 13 = .ok (.aload_n 0, 1) := by decide +kernel
theorem dX1_harm_14 : decode cX1_harm 14 = .ok (.iload_n 3, 1) := by decide +kernel
theorem dX1_harm_15 : decode cX1_harm 15 = .ok (.aload_n 0, 1) := by decide +kernel
theorem dX1_harm_16 : decode cX1_harm 16 = .ok (.getfield 37, 3) := by decide +kernel
theorem dX1_harm_19 : decode cX1_harm 19 = .ok (.iload_n 3, 1) := by decide +kernel
theorem dX1_harm_20 : decode cX1_harm 20 = .ok (.invokevirtual 44, 3) := by decide +kernel
theorem dX1_harm_23 : decode cX1_harm 23 = .ok (.iload 4, 2) := by decide +kernel
theorem dX1_harm_25 : decode cX1_harm 25 = .ok (.aload_n 0, 1) := by decide +kernel
theorem dX1_harm_26 : decode cX1_harm 26 = .ok (.getfield 37, 3) := by decide +kernel
theorem dX1_harm_29 : decode cX1_harm 29 = .ok (.iload 4, 2) := by decide +kernel
theorem dX1_harm_31 : decode cX1_harm 31 = .ok (.invokevirtual 44, 3) := by decide +kernel
theorem dX1_harm_34 : decode cX1_harm 34 = .ok (.invokevirtual 48, 3) := by decide +kernel
theorem dX1_harm_37 : decode cX1_harm 37 = .ok (.aload_n 0, 1) := by decide +kernel
theorem dX1_harm_38 : decode cX1_harm 38 = .ok (.getfield 29, 3) := by decide +kernel
theorem dX1_harm_41 : decode cX1_harm 41 = .ok (.bipush 104, 2) := by decide +kernel
theorem dX1_harm_43 : decode cX1_harm 43 = .ok (.aload_n 0, 1) := by decide +kernel
theorem dX1_harm_44 : decode cX1_harm 44 = .ok (.getfield 13, 3) := by decide +kernel
theorem dX1_harm_47 : decode cX1_harm 47 = .ok (.iconst 0, 1) := by decide +kernel
theorem dX1_harm_48 : decode cX1_harm 48 = .ok (.bipush 99, 2) := by decide +kernel
theorem dX1_harm_50 : decode cX1_harm 50 = .ok (.invokevirtual 56, 3) := by decide +kernel
theorem dX1_harm_53 : decode cX1_harm 53 = .ok (.ireturn, 1) := by decide +kernel
theorem dX1_quarrel_0 : decode cX1_quarrel 0 = .ok (.iload_n 1, 1) := by decide +kernel
theorem dX1_quarrel_1 : decode cX1_quarrel 1 = .ok (.iload_n 3, 1) := by decide +kernel
theorem dX1_quarrel_2 : decode cX1_quarrel 2 = .ok (.if_icmp .eq 13, 3) := by decide +kernel
theorem dX1_quarrel_5 : decode cX1_quarrel 5 = .ok (.iload_n 2, 1) := by decide +kernel
theorem dX1_quarrel_6 : decode cX1_quarrel 6 = .ok (.iload 4, 2) := by decide +kernel
theorem dX1_quarrel_8 : decode cX1_quarrel 8 = .ok (.invokestatic 69, 3) := by decide +kernel
theorem dX1_quarrel_11 : decode cX1_quarrel 11 = .ok (.iconst 2, 1) := by decide +kernel
theorem dX1_quarrel_12 : decode cX1_quarrel 12 = .ok (.if_icmp .le 5, 3) := by decide +kernel
theorem dX1_quarrel_15 : decode cX1_quarrel 15 = .ok (.iconst 0, 1) := by decide +kernel
theorem dX1_quarrel_16 : decode cX1_quarrel 16 = .ok (.ireturn, 1) := by decide +kernel
theorem dX1_quarrel_17 : decode cX1_quarrel 17 = .ok (.iload_n 1, 1) := by decide +kernel
theorem dX1_quarrel_18 : decode cX1_quarrel 18 = .ok (.iload_n 3, 1) := by decide +kernel
theorem dX1_quarrel_19 : decode cX1_quarrel 19 = .ok (.invokestatic 60, 3) := by decide +kernel
theorem dX1_quarrel_22 : decode cX1_quarrel 22 = .ok (.istore 5, 2) := by decide +kernel
theorem dX1_quarrel_24 : decode cX1_quarrel 24 = .ok (.iload_n 1, 1) := by decide +kernel
theorem dX1_quarrel_25 : decode cX1_quarrel 25 = .ok (.iload_n 3, 1) := by decide +kernel
theorem dX1_quarrel_26 : decode cX1_quarrel 26 = .ok (.invokestatic 66, 3) := by decide +kernel
theorem dX1_quarrel_29 : decode cX1_quarrel 29 = .ok (.istore 6, 2) := by decide +kernel
theorem dX1_quarrel_31 : decode cX1_quarrel 31 = .ok (.iload 5, 2) := by decide +kernel
theorem dX1_quarrel_33 : decode cX1_quarrel 33 = .ok (.iload_n 1, 1) := by decide +kernel
theorem dX1_quarrel_34 : decode cX1_quarrel 34 = .ok (.if_icmp .ne 7, 3) := by decide +kernel
theorem dX1_quarrel_37 : decode cX1_quarrel 37 = .ok (.iload_n 2, 1) := by decide +kernel
theorem dX1_quarrel_38 : decode cX1_quarrel 38 = .ok (.goto 5, 3) := by decide +kernel
theorem dX1_quarrel_41 : decode cX1_quarrel 41 = .ok (.iload 4, 2) := by decide +kernel
theorem dX1_quarrel_43 : decode cX1_quarrel 43 = .ok (.istore 7, 2) := by decide +kernel
theorem dX1_quarrel_45 : decode cX1_quarrel 45 = .ok (.iload 5, 2) := by decide +kernel
theorem dX1_quarrel_47 : decode cX1_quarrel 47 = .ok (.iload_n 1, 1) := by decide +kernel
theorem dX1_quarrel_48 : decode cX1_quarrel 48 = .ok (.if_icmp .ne 8, 3) := by decide +kernel
theorem dX1_quarrel_51 : decode cX1_quarrel 51 = .ok (.iload 4, 2) := by decide +kernel
theorem dX1_quarrel_53 : decode cX1_quarrel 53 = .ok (.goto 4, 3) := by decide +kernel
theorem dX1_quarrel_56 : decode cX1_quarrel 56 = .ok (.iload_n 2, 1) := by decide +kernel
theorem dX1_quarrel_57 : decode cX1_quarrel 57 = .ok (.istore 8, 2) := by decide +kernel
theorem dX1_quarrel_59 : decode cX1_quarrel 59 = .ok (.iconst 2, 1) := by decide +kernel
theorem dX1_quarrel_60 : decode cX1_quarrel 60 = .ok (.iload 8, 2) := by decide +kernel
theorem dX1_quarrel_62 : decode cX1_quarrel 62 = .ok (.iconst 1, 1) := by decide +kernel
theorem dX1_quarrel_63 : decode cX1_quarrel 63 = .ok (.ishr, 1) := by decide +kernel
theorem dX1_quarrel_64 : decode cX1_quarrel 64 = .ok (.iload 7, 2) := by decide +kernel
theorem dX1_quarrel_66 : decode cX1_quarrel 66 = .ok (.iconst 1, 1) := by decide +kernel
theorem dX1_quarrel_67 : decode cX1_quarrel 67 = .ok (.ishr, 1) := by decide +kernel
theorem dX1_quarrel_68 : decode cX1_quarrel 68 = .ok (.isub, 1) := by decide +kernel
theorem dX1_quarrel_69 : decode cX1_quarrel 69 = .ok (.iconst 2, 1) := by decide +kernel
theorem dX1_quarrel_70 : decode cX1_quarrel 70 = .ok (.iadd, 1) := by decide +kernel
theorem dX1_quarrel_71 : decode cX1_quarrel 71 = .ok (.imul, 1) := by decide +kernel
theorem dX1_quarrel_72 : decode cX1_quarrel 72 = .ok (.iload 8, 2) := by decide +kernel
theorem dX1_quarrel_74 : decode cX1_quarrel 74 = .ok (.iconst 1, 1) := by decide +kernel
theorem dX1_quarrel_75 : decode cX1_quarrel 75 = .ok (.iand, 1) := by decide +kernel
theorem dX1_quarrel_76 : decode cX1_quarrel 76 = .ok (.iadd, 1) := by decide +kernel
theorem dX1_quarrel_77 : decode cX1_quarrel 77 = .ok (.istore 9, 2) := by decide +kernel
theorem dX1_quarrel_79 : decode cX1_quarrel 79 = .ok (.iload 5, 2) := by decide +kernel
theorem dX1_quarrel_81 : decode cX1_quarrel 81 = .ok (.bipush 31, 2) := by decide +kernel
theorem dX1_quarrel_83 : decode cX1_quarrel 83 = .ok (.iload 5, 2) := by decide +kernel
theorem dX1_quarrel_85 : decode cX1_quarrel 85 = .ok (.isub, 1) := by decide +kernel
theorem dX1_quarrel_86 : decode cX1_quarrel 86 = .ok (.imul, 1) := by decide +kernel
theorem dX1_quarrel_87 : decode cX1_quarrel 87 = .ok (.iconst 2, 1) := by decide +kernel
theorem dX1_quarrel_88 : decode cX1_quarrel 88 = .ok (.idiv, 1) := by decide +kernel
theorem dX1_quarrel_89 : decode cX1_quarrel 89 = .ok (.iload 6, 2) := by decide +kernel
theorem dX1_quarrel_91 : decode cX1_quarrel 91 = .ok (.iadd, 1) := by decide +kernel
theorem dX1_quarrel_92 : decode cX1_quarrel 92 = .ok (.iload 5, 2) := by decide +kernel
theorem dX1_quarrel_94 : decode cX1_quarrel 94 = .ok (.isub, 1) := by decide +kernel
theorem dX1_quarrel_95 : decode cX1_quarrel 95 = .ok (.iconst 1, 1) := by decide +kernel
theorem dX1_quarrel_96 : decode cX1_quarrel 96 = .ok (.isub, 1) := by decide +kernel
theorem dX1_quarrel_97 : decode cX1_quarrel 97 = .ok (.istore 10, 2) := by decide +kernel
theorem dX1_quarrel_99 : decode cX1_quarrel 99 = .ok (.iload 10, 2) := by decide +kernel
theorem dX1_quarrel_101 : decode cX1_quarrel 101 = .ok (.bipush 40, 2) := by decide +kernel
theorem dX1_quarrel_103 : decode cX1_quarrel 103 = .ok (.imul, 1) := by decide +kernel
theorem dX1_quarrel_104 : decode cX1_quarrel 104 = .ok (.iload 7, 2) := by decide +kernel
theorem dX1_quarrel_106 : decode cX1_quarrel 106 = .ok (.iadd, 1) := by decide +kernel
theorem dX1_quarrel_107 : decode cX1_quarrel 107 = .ok (.bipush 10, 2) := by decide +kernel
theorem dX1_quarrel_109 : decode cX1_quarrel 109 = .ok (.imul, 1) := by decide +kernel
theorem dX1_quarrel_110 : decode cX1_quarrel 110 = .ok (.iload 9, 2) := by decide +kernel
theorem dX1_quarrel_112 : decode cX1_quarrel 112 = .ok (.iadd, 1) := by decide +kernel
theorem dX1_quarrel_113 : decode cX1_quarrel 113 = .ok (.istore 11, 2) := by decide +kernel
theorem dX1_quarrel_115 : decode cX1_quarrel 115 = .ok (.iload 11, 2) := by decide +kernel
theorem dX1_quarrel_117 : decode cX1_quarrel 117 = .ok (.ifCond .lt 13, 3) := by decide +kernel
theorem dX1_quarrel_120 : decode cX1_quarrel 120 = .ok (.iload 11, 2) := by decide +kernel
theorem dX1_quarrel_122 : decode cX1_quarrel 122 = .ok (.aload_n 0, 1) := by decide +kernel
theorem dX1_quarrel_123 : decode cX1_quarrel 123 = .ok (.getfield 20, 3) := by decide +kernel
theorem dX1_quarrel_126 : decode cX1_quarrel 126 = .ok (.arraylength, 1) := by decide +kernel
theorem dX1_quarrel_127 : decode cX1_quarrel 127 = .ok (.if_icmp .lt 5, 3) := by decide +kernel
theorem dX1_quarrel_130 : decode cX1_quarrel 130 = .ok (.iconst 0, 1) := by decide +kernel
theorem dX1_quarrel_131 : decode cX1_quarrel 131 = .ok (.ireturn, 1) := by decide +kernel
theorem dX1_quarrel_132 : decode cX1_quarrel 132 = .ok (.aload_n 0, 1) := by decide +kernel
theorem dX1_quarrel_133 : decode cX1_quarrel 133 = .ok (.getfield 20, 3) := by decide +kernel
theorem dX1_quarrel_136 : decode cX1_quarrel 136 = .ok (.iload 11, 2) := by decide +kernel
theorem dX1_quarrel_138 : decode cX1_quarrel 138 = .ok (.iaload, 1) := by decide +kernel
theorem dX1_quarrel_139 : decode cX1_quarrel 139 = .ok (.bipush 8, 2) := by decide +kernel
theorem dX1_quarrel_141 : decode cX1_quarrel 141 = .ok (.ishr, 1) := by decide +kernel
theorem dX1_quarrel_142 : decode cX1_quarrel 142 = .ok (.aload_n 0, 1) := by decide +kernel
theorem dX1_quarrel_143 : decode cX1_quarrel 143 = .ok (.getfield 33, 3) := by decide +kernel
theorem dX1_quarrel_146 : decode cX1_quarrel 146 = .ok (.if_icmp .eq 46, 3) := by decide +kernel
theorem dX1_quarrel_149 : decode cX1_quarrel 149 = .ok (.aload_n 0, 1) := by decide +kernel
theorem dX1_quarrel_150 : decode cX1_quarrel 150 = .ok (.iload 5, 2) := by decide +kernel
theorem dX1_quarrel_152 : decode cX1_quarrel 152 = .ok (.iload 7, 2) := by decide +kernel
theorem dX1_quarrel_154 : decode cX1_quarrel 154 = .ok (.iload 6, 2) := by decide +kernel
theorem dX1_quarrel_156 : decode cX1_quarrel 156 = .ok (.iload 8, 2) := by decide +kernel
theorem dX1_quarrel_158 : decode cX1_quarrel 158 = .ok (.invokevirtual 48, 3) := by decide +kernel
theorem dX1_quarrel_161 : decode cX1_quarrel 161 = .ok (.aload_n 0, 1) := by decide +kernel
theorem dX1_quarrel_162 : decode cX1_quarrel 162 = .ok (.getfield 20, 3) := by decide +kernel
theorem dX1_quarrel_165 : decode cX1_quarrel 165 = .ok (.iload 11, 2) := by decide +kernel
theorem dX1_quarrel_167 : decode cX1_quarrel 167 = .ok (.aload_n 0, 1) := by decide +kernel
theorem dX1_quarrel_168 : decode cX1_quarrel 168 = .ok (.getfield 33, 3) := by decide +kernel
theorem dX1_quarrel_171 : decode cX1_quarrel 171 = .ok (.bipush 8, 2) := by decide +kernel
theorem dX1_quarrel_173 : decode cX1_quarrel 173 = .ok (.ishl, 1) := by decide +kernel
theorem dX1_quarrel_174 : decode cX1_quarrel 174 = .ok (.aload_n 0, 1) := by decide +kernel
theorem dX1_quarrel_175 : decode cX1_quarrel 175 = .ok (.getfield 29, 3) := by decide +kernel
theorem dX1_quarrel_178 : decode cX1_quarrel 178 = .ok (.bipush 104, 2) := by decide +kernel
theorem dX1_quarrel_180 : decode cX1_quarrel 180 = .ok (.aload_n 0, 1) := by decide +kernel
theorem dX1_quarrel_181 : decode cX1_quarrel 181 = .ok (.getfield 13, 3) := by decide +kernel
theorem dX1_quarrel_184 : decode cX1_quarrel 184 = .ok (.iconst 0, 1) := by decide +kernel
theorem dX1_quarrel_185 : decode cX1_quarrel 185 = .ok (.bipush 99, 2) := by decide +kernel
theorem dX1_quarrel_187 : decode cX1_quarrel 187 = .ok (.invokevirtual 56, 3) := by decide +kernel
theorem dX1_quarrel_190 : decode cX1_quarrel 190 = .ok (.iadd, 1) := by decide +kernel
theorem dX1_quarrel_191 : decode cX1_quarrel 191 = .ok (.iastore, 1) := by decide +kernel
theorem dX1_quarrel_192 : decode cX1_quarrel 192 = .ok (.aload_n 0, 1) := by decide +kernel
theorem dX1_quarrel_193 : decode cX1_quarrel 193 = .ok (.getfield 20, 3) := by decide +kernel
theorem dX1_quarrel_196 : decode cX1_quarrel 196 = .ok (.iload 11, 2) := by decide +kernel
theorem dX1_quarrel_198 : decode cX1_quarrel 198 = .ok (.iaload, 1) := by decide +kernel
theorem dX1_quarrel_199 : decode cX1_quarrel 199 = .ok (.sipush 255, 3) := by decide +kernel
theorem dX1_quarrel_202 : decode cX1_quarrel 202 = .ok (.iand, 1) := by decide +kernel
theorem dX1_quarrel_203 : decode cX1_quarrel 203 = .ok (.ireturn, 1) := by decide +kernel
theorem dX1_value_0 : decode cX1_value 0 = .ok (.iload_n 1, 1) := by decide +kernel
theorem dX1_value_1 : decode cX1_value 1 = .ok (.bipush 40, 2) := by decide +kernel
theorem dX1_value_3 : decode cX1_value 3 = .ok (.imul, 1) := by decide +kernel
theorem dX1_value_4 : decode cX1_value 4 = .ok (.iload_n 2, 1) := by decide +kernel
theorem dX1_value_5 : decode cX1_value 5 = .ok (.iadd, 1) := by decide +kernel
theorem dX1_value_6 : decode cX1_value 6 = .ok (.istore_n 3, 1) := by decide +kernel
theorem dX1_value_7 : decode cX1_value 7 = .ok (.iload_n 3, 1) := by decide +kernel
theorem dX1_value_8 : decode cX1_value 8 = .ok (.ifCond .lt 12, 3) := by decide +kernel
theorem dX1_value_11 : decode cX1_value 11 = .ok (.iload_n 3, 1) := by decide +kernel
theorem dX1_value_12 : decode cX1_value 12 = .ok (.aload_n 0, 1) := by decide +kernel
theorem dX1_value_13 : decode cX1_value 13 = .ok (.getfield 23, 3) := by decide +kernel
theorem dX1_value_16 : decode cX1_value 16 = .ok (.arraylength, 1) := by decide +kernel
theorem dX1_value_17 : decode cX1_value 17 = .ok (.if_icmp .lt 5, 3) := by decide +kernel
theorem dX1_value_20 : decode cX1_value 20 = .ok (.iconst 0, 1) := by decide +kernel
theorem dX1_value_21 : decode cX1_value 21 = .ok (.ireturn, 1) := by decide +kernel
theorem dX1_value_22 : decode cX1_value 22 = .ok (.aload_n 0, 1) := by decide +kernel
theorem dX1_value_23 : decode cX1_value 23 = .ok (.getfield 23, 3) := by decide +kernel
theorem dX1_value_26 : decode cX1_value 26 = .ok (.iload_n 3, 1) := by decide +kernel
theorem dX1_value_27 : decode cX1_value 27 = .ok (.iaload, 1) := by decide +kernel
theorem dX1_value_28 : decode cX1_value 28 = .ok (.bipush 8, 2) := by decide +kernel
theorem dX1_value_30 : decode cX1_value 30 = .ok (.ishr, 1) := by decide +kernel
theorem dX1_value_31 : decode cX1_value 31 = .ok (.aload_n 0, 1) := by decide +kernel
theorem dX1_value_32 : decode cX1_value 32 = .ok (.getfield 33, 3) := by decide +kernel
theorem dX1_value_35 : decode cX1_value 35 = .ok (.if_icmp .eq 43, 3) := by decide +kernel
theorem dX1_value_38 : decode cX1_value 38 = .ok (.aload_n 0, 1) := by decide +kernel
theorem dX1_value_39 : decode cX1_value 39 = .ok (.iload_n 1, 1) := by decide +kernel
theorem dX1_value_40 : decode cX1_value 40 = .ok (.iload_n 2, 1) := by decide +kernel
theorem dX1_value_41 : decode cX1_value 41 = .ok (.invokevirtual 72, 3) := by decide +kernel
theorem dX1_value_44 : decode cX1_value 44 = .ok (.aload_n 0, 1) := by decide +kernel
theorem dX1_value_45 : decode cX1_value 45 = .ok (.getfield 23, 3) := by decide +kernel
theorem dX1_value_48 : decode cX1_value 48 = .ok (.iload_n 3, 1) := by decide +kernel
theorem dX1_value_49 : decode cX1_value 49 = .ok (.aload_n 0, 1) := by decide +kernel
theorem dX1_value_50 : decode cX1_value 50 = .ok (.getfield 33, 3) := by decide +kernel
theorem dX1_value_53 : decode cX1_value 53 = .ok (.bipush 8, 2) := by decide +kernel
theorem dX1_value_55 : decode cX1_value 55 = .ok (.ishl, 1) := by decide +kernel
theorem dX1_value_56 : decode cX1_value 56 = .ok (.aload_n 0, 1) := by decide +kernel
theorem dX1_value_57 : decode cX1_value 57 = .ok (.getfield 29, 3) := by decide +kernel
theorem dX1_value_60 : decode cX1_value 60 = .ok (.bipush 119, 2) := by decide +kernel
theorem dX1_value_62 : decode cX1_value 62 = .ok (.aload_n 0, 1) := by decide +kernel
theorem dX1_value_63 : decode cX1_value 63 = .ok (.getfield 13, 3) := by decide +kernel
theorem dX1_value_66 : decode cX1_value 66 = .ok (.bipush (-99), 2) := by decide +kernel
theorem dX1_value_68 : decode cX1_value 68 = .ok (.bipush 99, 2) := by decide +kernel
theorem dX1_value_70 : decode cX1_value 70 = .ok (.invokevirtual 56, 3) := by decide +kernel
theorem dX1_value_73 : decode cX1_value 73 = .ok (.iadd, 1) := by decide +kernel
theorem dX1_value_74 : decode cX1_value 74 = .ok (.bipush 99, 2) := by decide +kernel
theorem dX1_value_76 : decode cX1_value 76 = .ok (.iadd, 1) := by decide +kernel
theorem dX1_value_77 : decode cX1_value 77 = .ok (.iastore, 1) := by decide +kernel
theorem dX1_value_78 : decode cX1_value 78 = .ok (.aload_n 0, 1) := by decide +kernel
theorem dX1_value_79 : decode cX1_value 79 = .ok (.getfield 23, 3) := by decide +kernel
theorem dX1_value_82 : decode cX1_value 82 = .ok (.iload_n 3, 1) := by decide +kernel
theorem dX1_value_83 : decode cX1_value 83 = .ok (.iaload, 1) := by decide +kernel
theorem dX1_value_84 : decode cX1_value 84 = .ok (.sipush 255, 3) := by decide +kernel
theorem dX1_value_87 : decode cX1_value 87 = .ok (.iand, 1) := by decide +kernel
theorem dX1_value_88 : decode cX1_value 88 = .ok (.bipush 99, 2) := by decide +kernel
theorem dX1_value_90 : decode cX1_value 90 = .ok (.isub, 1) := by decide +kernel
theorem dX1_value_91 : decode cX1_value 91 = .ok (.ireturn, 1) := by decide +kernel
theorem dX1_spellAlone_0 : decode cX1_spellAlone 0 = .ok (.iconst 0, 1) := by decide +kernel
theorem dX1_spellAlone_1 : decode cX1_spellAlone 1 = .ok (.istore_n 3, 1) := by decide +kernel
theorem dX1_spellAlone_2 : decode cX1_spellAlone 2 = .ok (.iload_n 3, 1) := by decide +kernel
theorem dX1_spellAlone_3 : decode cX1_spellAlone 3 = .ok (.bipush 10, 2) := by decide +kernel
theorem dX1_spellAlone_5 : decode cX1_spellAlone 5 = .ok (.if_icmp .ge 16, 3) := by decide +kernel
theorem dX1_spellAlone_8 : decode cX1_spellAlone 8 = .ok (.aload_n 0, 1) := by decide +kernel
theorem dX1_spellAlone_9 : decode cX1_spellAlone 9 = .ok (.getfield 13, 3) := by decide +kernel
theorem dX1_spellAlone_12 : decode cX1_spellAlone 12 = .ok (.iload_n 3, 1) := by decide +kernel
theorem dX1_spellAlone_13 : decode cX1_spellAlone 13 = .ok (.iconst 0, 1) := by decide +kernel
theorem dX1_spellAlone_14 : decode cX1_spellAlone 14 = .ok (.iastore, 1) := by decide +kernel
theorem dX1_spellAlone_15 : decode cX1_spellAlone 15 = .ok (.iinc 3 1, 3) := by decide +kernel
theorem dX1_spellAlone_18 : decode cX1_spellAlone 18 = .ok (.goto (-16), 3) := by decide +kernel
theorem dX1_spellAlone_21 : decode cX1_spellAlone 21 = .ok (.aload_n 0, 1) := by decide +kernel
theorem dX1_spellAlone_22 : decode cX1_spellAlone 22 = .ok (.getfield 13, 3) := by decide +kernel
theorem dX1_spellAlone_25 : decode cX1_spellAlone 25 = .ok (.iconst 0, 1) := by decide +kernel
theorem dX1_spellAlone_26 : decode cX1_spellAlone 26 = .ok (.iload_n 1, 1) := by decide +kernel
theorem dX1_spellAlone_27 : decode cX1_spellAlone 27 = .ok (.iastore, 1) := by decide +kernel
theorem dX1_spellAlone_28 : decode cX1_spellAlone 28 = .ok (.aload_n 0, 1) := by decide +kernel
theorem dX1_spellAlone_29 : decode cX1_spellAlone 29 = .ok (.getfield 13, 3) := by decide +kernel
theorem dX1_spellAlone_32 : decode cX1_spellAlone 32 = .ok (.iconst 2, 1) := by decide +kernel
theorem dX1_spellAlone_33 : decode cX1_spellAlone 33 = .ok (.aload_n 0, 1) := by decide +kernel
theorem dX1_spellAlone_34 : decode cX1_spellAlone 34 = .ok (.getfield 37, 3) := by decide +kernel
theorem dX1_spellAlone_37 : decode cX1_spellAlone 37 = .ok (.iload_n 1, 1) := by decide +kernel
theorem dX1_spellAlone_38 : decode cX1_spellAlone 38 = .ok (.invokevirtual 76, 3) := by decide +kernel
theorem dX1_spellAlone_41 : decode cX1_spellAlone 41 = .ok (.iastore, 1) := by decide +kernel
theorem dX1_spellAlone_42 : decode cX1_spellAlone 42 = .ok (.aload_n 0, 1) := by decide +kernel
theorem dX1_spellAlone_43 : decode cX1_spellAlone 43 = .ok (.getfield 13, 3) := by decide +kernel
theorem dX1_spellAlone_46 : decode cX1_spellAlone 46 = .ok (.iconst 4, 1) := by decide +kernel
theorem dX1_spellAlone_47 : decode cX1_spellAlone 47 = .ok (.iload_n 2, 1) := by decide +kernel
theorem dX1_spellAlone_48 : decode cX1_spellAlone 48 = .ok (.iastore, 1) := by decide +kernel
theorem dX1_spellAlone_49 : decode cX1_spellAlone 49 = .ok (.return_, 1) := by decide +kernel
theorem dX1_spell_0 : decode cX1_spell 0 = .ok (.aload_n 0, 1) := by decide +kernel
theorem dX1_spell_1 : decode cX1_spell 1 = .ok (.getfield 13, 3) := by decide +kernel
theorem dX1_spell_4 : decode cX1_spell 4 = .ok (.iconst 0, 1) := by decide +kernel
theorem dX1_spell_5 : decode cX1_spell 5 = .ok (.iload_n 1, 1) := by decide +kernel
theorem dX1_spell_6 : decode cX1_spell 6 = .ok (.iastore, 1) := by decide +kernel
theorem dX1_spell_7 : decode cX1_spell 7 = .ok (.aload_n 0, 1) := by decide +kernel
theorem dX1_spell_8 : decode cX1_spell 8 = .ok (.getfield 13, 3) := by decide +kernel
theorem dX1_spell_11 : decode cX1_spell 11 = .ok (.iconst 1, 1) := by decide +kernel
theorem dX1_spell_12 : decode cX1_spell 12 = .ok (.iload_n 3, 1) := by decide +kernel
theorem dX1_spell_13 : decode cX1_spell 13 = .ok (.iastore, 1) := by decide +kernel
theorem dX1_spell_14 : decode cX1_spell 14 = .ok (.aload_n 0, 1) := by decide +kernel
theorem dX1_spell_15 : decode cX1_spell 15 = .ok (.getfield 13, 3) := by decide +kernel
theorem dX1_spell_18 : decode cX1_spell 18 = .ok (.iconst 2, 1) := by decide +kernel
theorem dX1_spell_19 : decode cX1_spell 19 = .ok (.aload_n 0, 1) := by decide +kernel
theorem dX1_spell_20 : decode cX1_spell 20 = .ok (.getfield 37, 3) := by decide +kernel
theorem dX1_spell_23 : decode cX1_spell 23 = .ok (.iload_n 1, 1) := by decide +kernel
theorem dX1_spell_24 : decode cX1_spell 24 = .ok (.invokevirtual 76, 3) := by decide +kernel
theorem dX1_spell_27 : decode cX1_spell 27 = .ok (.iastore, 1) := by decide +kernel
theorem dX1_spell_28 : decode cX1_spell 28 = .ok (.aload_n 0, 1) := by decide +kernel
theorem dX1_spell_29 : decode cX1_spell 29 = .ok (.getfield 13, 3) := by decide +kernel
theorem dX1_spell_32 : decode cX1_spell 32 = .ok (.iconst 3, 1) := by decide +kernel
theorem dX1_spell_33 : decode cX1_spell 33 = .ok (.aload_n 0, 1) := by decide +kernel
theorem dX1_spell_34 : decode cX1_spell 34 = .ok (.getfield 37, 3) := by decide +kernel
theorem dX1_spell_37 : decode cX1_spell 37 = .ok (.iload_n 3, 1) := by decide +kernel
theorem dX1_spell_38 : decode cX1_spell 38 = .ok (.invokevirtual 76, 3) := by decide +kernel
theorem dX1_spell_41 : decode cX1_spell 41 = .ok (.iastore, 1) := by decide +kernel
theorem dX1_spell_42 : decode cX1_spell 42 = .ok (.aload_n 0, 1) := by decide +kernel
theorem dX1_spell_43 : decode cX1_spell 43 = .ok (.getfield 13, 3) := by decide +kernel
theorem dX1_spell_46 : decode cX1_spell 46 = .ok (.iconst 4, 1) := by decide +kernel
theorem dX1_spell_47 : decode cX1_spell 47 = .ok (.iload_n 2, 1) := by decide +kernel
theorem dX1_spell_48 : decode cX1_spell 48 = .ok (.iastore, 1) := by decide +kernel
theorem dX1_spell_49 : decode cX1_spell 49 = .ok (.aload_n 0, 1) := by decide +kernel
theorem dX1_spell_50 : decode cX1_spell 50 = .ok (.getfield 13, 3) := by decide +kernel
theorem dX1_spell_53 : decode cX1_spell 53 = .ok (.iconst 5, 1) := by decide +kernel
theorem dX1_spell_54 : decode cX1_spell 54 = .ok (.iload 4, 2) := by decide +kernel
theorem dX1_spell_56 : decode cX1_spell 56 = .ok (.iastore, 1) := by decide +kernel
theorem dX1_spell_57 : decode cX1_spell 57 = .ok (.aload_n 0, 1) := by decide +kernel
theorem dX1_spell_58 : decode cX1_spell 58 = .ok (.getfield 13, 3) := by decide +kernel
theorem dX1_spell_61 : decode cX1_spell 61 = .ok (.bipush 6, 2) := by decide +kernel
theorem dX1_spell_63 : decode cX1_spell 63 = .ok (.aload_n 0, 1) := by decide +kernel
theorem dX1_spell_64 : decode cX1_spell 64 = .ok (.getfield 37, 3) := by decide +kernel
theorem dX1_spell_67 : decode cX1_spell 67 = .ok (.iload_n 1, 1) := by decide +kernel
theorem dX1_spell_68 : decode cX1_spell 68 = .ok (.iload_n 3, 1) := by decide +kernel
theorem dX1_spell_69 : decode cX1_spell 69 = .ok (.invokevirtual 79, 3) := by decide +kernel
theorem dX1_spell_72 : decode cX1_spell 72 = .ok (.iastore, 1) := by decide +kernel
theorem dX1_spell_73 : decode cX1_spell 73 = .ok (.aload_n 0, 1) := by decide +kernel
theorem dX1_spell_74 : decode cX1_spell 74 = .ok (.getfield 13, 3) := by decide +kernel
theorem dX1_spell_77 : decode cX1_spell 77 = .ok (.bipush 7, 2) := by decide +kernel
theorem dX1_spell_79 : decode cX1_spell 79 = .ok (.aload_n 0, 1) := by decide +kernel
theorem dX1_spell_80 : decode cX1_spell 80 = .ok (.getfield 37, 3) := by decide +kernel
theorem dX1_spell_83 : decode cX1_spell 83 = .ok (.iload_n 3, 1) := by decide +kernel
theorem dX1_spell_84 : decode cX1_spell 84 = .ok (.iload_n 1, 1) := by decide +kernel
theorem dX1_spell_85 : decode cX1_spell 85 = .ok (.invokevirtual 79, 3) := by decide +kernel
theorem dX1_spell_88 : decode cX1_spell 88 = .ok (.iastore, 1) := by decide +kernel
theorem dX1_spell_89 : decode cX1_spell 89 = .ok (.aload_n 0, 1) := by decide +kernel
theorem dX1_spell_90 : decode cX1_spell 90 = .ok (.getfield 13, 3) := by decide +kernel
theorem dX1_spell_93 : decode cX1_spell 93 = .ok (.bipush 8, 2) := by decide +kernel
theorem dX1_spell_95 : decode cX1_spell 95 = .ok (.iload_n 2, 1) := by decide +kernel
theorem dX1_spell_96 : decode cX1_spell 96 = .ok (.iload 4, 2) := by decide +kernel
theorem dX1_spell_98 : decode cX1_spell 98 = .ok (.invokestatic 69, 3) := by decide +kernel
theorem dX1_spell_101 : decode cX1_spell 101 = .ok (.iastore, 1) := by decide +kernel
theorem dX1_spell_102 : decode cX1_spell 102 = .ok (.aload_n 0, 1) := by decide +kernel
theorem dX1_spell_103 : decode cX1_spell 103 = .ok (.getfield 13, 3) := by decide +kernel
theorem dX1_spell_106 : decode cX1_spell 106 = .ok (.bipush 9, 2) := by decide +kernel
theorem dX1_spell_108 : decode cX1_spell 108 = .ok (.iload_n 2, 1) := by decide +kernel
theorem dX1_spell_109 : decode cX1_spell 109 = .ok (.iload 4, 2) := by decide +kernel
theorem dX1_spell_111 : decode cX1_spell 111 = .ok (.ixor, 1) := by decide +kernel
theorem dX1_spell_112 : decode cX1_spell 112 = .ok (.iconst 1, 1) := by decide +kernel
theorem dX1_spell_113 : decode cX1_spell 113 = .ok (.iand, 1) := by decide +kernel
theorem dX1_spell_114 : decode cX1_spell 114 = .ok (.iastore, 1) := by decide +kernel
theorem dX1_spell_115 : decode cX1_spell 115 = .ok (.return_, 1) := by decide +kernel
theorem dX2_init_0 : decode cX2_init 0 = .ok (.aload_n 0, 1) := by decide +kernel
theorem dX2_init_1 : decode cX2_init 1 = .ok (.invokespecial 5, 3) := by decide +kernel
theorem dX2_init_4 : decode cX2_init 4 = .ok (.aload_n 0, 1) := by decide +kernel
theorem dX2_init_5 : decode cX2_init 5 = .ok (.bipush 40, 2) := by decide +kernel
theorem dX2_init_7 : decode cX2_init 7 = .ok (.newarray .int, 2) := by decide +kernel
theorem dX2_init_9 : decode cX2_init 9 = .ok (.putfield 11, 3) := by decide +kernel
theorem dX2_init_12 : decode cX2_init 12 = .ok (.aload_n 0, 1) := by decide +kernel
theorem dX2_init_13 : decode cX2_init 13 = .ok (.bipush 40, 2) := by decide +kernel
theorem dX2_init_15 : decode cX2_init 15 = .ok (.newarray .int, 2) := by decide +kernel
theorem dX2_init_17 : decode cX2_init 17 = .ok (.putfield 17, 3) := by decide +kernel
theorem dX2_init_20 : decode cX2_init 20 = .ok (.aload_n 0, 1) := by decide +kernel
theorem dX2_init_21 : decode cX2_init 21 = .ok (.bipush 20, 2) := by decide +kernel
theorem dX2_init_23 : decode cX2_init 23 = .ok (.newarray .int, 2) := by decide +kernel
theorem dX2_init_25 : decode cX2_init 25 = .ok (.putfield 20, 3) := by decide +kernel
theorem dX2_init_28 : decode cX2_init 28 = .ok (.aload_n 0, 1) := by decide +kernel
theorem dX2_init_29 : decode cX2_init 29 = .ok (.bipush 20, 2) := by decide +kernel
theorem dX2_init_31 : decode cX2_init 31 = .ok (.newarray .int, 2) := by decide +kernel
theorem dX2_init_33 : decode cX2_init 33 = .ok (.putfield 23, 3) := by decide +kernel
theorem dX2_init_36 : decode cX2_init 36 = .ok (.aload_n 0, 1) := by decide +kernel
theorem dX2_init_37 : decode cX2_init 37 = .ok (.bipush 20, 2) := by decide +kernel
theorem dX2_init_39 : decode cX2_init 39 = .ok (.newarray .int, 2) := by decide +kernel
theorem dX2_init_41 : decode cX2_init 41 = .ok (.putfield 26, 3) := by decide +kernel
theorem dX2_init_44 : decode cX2_init 44 = .ok (.aload_n 0, 1) := by decide +kernel
theorem dX2_init_45 : decode cX2_init 45 = .ok (.bipush 20, 2) := by decide +kernel
theorem dX2_init_47 : decode cX2_init 47 = .ok (.newarray .int, 2) := by decide +kernel
theorem dX2_init_49 : decode cX2_init 49 = .ok (.putfield 29, 3) := by decide +kernel
theorem dX2_init_52 : decode cX2_init 52 = .ok (.aload_n 0, 1) := by decide +kernel
theorem dX2_init_53 : decode cX2_init 53 = .ok (.bipush 42, 2) := by decide +kernel
theorem dX2_init_55 : decode cX2_init 55 = .ok (.newarray .int, 2) := by decide +kernel
theorem dX2_init_57 : decode cX2_init 57 = .ok (.putfield 32, 3) := by decide +kernel
theorem dX2_init_60 : decode cX2_init 60 = .ok (.aload_n 0, 1) := by decide +kernel
theorem dX2_init_61 : decode cX2_init 61 = .ok (.bipush 42, 2) := by decide +kernel
theorem dX2_init_63 : decode cX2_init 63 = .ok (.newarray .int, 2) := by decide +kernel
theorem dX2_init_65 : decode cX2_init 65 = .ok (.putfield 35, 3) := by decide +kernel
theorem dX2_init_68 : decode cX2_init 68 = .ok (.return_, 1) := by decide +kernel
theorem dX2_at_0 : decode cX2_at 0 = .ok (.iload_n 1, 1) := by decide +kernel
theorem dX2_at_1 : decode cX2_at 1 = .ok (.invokestatic 38, 3) := by decide +kernel
theorem dX2_at_4 : decode cX2_at 4 = .ok (.ifCond .eq 12, 3) := by decide +kernel
theorem dX2_at_7 : decode cX2_at 7 = .ok (.aload_n 0, 1) := by decide +kernel
theorem dX2_at_8 : decode cX2_at 8 = .ok (.getfield 11, 3) := by decide +kernel
theorem dX2_at_11 : decode cX2_at 11 = .ok (.iload_n 1, 1) := by decide +kernel
theorem dX2_at_12 : decode cX2_at 12 = .ok (.iaload, 1) := by decide +kernel
theorem dX2_at_13 : decode cX2_at 13 = .ok (.goto 4, 3) := by decide +kernel
theorem dX2_at_16 : decode cX2_at 16 = .ok (.iconst (-1), 1) := by decide +kernel
theorem dX2_at_17 : decode cX2_at 17 = .ok (.ireturn, 1) := by decide +kernel
theorem dX2_lay_0 : decode cX2_lay 0 = .ok (.iload_n 1, 1) := by decide +kernel
theorem dX2_lay_1 : decode cX2_lay 1 = .ok (.invokestatic 38, 3) := by decide +kernel
theorem dX2_lay_4 : decode cX2_lay 4 = .ok (.ifCond .eq 10, 3) := by decide +kernel
theorem dX2_lay_7 : decode cX2_lay 7 = .ok (.aload_n 0, 1) := by decide +kernel
theorem dX2_lay_8 : decode cX2_lay 8 = .ok (.getfield 11, 3) := by decide +kernel
theorem dX2_lay_11 : decode cX2_lay 11 = .ok (.iload_n 1, 1) := by decide +kernel
theorem dX2_lay_12 : decode cX2_lay 12 = .ok (.iload_n 2, 1) := by decide +kernel
theorem dX2_lay_13 : decode cX2_lay 13 = .ok (.iastore, 1) := by decide +kernel
theorem dX2_lay_14 : decode cX2_lay 14 = .ok (.return_, 1) := by decide +kernel
theorem dX2_move_0 : decode cX2_move 0 = .ok (.iload_n 1, 1) := by decide +kernel
theorem dX2_move_1 : decode cX2_move 1 = .ok (.invokestatic 38, 3) := by decide +kernel
theorem dX2_move_4 : decode cX2_move 4 = .ok (.ifCond .eq 33, 3) := by decide +kernel
theorem dX2_move_7 : decode cX2_move 7 = .ok (.iload_n 2, 1) := by decide +kernel
theorem dX2_move_8 : decode cX2_move 8 = .ok (.invokestatic 38, 3) := by decide +kernel
theorem dX2_move_11 : decode cX2_move 11 = .ok (.ifCond .eq 26, 3) := by decide +kernel
theorem dX2_move_14 : decode cX2_move 14 = .ok (.iload_n 3, 1) := by decide +kernel
theorem dX2_move_15 : decode cX2_move 15 = .ok (.aload_n 0, 1) := by decide +kernel
theorem dX2_move_16 : decode cX2_move 16 = .ok (.getfield 11, 3) := by decide +kernel
theorem dX2_move_19 : decode cX2_move 19 = .ok (.iload_n 1, 1) := by decide +kernel
theorem dX2_move_20 : decode cX2_move 20 = .ok (.iaload, 1) := by decide +kernel
theorem dX2_move_21 : decode cX2_move 21 = .ok (.if_icmp .gt 16, 3) := by decide +kernel
theorem dX2_move_24 : decode cX2_move 24 = .ok (.aload_n 0, 1) := by decide +kernel
theorem dX2_move_25 : decode cX2_move 25 = .ok (.getfield 11, 3) := by decide +kernel
theorem dX2_move_28 : decode cX2_move 28 = .ok (.iload_n 2, 1) := by decide +kernel
theorem dX2_move_29 : decode cX2_move 29 = .ok (.iaload, 1) := by decide +kernel
theorem dX2_move_30 : decode cX2_move 30 = .ok (.iload_n 3, 1) := by decide +kernel
theorem dX2_move_31 : decode cX2_move 31 = .ok (.iadd, 1) := by decide +kernel
theorem dX2_move_32 : decode cX2_move 32 = .ok (.bipush 99, 2) := by decide +kernel
theorem dX2_move_34 : decode cX2_move 34 = .ok (.if_icmp .le 5, 3) := by decide +kernel
theorem dX2_move_37 : decode cX2_move 37 = .ok (.iconst 0, 1) := by decide +kernel
theorem dX2_move_38 : decode cX2_move 38 = .ok (.ireturn, 1) := by decide +kernel
theorem dX2_move_39 : decode cX2_move 39 = .ok (.aload_n 0, 1) := by decide +kernel
theorem dX2_move_40 : decode cX2_move 40 = .ok (.getfield 11, 3) := by decide +kernel
theorem dX2_move_43 : decode cX2_move 43 = .ok (.iload_n 1, 1) := by decide +kernel
theorem dX2_move_44 : decode cX2_move 44 = .ok (.dup2, 1) := by decide +kernel
theorem dX2_move_45 : decode cX2_move 45 = .ok (.iaload, 1) := by decide +kernel
theorem dX2_move_46 : decode cX2_move 46 = .ok (.iload_n 3, 1) := by decide +kernel
theorem dX2_move_47 : decode cX2_move 47 = .ok (.isub, 1) := by decide +kernel
theorem dX2_move_48 : decode cX2_move 48 = .ok (.iastore, 1) := by decide +kernel
theorem dX2_move_49 : decode cX2_move 49 = .ok (.aload_n 0, 1) := by decide +kernel
theorem dX2_move_50 : decode cX2_move 50 = .ok (.getfield 11, 3) := by decide +kernel
theorem dX2_move_53 : decode cX2_move 53 = .ok (.iload_n 2, 1) := by decide +kernel
theorem dX2_move_54 : decode cX2_move 54 = .ok (.dup2, 1) := by decide +kernel
theorem dX2_move_55 : decode cX2_move 55 = .ok (.iaload, 1) := by decide +kernel
theorem dX2_move_56 : decode cX2_move 56 = .ok (.iload_n 3, 1) := by decide +kernel
theorem dX2_move_57 : decode cX2_move 57 = .ok (.iadd, 1) := by decide +kernel
theorem dX2_move_58 : decode cX2_move 58 = .ok (.iastore, 1) := by decide +kernel
theorem dX2_move_59 : decode cX2_move 59 = .ok (.iconst 1, 1) := by decide +kernel
theorem dX2_move_60 : decode cX2_move 60 = .ok (.ireturn, 1) := by decide +kernel
theorem dX2_counts_0 : decode cX2_counts 0 = .ok (.aload_n 0, 1) := by decide +kernel
theorem dX2_counts_1 : decode cX2_counts 1 = .ok (.getfield 42, 3) := by decide +kernel
theorem dX2_counts_4 : decode cX2_counts 4 = .ok (.ireturn, 1) := by decide +kernel
theorem dX2_hasCount_0 : decode cX2_hasCount 0 = .ok (.iload_n 1, 1) := by decide +kernel
theorem dX2_hasCount_1 : decode cX2_hasCount 1 = .ok (.ifCond .lt 21, 3) := by decide +kernel
theorem dX2_hasCount_4 : decode cX2_hasCount 4 = .ok (.iload_n 1, 1) := by decide +kernel
theorem dX2_hasCount_5 : decode cX2_hasCount 5 = .ok (.aload_n 0, 1) := by decide +kernel
theorem dX2_hasCount_6 : decode cX2_hasCount 6 = .ok (.getfield 42, 3) := by decide +kernel
theorem dX2_hasCount_9 : decode cX2_hasCount 9 = .ok (.if_icmp .ge 13, 3) := by decide +kernel
theorem dX2_hasCount_12 : decode cX2_hasCount 12 = .ok (.iload_n 1, 1) := by decide +kernel
theorem dX2_hasCount_13 : decode cX2_hasCount 13 = .ok (.bipush 20, 2) := by decide +kernel
theorem dX2_hasCount_15 : decode cX2_hasCount 15 = .ok (.if_icmp .ge 7, 3) := by decide +kernel
theorem dX2_hasCount_18 : decode cX2_hasCount 18 = .ok (.iconst 1, 1) := by decide +kernel
theorem dX2_hasCount_19 : decode cX2_hasCount 19 = .ok (.goto 4, 3) := by decide +kernel
theorem dX2_hasCount_22 : decode cX2_hasCount 22 = .ok (.iconst 0, 1) := by decide +kernel
theorem dX2_hasCount_23 : decode cX2_hasCount 23 = .ok (.ireturn, 1) := by decide +kernel
theorem dX2_addCount_0 : decode cX2_addCount 0 = .ok (.aload_n 0, 1) := by decide +kernel
theorem dX2_addCount_1 : decode cX2_addCount 1 = .ok (.getfield 42, 3) := by decide +kernel
theorem dX2_addCount_4 : decode cX2_addCount 4 = .ok (.bipush 20, 2) := by decide +kernel
theorem dX2_addCount_6 : decode cX2_addCount 6 = .ok (.if_icmp .lt 5, 3) := by decide +kernel
theorem dX2_addCount_9 : decode cX2_addCount 9 = .ok (.iconst (-1), 1) := by decide +kernel
theorem dX2_addCount_10 : decode cX2_addCount 10 = .ok (.ireturn, 1) := by decide +kernel
theorem dX2_addCount_11 : decode cX2_addCount 11 = .ok (.aload_n 0, 1) := by decide +kernel
theorem dX2_addCount_12 : decode cX2_addCount 12 = .ok (.getfield 20, 3) := by decide +kernel
theorem dX2_addCount_15 : decode cX2_addCount 15 = .ok (.aload_n 0, 1) := by decide +kernel
theorem dX2_addCount_16 : decode cX2_addCount 16 = .ok (.getfield 42, 3) := by decide +kernel
theorem dX2_addCount_19 : decode cX2_addCount 19 = .ok (.iload_n 1, 1) := by decide +kernel
theorem dX2_addCount_20 : decode cX2_addCount 20 = .ok (.iastore, 1) := by decide +kernel
theorem dX2_addCount_21 : decode cX2_addCount 21 = .ok (.aload_n 0, 1) := by decide +kernel
theorem dX2_addCount_22 : decode cX2_addCount 22 = .ok (.getfield 23, 3) := by decide +kernel
theorem dX2_addCount_25 : decode cX2_addCount 25 = .ok (.aload_n 0, 1) := by decide +kernel
theorem dX2_addCount_26 : decode cX2_addCount 26 = .ok (.getfield 42, 3) := by decide +kernel
theorem dX2_addCount_29 : decode cX2_addCount 29 = .ok (.iload_n 2, 1) := by decide +kernel
theorem dX2_addCount_30 : decode cX2_addCount 30 = .ok (.iastore, 1) := by decide +kernel
theorem dX2_addCount_31 : decode cX2_addCount 31 = .ok (.aload_n 0, 1) := by decide +kernel
theorem dX2_addCount_32 : decode cX2_addCount 32 = .ok (.getfield 26, 3) := by decide +kernel
theorem dX2_addCount_35 : decode cX2_addCount 35 = .ok (.aload_n 0, 1) := by decide +kernel
theorem dX2_addCount_36 : decode cX2_addCount 36 = .ok (.getfield 42, 3) := by decide +kernel
theorem dX2_addCount_39 : decode cX2_addCount 39 = .ok (.iload_n 3, 1) := by decide +kernel
theorem dX2_addCount_40 : decode cX2_addCount 40 = .ok (.iastore, 1) := by decide +kernel
theorem dX2_addCount_41 : decode cX2_addCount 41 = .ok (.aload_n 0, 1) := by decide +kernel
theorem dX2_addCount_42 : decode cX2_addCount 42 = .ok (.getfield 29, 3) := by decide +kernel
theorem dX2_addCount_45 : decode cX2_addCount 45 = .ok (.aload_n 0, 1) := by decide +kernel
theorem dX2_addCount_46 : decode cX2_addCount 46 = .ok (.getfield 42, 3) := by decide +kernel
theorem dX2_addCount_49 : decode cX2_addCount 49 = .ok (.iload 4, 2) := by decide +kernel
theorem dX2_addCount_51 : decode cX2_addCount 51 = .ok (.iastore, 1) := by decide +kernel
theorem dX2_addCount_52 : decode cX2_addCount 52 = .ok (.aload_n 0, 1) := by decide +kernel
theorem dX2_addCount_53 : decode cX2_addCount 53 = .ok (.dup, 1) := by decide +kernel
theorem dX2_addCount_54 : decode cX2_addCount 54 = .ok (.getfield 42, 3) := by decide +kernel
theorem dX2_addCount_57 : decode cX2_addCount 57 = .ok (.iconst 1, 1) := by decide +kernel
theorem dX2_addCount_58 : decode cX2_addCount 58 = .ok (.iadd, 1) := by decide +kernel
theorem dX2_addCount_59 : decode cX2_addCount 59 = .ok (.putfield 42, 3) := by decide +kernel
theorem dX2_addCount_62 : decode cX2_addCount 62 = .ok (.aload_n 0, 1) := by decide +kernel
theorem dX2_addCount_63 : decode cX2_addCount 63 = .ok (.getfield 42, 3) := by decide +kernel
theorem dX2_addCount_66 : decode cX2_addCount 66 = .ok (.ireturn, 1) := by decide +kernel
theorem dX2_moreThanSaid_0 : decode cX2_moreThanSaid 0 = .ok (.aload_n 0, 1) := by decide +kernel
theorem dX2_moreThanSaid_1 : decode cX2_moreThanSaid 1 = .ok (.iload_n 1, 1) := by decide +kernel
theorem dX2_moreThanSaid_2 : decode cX2_moreThanSaid 2 = .ok (.invokevirtual 46, 3) := by decide +kernel
theorem dX2_moreThanSaid_5 : decode cX2_moreThanSaid 5 = .ok (.ifCond .eq 35, 3) := by decide +kernel
theorem dX2_moreThanSaid_8 : decode cX2_moreThanSaid 8 = .ok (.aload_n 0, 1) := by decide +kernel
theorem dX2_moreThanSaid_9 : decode cX2_moreThanSaid 9 = .ok (.aload_n 0, 1) := by decide +kernel
theorem dX2_moreThanSaid_10 : decode cX2_moreThanSaid 10 = .ok (.getfield 20, 3) := by decide +kernel
theorem dX2_moreThanSaid_13 : decode cX2_moreThanSaid 13 = .ok (.iload_n 1, 1) := by decide +kernel
theorem dX2_moreThanSaid_14 : decode cX2_moreThanSaid 14 = .ok (.iaload, 1) := by decide +kernel
theorem dX2_moreThanSaid_15 : decode cX2_moreThanSaid 15 = .ok (.aload_n 0, 1) := by decide +kernel
theorem dX2_moreThanSaid_16 : decode cX2_moreThanSaid 16 = .ok (.getfield 23, 3) := by decide +kernel
theorem dX2_moreThanSaid_19 : decode cX2_moreThanSaid 19 = .ok (.iload_n 1, 1) := by decide +kernel
theorem dX2_moreThanSaid_20 : decode cX2_moreThanSaid 20 = .ok (.iaload, 1) := by decide +kernel
theorem dX2_moreThanSaid_21 : decode cX2_moreThanSaid 21 = .ok (.aload_n 0, 1) := by decide +kernel
theorem dX2_moreThanSaid_22 : decode cX2_moreThanSaid 22 = .ok (.getfield 26, 3) := by decide +kernel
theorem dX2_moreThanSaid_25 : decode cX2_moreThanSaid 25 = .ok (.iload_n 1, 1) := by decide +kernel
theorem dX2_moreThanSaid_26 : decode cX2_moreThanSaid 26 = .ok (.iaload, 1) := by decide +kernel
theorem dX2_moreThanSaid_27 : decode cX2_moreThanSaid 27 = .ok (.invokevirtual 49, 3) := by decide +kernel
theorem dX2_moreThanSaid_30 : decode cX2_moreThanSaid 30 = .ok (.aload_n 0, 1) := by decide +kernel
theorem dX2_moreThanSaid_31 : decode cX2_moreThanSaid 31 = .ok (.getfield 29, 3) := by decide +kernel
theorem dX2_moreThanSaid_34 : decode cX2_moreThanSaid 34 = .ok (.iload_n 1, 1) := by decide +kernel
theorem dX2_moreThanSaid_35 : decode cX2_moreThanSaid 35 = .ok (.iaload, 1) := by decide +kernel
theorem dX2_moreThanSaid_36 : decode cX2_moreThanSaid 36 = .ok (.isub, 1) := by decide +kernel
theorem dX2_moreThanSaid_37 : decode cX2_moreThanSaid 37 = .ok (.goto 4, 3) := by decide +kernel
theorem dX2_moreThanSaid_40 : decode cX2_moreThanSaid 40 = .ok (.iconst 0, 1) := by decide +kernel
theorem dX2_moreThanSaid_41 : decode cX2_moreThanSaid 41 = .ok (.ireturn, 1) := by decide +kernel
theorem dX2_between_0 : decode cX2_between 0 = .ok (.iconst 0, 1) := by decide +kernel
theorem dX2_between_1 : decode cX2_between 1 = .ok (.istore 4, 2) := by decide +kernel
theorem dX2_between_3 : decode cX2_between 3 = .ok (.iload_n 2, 1) := by decide +kernel
theorem dX2_between_4 : decode cX2_between 4 = .ok (.istore 5, 2) := by decide +kernel
theorem dX2_between_6 : decode cX2_between 6 = .ok (.iload 5, 2) := by decide +kernel
theorem dX2_between_8 : decode cX2_between 8 = .ok (.iload_n 3, 1) := by decide +kernel
theorem dX2_between_9 : decode cX2_between 9 = .ok (.if_icmp .gt 28, 3) := by decide +kernel
theorem dX2_between_12 : decode cX2_between 12 = .ok (.iload 4, 2) := by decide +kernel
theorem dX2_between_14 : decode cX2_between 14 = .ok (.iconst 0, 1) := by decide +kernel
theorem dX2_between_15 : decode cX2_between 15 = .ok (.aload_n 0, 1) := by decide +kernel
theorem dX2_between_16 : decode cX2_between 16 = .ok (.iconst 2, 1) := by decide +kernel
theorem dX2_between_17 : decode cX2_between 17 = .ok (.iload 5, 2) := by decide +kernel
theorem dX2_between_19 : decode cX2_between 19 = .ok (.imul, 1) := by decide +kernel
theorem dX2_between_20 : decode cX2_between 20 = .ok (.iload_n 1, 1) := by decide +kernel
theorem dX2_between_21 : decode cX2_between 21 = .ok (.iadd, 1) := by decide +kernel
theorem dX2_between_22 : decode cX2_between 22 = .ok (.invokevirtual 53, 3) := by decide +kernel
theorem dX2_between_25 : decode cX2_between 25 = .ok (.invokestatic 57, 3) := by decide +kernel
theorem dX2_between_28 : decode cX2_between 28 = .ok (.iadd, 1) := by decide +kernel
theorem dX2_between_29 : decode cX2_between 29 = .ok (.istore 4, 2) := by decide +kernel
theorem dX2_between_31 : decode cX2_between 31 = .ok (.iinc 5 1, 3) := by decide +kernel
theorem dX2_between_34 : decode cX2_between 34 = .ok (.goto (-28), 3) := by decide +kernel
theorem dX2_between_37 : decode cX2_between 37 = .ok (.iload 4, 2) := by decide +kernel
theorem dX2_between_39 : decode cX2_between 39 = .ok (.ireturn, 1) := by decide +kernel
theorem dX2_firstWrong_0 : decode cX2_firstWrong 0 = .ok (.iconst 0, 1) := by decide +kernel
theorem dX2_firstWrong_1 : decode cX2_firstWrong 1 = .ok (.istore_n 1, 1) := by decide +kernel
theorem dX2_firstWrong_2 : decode cX2_firstWrong 2 = .ok (.iload_n 1, 1) := by decide +kernel
theorem dX2_firstWrong_3 : decode cX2_firstWrong 3 = .ok (.bipush 42, 2) := by decide +kernel
theorem dX2_firstWrong_5 : decode cX2_firstWrong 5 = .ok (.if_icmp .ge 23, 3) := by decide +kernel
theorem dX2_firstWrong_8 : decode cX2_firstWrong 8 = .ok (.aload_n 0, 1) := by decide +kernel
theorem dX2_firstWrong_9 : decode cX2_firstWrong 9 = .ok (.getfield 32, 3) := by decide +kernel
theorem dX2_firstWrong_12 : decode cX2_firstWrong 12 = .ok (.iload_n 1, 1) := by decide +kernel
theorem dX2_firstWrong_13 : decode cX2_firstWrong 13 = .ok (.iload_n 1, 1) := by decide +kernel
theorem dX2_firstWrong_14 : decode cX2_firstWrong 14 = .ok (.iastore, 1) := by decide +kernel
theorem dX2_firstWrong_15 : decode cX2_firstWrong 15 = .ok (.aload_n 0, 1) := by decide +kernel
theorem dX2_firstWrong_16 : decode cX2_firstWrong 16 = .ok (.getfield 35, 3) := by decide +kernel
theorem dX2_firstWrong_19 : decode cX2_firstWrong 19 = .ok (.iload_n 1, 1) := by decide +kernel
theorem dX2_firstWrong_20 : decode cX2_firstWrong 20 = .ok (.iconst 0, 1) := by decide +kernel
theorem dX2_firstWrong_21 : decode cX2_firstWrong 21 = .ok (.iastore, 1) := by decide +kernel
theorem dX2_firstWrong_22 : decode cX2_firstWrong 22 = .ok (.iinc 1 1, 3) := by decide +kernel
theorem dX2_firstWrong_25 : decode cX2_firstWrong 25 = .ok (.goto (-23), 3) := by decide +kernel
theorem dX2_firstWrong_28 : decode cX2_firstWrong 28 = .ok (.iconst 0, 1) := by decide +kernel
theorem dX2_firstWrong_29 : decode cX2_firstWrong 29 = .ok (.istore_n 1, 1) := by decide +kernel
theorem dX2_firstWrong_30 : decode cX2_firstWrong 30 = .ok (.iload_n 1, 1) := by decide +kernel
theorem dX2_firstWrong_31 : decode cX2_firstWrong 31 = .ok (.iconst 2, 1) := by decide +kernel
theorem dX2_firstWrong_32 : decode cX2_firstWrong 32 = .ok (.if_icmp .ge 33, 3) := by decide +kernel
theorem dX2_firstWrong_35 : decode cX2_firstWrong 35 = .ok (.aload_n 0, 1) := by decide +kernel
theorem dX2_firstWrong_36 : decode cX2_firstWrong 36 = .ok (.iload_n 1, 1) := by decide +kernel
theorem dX2_firstWrong_37 : decode cX2_firstWrong 37 = .ok (.bipush 21, 2) := by decide +kernel
theorem dX2_firstWrong_39 : decode cX2_firstWrong 39 = .ok (.imul, 1) := by decide +kernel
theorem dX2_firstWrong_40 : decode cX2_firstWrong 40 = .ok (.iload_n 1, 1) := by decide +kernel
theorem dX2_firstWrong_41 : decode cX2_firstWrong 41 = .ok (.bipush 21, 2) := by decide +kernel
theorem dX2_firstWrong_43 : decode cX2_firstWrong 43 = .ok (.imul, 1) := by decide +kernel
theorem dX2_firstWrong_44 : decode cX2_firstWrong 44 = .ok (.bipush 20, 2) := by decide +kernel
theorem dX2_firstWrong_46 : decode cX2_firstWrong 46 = .ok (.iadd, 1) := by decide +kernel
theorem dX2_firstWrong_47 : decode cX2_firstWrong 47 = .ok (.aload_n 0, 1) := by decide +kernel
theorem dX2_firstWrong_48 : decode cX2_firstWrong 48 = .ok (.iload_n 1, 1) := by decide +kernel
theorem dX2_firstWrong_49 : decode cX2_firstWrong 49 = .ok (.iconst 0, 1) := by decide +kernel
theorem dX2_firstWrong_50 : decode cX2_firstWrong 50 = .ok (.bipush 19, 2) := by decide +kernel
theorem dX2_firstWrong_52 : decode cX2_firstWrong 52 = .ok (.invokevirtual 49, 3) := by decide +kernel
theorem dX2_firstWrong_55 : decode cX2_firstWrong 55 = .ok (.invokevirtual 63, 3) := by decide +kernel
theorem dX2_firstWrong_58 : decode cX2_firstWrong 58 = .ok (.pop, 1) := by decide +kernel
theorem dX2_firstWrong_59 : decode cX2_firstWrong 59 = .ok (.iinc 1 1, 3) := by decide +kernel
theorem dX2_firstWrong_62 : decode cX2_firstWrong 62 = .ok (.goto (-32), 3) := by decide +kernel
theorem dX2_firstWrong_65 : decode cX2_firstWrong 65 = .ok (.iconst 0, 1) := by decide +kernel
theorem dX2_firstWrong_66 : decode cX2_firstWrong 66 = .ok (.istore_n 1, 1) := by decide +kernel
theorem dX2_firstWrong_67 : decode cX2_firstWrong 67 = .ok (.iload_n 1, 1) := by decide +kernel
theorem dX2_firstWrong_68 : decode cX2_firstWrong 68 = .ok (.aload_n 0, 1) := by decide +kernel
theorem dX2_firstWrong_69 : decode cX2_firstWrong 69 = .ok (.getfield 42, 3) := by decide +kernel
theorem dX2_firstWrong_72 : decode cX2_firstWrong 72 = .ok (.if_icmp .ge 58, 3) := by decide +kernel
theorem dX2_firstWrong_75 : decode cX2_firstWrong 75 = .ok (.iload_n 1, 1) := by decide +kernel
theorem dX2_firstWrong_76 : decode cX2_firstWrong 76 = .ok (.bipush 20, 2) := by decide +kernel
theorem dX2_firstWrong_78 : decode cX2_firstWrong 78 = .ok (.if_icmp .ge 52, 3) := by decide +kernel
theorem dX2_firstWrong_81 : decode cX2_firstWrong 81 = .ok (.aload_n 0, 1) := by decide +kernel
theorem dX2_firstWrong_82 : decode cX2_firstWrong 82 = .ok (.getfield 20, 3) := by decide +kernel
theorem dX2_firstWrong_85 : decode cX2_firstWrong 85 = .ok (.iload_n 1, 1) := by decide +kernel
theorem dX2_firstWrong_86 : decode cX2_firstWrong 86 = .ok (.iaload, 1) := by decide +kernel
theorem dX2_firstWrong_87 : decode cX2_firstWrong 87 = .ok (.bipush 21, 2) := by decide +kernel
theorem dX2_firstWrong_89 : decode cX2_firstWrong 89 = .ok (.imul, 1) := by decide +kernel
theorem dX2_firstWrong_90 : decode cX2_firstWrong 90 = .ok (.istore_n 2, 1) := by decide +kernel
theorem dX2_firstWrong_91 : decode cX2_firstWrong 91 = .ok (.aload_n 0, 1) := by decide +kernel
theorem dX2_firstWrong_92 : decode cX2_firstWrong 92 = .ok (.iload_n 2, 1) := by decide +kernel
theorem dX2_firstWrong_93 : decode cX2_firstWrong 93 = .ok (.aload_n 0, 1) := by decide +kernel
theorem dX2_firstWrong_94 : decode cX2_firstWrong 94 = .ok (.getfield 23, 3) := by decide +kernel
theorem dX2_firstWrong_97 : decode cX2_firstWrong 97 = .ok (.iload_n 1, 1) := by decide +kernel
theorem dX2_firstWrong_98 : decode cX2_firstWrong 98 = .ok (.iaload, 1) := by decide +kernel
theorem dX2_firstWrong_99 : decode cX2_firstWrong 99 = .ok (.iadd, 1) := by decide +kernel
theorem dX2_firstWrong_100 : decode cX2_firstWrong 100 = .ok (.iload_n 2, 1) := by decide +kernel
theorem dX2_firstWrong_101 : decode cX2_firstWrong 101 = .ok (.aload_n 0, 1) := by decide +kernel
theorem dX2_firstWrong_102 : decode cX2_firstWrong 102 = .ok (.getfield 26, 3) := by decide +kernel
theorem dX2_firstWrong_105 : decode cX2_firstWrong 105 = .ok (.iload_n 1, 1) := by decide +kernel
theorem dX2_firstWrong_106 : decode cX2_firstWrong 106 = .ok (.iaload, 1) := by decide +kernel
theorem dX2_firstWrong_107 : decode cX2_firstWrong 107 = .ok (.iadd, 1) := by decide +kernel
theorem dX2_firstWrong_108 : decode cX2_firstWrong 108 = .ok (.iconst 1, 1) := by decide +kernel
theorem dX2_firstWrong_109 : decode cX2_firstWrong 109 = .ok (.iadd, 1) := by decide +kernel
theorem dX2_firstWrong_110 : decode cX2_firstWrong 110 = .ok (.aload_n 0, 1) := by decide +kernel
theorem dX2_firstWrong_111 : decode cX2_firstWrong 111 = .ok (.getfield 29, 3) := by decide +kernel
theorem dX2_firstWrong_114 : decode cX2_firstWrong 114 = .ok (.iload_n 1, 1) := by decide +kernel
theorem dX2_firstWrong_115 : decode cX2_firstWrong 115 = .ok (.iaload, 1) := by decide +kernel
theorem dX2_firstWrong_116 : decode cX2_firstWrong 116 = .ok (.invokevirtual 63, 3) := by decide +kernel
theorem dX2_firstWrong_119 : decode cX2_firstWrong 119 = .ok (.ifCond .ne 5, 3) := by decide +kernel
theorem dX2_firstWrong_122 : decode cX2_firstWrong 122 = .ok (.iload_n 1, 1) := by decide +kernel
theorem dX2_firstWrong_123 : decode cX2_firstWrong 123 = .ok (.ireturn, 1) := by decide +kernel
theorem dX2_firstWrong_124 : decode cX2_firstWrong 124 = .ok (.iinc 1 1, 3) := by decide +kernel
theorem dX2_firstWrong_127 : decode cX2_firstWrong 127 = .ok (.goto (-60), 3) := by decide +kernel
theorem dX2_firstWrong_130 : decode cX2_firstWrong 130 = .ok (.iconst (-1), 1) := by decide +kernel
theorem dX2_firstWrong_131 : decode cX2_firstWrong 131 = .ok (.ireturn, 1) := by decide +kernel
theorem dX2_relate_0 : decode cX2_relate 0 = .ok (.iload_n 1, 1) := by decide +kernel
theorem dX2_relate_1 : decode cX2_relate 1 = .ok (.ifCond .lt 19, 3) := by decide +kernel
theorem dX2_relate_4 : decode cX2_relate 4 = .ok (.iload_n 2, 1) := by decide +kernel
theorem dX2_relate_5 : decode cX2_relate 5 = .ok (.ifCond .lt 15, 3) := by decide +kernel
theorem dX2_relate_8 : decode cX2_relate 8 = .ok (.iload_n 1, 1) := by decide +kernel
theorem dX2_relate_9 : decode cX2_relate 9 = .ok (.bipush 42, 2) := by decide +kernel
theorem dX2_relate_11 : decode cX2_relate 11 = .ok (.if_icmp .ge 9, 3) := by decide +kernel
theorem dX2_relate_14 : decode cX2_relate 14 = .ok (.iload_n 2, 1) := by decide +kernel
theorem dX2_relate_15 : decode cX2_relate 15 = .ok (.bipush 42, 2) := by decide +kernel
theorem dX2_relate_17 : decode cX2_relate 17 = .ok (.if_icmp .lt 5, 3) := by decide +kernel
theorem dX2_relate_20 : decode cX2_relate 20 = .ok (.iconst 1, 1) := by decide +kernel
theorem dX2_relate_21 : decode cX2_relate 21 = .ok (.ireturn, 1) := by decide +kernel
theorem dX2_relate_22 : decode cX2_relate 22 = .ok (.aload_n 0, 1) := by decide +kernel
theorem dX2_relate_23 : decode cX2_relate 23 = .ok (.getfield 35, 3) := by decide +kernel
theorem dX2_relate_26 : decode cX2_relate 26 = .ok (.iload_n 1, 1) := by decide +kernel
theorem dX2_relate_27 : decode cX2_relate 27 = .ok (.iaload, 1) := by decide +kernel
theorem dX2_relate_28 : decode cX2_relate 28 = .ok (.iload_n 3, 1) := by decide +kernel
theorem dX2_relate_29 : decode cX2_relate 29 = .ok (.iadd, 1) := by decide +kernel
theorem dX2_relate_30 : decode cX2_relate 30 = .ok (.aload_n 0, 1) := by decide +kernel
theorem dX2_relate_31 : decode cX2_relate 31 = .ok (.getfield 35, 3) := by decide +kernel
theorem dX2_relate_34 : decode cX2_relate 34 = .ok (.iload_n 2, 1) := by decide +kernel
theorem dX2_relate_35 : decode cX2_relate 35 = .ok (.iaload, 1) := by decide +kernel
theorem dX2_relate_36 : decode cX2_relate 36 = .ok (.isub, 1) := by decide +kernel
theorem dX2_relate_37 : decode cX2_relate 37 = .ok (.istore 4, 2) := by decide +kernel
theorem dX2_relate_39 : decode cX2_relate 39 = .ok (.aload_n 0, 1) := by decide +kernel
theorem dX2_relate_40 : decode cX2_relate 40 = .ok (.getfield 32, 3) := by decide +kernel
theorem dX2_relate_43 : decode cX2_relate 43 = .ok (.iload_n 2, 1) := by decide +kernel
theorem dX2_relate_44 : decode cX2_relate 44 = .ok (.iaload, 1) := by decide +kernel
theorem dX2_relate_45 : decode cX2_relate 45 = .ok (.istore 5, 2) := by decide +kernel
theorem dX2_relate_47 : decode cX2_relate 47 = .ok (.iload 5, 2) := by decide +kernel
theorem dX2_relate_49 : decode cX2_relate 49 = .ok (.aload_n 0, 1) := by decide +kernel
theorem dX2_relate_50 : decode cX2_relate 50 = .ok (.getfield 32, 3) := by decide +kernel
theorem dX2_relate_53 : decode cX2_relate 53 = .ok (.iload_n 1, 1) := by decide +kernel
theorem dX2_relate_54 : decode cX2_relate 54 = .ok (.iaload, 1) := by decide +kernel
theorem dX2_relate_55 : decode cX2_relate 55 = .ok (.if_icmp .ne 14, 3) := by decide +kernel
theorem dX2_relate_58 : decode cX2_relate 58 = .ok (.iload 4, 2) := by decide +kernel
theorem dX2_relate_60 : decode cX2_relate 60 = .ok (.ifCond .ne 7, 3) := by decide +kernel
theorem dX2_relate_63 : decode cX2_relate 63 = .ok (.iconst 1, 1) := by decide +kernel
theorem dX2_relate_64 : decode cX2_relate 64 = .ok (.goto 4, 3) := by decide +kernel
theorem dX2_relate_67 : decode cX2_relate 67 = .ok (.iconst 0, 1) := by decide +kernel
theorem dX2_relate_68 : decode cX2_relate 68 = .ok (.ireturn, 1) := by decide +kernel
theorem dX2_relate_69 : decode cX2_relate 69 = .ok (.iconst 0, 1) := by decide +kernel
theorem dX2_relate_70 : decode cX2_relate 70 = .ok (.istore 6, 2) := by decide +kernel
theorem dX2_relate_72 : decode cX2_relate 72 = .ok (.iload 6, 2) := by decide +kernel
theorem dX2_relate_74 : decode cX2_relate 74 = .ok (.bipush 42, 2) := by decide +kernel
theorem dX2_relate_76 : decode cX2_relate 76 = .ok (.if_icmp .ge 46, 3) := by decide +kernel
theorem dX2_relate_79 : decode cX2_relate 79 = .ok (.aload_n 0, 1) := by decide +kernel
theorem dX2_relate_80 : decode cX2_relate 80 = .ok (.getfield 32, 3) := by decide +kernel
theorem dX2_relate_83 : decode cX2_relate 83 = .ok (.iload 6, 2) := by decide +kernel
theorem dX2_relate_85 : decode cX2_relate 85 = .ok (.iaload, 1) := by decide +kernel
theorem dX2_relate_86 : decode cX2_relate 86 = .ok (.iload 5, 2) := by decide +kernel
theorem dX2_relate_88 : decode cX2_relate 88 = .ok (.if_icmp .ne 28, 3) := by decide +kernel
theorem dX2_relate_91 : decode cX2_relate 91 = .ok (.aload_n 0, 1) := by decide +kernel
theorem dX2_relate_92 : decode cX2_relate 92 = .ok (.getfield 32, 3) := by decide +kernel
theorem dX2_relate_95 : decode cX2_relate 95 = .ok (.iload 6, 2) := by decide +kernel
theorem dX2_relate_97 : decode cX2_relate 97 = .ok (.aload_n 0, 1) := by decide +kernel
theorem dX2_relate_98 : decode cX2_relate 98 = .ok (.getfield 32, 3) := by decide +kernel
theorem dX2_relate_101 : decode cX2_relate 101 = .ok (.iload_n 1, 1) := by decide +kernel
theorem dX2_relate_102 : decode cX2_relate 102 = .ok (.iaload, 1) := by decide +kernel
theorem dX2_relate_103 : decode cX2_relate 103 = .ok (.iastore, 1) := by decide +kernel
theorem dX2_relate_104 : decode cX2_relate 104 = .ok (.aload_n 0, 1) := by decide +kernel
theorem dX2_relate_105 : decode cX2_relate 105 = .ok (.getfield 35, 3) := by decide +kernel
theorem dX2_relate_108 : decode cX2_relate 108 = .ok (.iload 6, 2) := by decide +kernel
theorem dX2_relate_110 : decode cX2_relate 110 = .ok (.dup2, 1) := by decide +kernel
theorem dX2_relate_111 : decode cX2_relate 111 = .ok (.iaload, 1) := by decide +kernel
theorem dX2_relate_112 : decode cX2_relate 112 = .ok (.iload 4, 2) := by decide +kernel
theorem dX2_relate_114 : decode cX2_relate 114 = .ok (.iadd, 1) := by decide +kernel
theorem dX2_relate_115 : decode cX2_relate 115 = .ok (.iastore, 1) := by decide +kernel
theorem dX2_relate_116 : decode cX2_relate 116 = .ok (.iinc 6 1, 3) := by decide +kernel
theorem dX2_relate_119 : decode cX2_relate 119 = .ok (.goto (-47), 3) := by decide +kernel
theorem dX2_relate_122 : decode cX2_relate 122 = .ok (.iconst 1, 1) := by decide +kernel
theorem dX2_relate_123 : decode cX2_relate 123 = .ok (.ireturn, 1) := by decide +kernel
theorem dX2_store_0 : decode cX2_store 0 = .ok (.aload_n 0, 1) := by decide +kernel
theorem dX2_store_1 : decode cX2_store 1 = .ok (.getfield 11, 3) := by decide +kernel
theorem dX2_store_4 : decode cX2_store 4 = .ok (.iconst 0, 1) := by decide +kernel
theorem dX2_store_5 : decode cX2_store 5 = .ok (.aload_n 0, 1) := by decide +kernel
theorem dX2_store_6 : decode cX2_store 6 = .ok (.getfield 17, 3) := by decide +kernel
theorem dX2_store_9 : decode cX2_store 9 = .ok (.iconst 0, 1) := by decide +kernel
theorem dX2_store_10 : decode cX2_store 10 = .ok (.bipush 40, 2) := by decide +kernel
theorem dX2_store_12 : decode cX2_store 12 = .ok (.invokestatic 67, 3) := by decide +kernel
theorem dX2_store_15 : decode cX2_store 15 = .ok (.return_, 1) := by decide +kernel
theorem dX2_restore_0 : decode cX2_restore 0 = .ok (.aload_n 0, 1) := by decide +kernel
theorem dX2_restore_1 : decode cX2_restore 1 = .ok (.getfield 17, 3) := by decide +kernel
theorem dX2_restore_4 : decode cX2_restore 4 = .ok (.iconst 0, 1) := by decide +kernel
theorem dX2_restore_5 : decode cX2_restore 5 = .ok (.aload_n 0, 1) := by decide +kernel
theorem dX2_restore_6 : decode cX2_restore 6 = .ok (.getfield 11, 3) := by decide +kernel
theorem dX2_restore_9 : decode cX2_restore 9 = .ok (.iconst 0, 1) := by decide +kernel
theorem dX2_restore_10 : decode cX2_restore 10 = .ok (.bipush 40, 2) := by decide +kernel
theorem dX2_restore_12 : decode cX2_restore 12 = .ok (.invokestatic 67, 3) := by decide +kernel
theorem dX2_restore_15 : decode cX2_restore 15 = .ok (.return_, 1) := by decide +kernel
theorem dX3_init_0 : decode cX3_init 0 = .ok (.aload_n 0, 1) := by decide +kernel
theorem dX3_init_1 : decode cX3_init 1 = .ok (.invokespecial 1, 3) := by decide +kernel
theorem dX3_init_4 : decode cX3_init 4 = .ok (.aload_n 0, 1) := by decide +kernel
theorem dX3_init_5 : decode cX3_init 5 = .ok (.bipush 14, 2) := by decide +kernel
theorem dX3_init_7 : decode cX3_init 7 = .ok (.newarray .int, 2) := by decide +kernel
theorem dX3_init_9 : decode cX3_init 9 = .ok (.putfield 9, 3) := by decide +kernel
theorem dX3_init_12 : decode cX3_init 12 = .ok (.aload_n 0, 1) := by decide +kernel
theorem dX3_init_13 : decode cX3_init 13 = .ok (.bipush 14, 2) := by decide +kernel
theorem dX3_init_15 : decode cX3_init 15 = .ok (.newarray .int, 2) := by decide +kernel
theorem dX3_init_17 : decode cX3_init 17 = .ok (.putfield 13, 3) := by decide +kernel
theorem dX3_init_20 : decode cX3_init 20 = .ok (.aload_n 0, 1) := by decide +kernel
theorem dX3_init_21 : decode cX3_init 21 = .ok (.bipush 14, 2) := by decide +kernel
theorem dX3_init_23 : decode cX3_init 23 = .ok (.newarray .int, 2) := by decide +kernel
theorem dX3_init_25 : decode cX3_init 25 = .ok (.putfield 16, 3) := by decide +kernel
theorem dX3_init_28 : decode cX3_init 28 = .ok (.aload_n 0, 1) := by decide +kernel
theorem dX3_init_29 : decode cX3_init 29 = .ok (.bipush 14, 2) := by decide +kernel
theorem dX3_init_31 : decode cX3_init 31 = .ok (.newarray .int, 2) := by decide +kernel
theorem dX3_init_33 : decode cX3_init 33 = .ok (.putfield 19, 3) := by decide +kernel
theorem dX3_init_36 : decode cX3_init 36 = .ok (.aload_n 0, 1) := by decide +kernel
theorem dX3_init_37 : decode cX3_init 37 = .ok (.sipush 200, 3) := by decide +kernel
theorem dX3_init_40 : decode cX3_init 40 = .ok (.newarray .int, 2) := by decide +kernel
theorem dX3_init_42 : decode cX3_init 42 = .ok (.putfield 22, 3) := by decide +kernel
theorem dX3_init_45 : decode cX3_init 45 = .ok (.aload_n 0, 1) := by decide +kernel
theorem dX3_init_46 : decode cX3_init 46 = .ok (.sipush 200, 3) := by decide +kernel
theorem dX3_init_49 : decode cX3_init 49 = .ok (.newarray .int, 2) := by decide +kernel
theorem dX3_init_51 : decode cX3_init 51 = .ok (.putfield 25, 3) := by decide +kernel
theorem dX3_init_54 : decode cX3_init 54 = .ok (.aload_n 0, 1) := by decide +kernel
theorem dX3_init_55 : decode cX3_init 55 = .ok (.bipush 40, 2) := by decide +kernel
theorem dX3_init_57 : decode cX3_init 57 = .ok (.newarray .int, 2) := by decide +kernel
theorem dX3_init_59 : decode cX3_init 59 = .ok (.putfield 28, 3) := by decide +kernel
theorem dX3_init_62 : decode cX3_init 62 = .ok (.return_, 1) := by decide +kernel
theorem dX3_number_0 : decode cX3_number 0 = .ok (.aload_n 0, 1) := by decide +kernel
theorem dX3_number_1 : decode cX3_number 1 = .ok (.getfield 31, 3) := by decide +kernel
theorem dX3_number_4 : decode cX3_number 4 = .ok (.ireturn, 1) := by decide +kernel
theorem dX3_isFull_0 : decode cX3_isFull 0 = .ok (.aload_n 0, 1) := by decide +kernel
theorem dX3_isFull_1 : decode cX3_isFull 1 = .ok (.getfield 31, 3) := by decide +kernel
theorem dX3_isFull_4 : decode cX3_isFull 4 = .ok (.bipush 14, 2) := by decide +kernel
theorem dX3_isFull_6 : decode cX3_isFull 6 = .ok (.if_icmp .lt 7, 3) := by decide +kernel
theorem dX3_isFull_9 : decode cX3_isFull 9 = .ok (.iconst 1, 1) := by decide +kernel
theorem dX3_isFull_10 : decode cX3_isFull 10 = .ok (.goto 4, 3) := by decide +kernel
theorem dX3_isFull_13 : decode cX3_isFull 13 = .ok (.iconst 0, 1) := by decide +kernel
theorem dX3_isFull_14 : decode cX3_isFull 14 = .ok (.ireturn, 1) := by decide +kernel
theorem dX3_clear_0 : decode cX3_clear 0 = .ok (.aload_n 0, 1) := by decide +kernel
theorem dX3_clear_1 : decode cX3_clear 1 = .ok (.iconst 0, 1) := by decide +kernel
theorem dX3_clear_2 : decode cX3_clear 2 = .ok (.putfield 31, 3) := by decide +kernel
theorem dX3_clear_5 : decode cX3_clear 5 = .ok (.aload_n 0, 1) := by decide +kernel
theorem dX3_clear_6 : decode cX3_clear 6 = .ok (.iconst 0, 1) := by decide +kernel
theorem dX3_clear_7 : decode cX3_clear 7 = .ok (.putfield 35, 3) := by decide +kernel
theorem dX3_clear_10 : decode cX3_clear 10 = .ok (.return_, 1) := by decide +kernel
theorem dX3_begin_0 : decode cX3_begin 0 = .ok (.aload_n 0, 1) := by decide +kernel
theorem dX3_begin_1 : decode cX3_begin 1 = .ok (.invokevirtual 38, 3) := by decide +kernel
theorem dX3_begin_4 : decode cX3_begin 4 = .ok (.ifCond .ne 26, 3) := by decide +kernel
theorem dX3_begin_7 : decode cX3_begin 7 = .ok (.aload_n 0, 1) := by decide +kernel
theorem dX3_begin_8 : decode cX3_begin 8 = .ok (.getfield 9, 3) := by decide +kernel
theorem dX3_begin_11 : decode cX3_begin 11 = .ok (.aload_n 0, 1) := by decide +kernel
theorem dX3_begin_12 : decode cX3_begin 12 = .ok (.getfield 31, 3) := by decide +kernel
theorem dX3_begin_15 : decode cX3_begin 15 = .ok (.iload_n 1, 1) := by decide +kernel
theorem dX3_begin_16 : decode cX3_begin 16 = .ok (.iastore, 1) := by decide +kernel
theorem dX3_begin_17 : decode cX3_begin 17 = .ok (.aload_n 0, 1) := by decide +kernel
theorem dX3_begin_18 : decode cX3_begin 18 = .ok (.getfield 13, 3) := by decide +kernel
theorem dX3_begin_21 : decode cX3_begin 21 = .ok (.aload_n 0, 1) := by decide +kernel
theorem dX3_begin_22 : decode cX3_begin 22 = .ok (.getfield 31, 3) := by decide +kernel
theorem dX3_begin_25 : decode cX3_begin 25 = .ok (.aload_n 0, 1) := by decide +kernel
theorem dX3_begin_26 : decode cX3_begin 26 = .ok (.getfield 35, 3) := by decide +kernel
theorem dX3_begin_29 : decode cX3_begin 29 = .ok (.iastore, 1) := by decide +kernel
theorem dX3_begin_30 : decode cX3_begin 30 = .ok (.return_, 1) := by decide +kernel
theorem dX3_beginCondition_0 : decode cX3_beginCondition 0 = .ok (.aload_n 0, 1) := by decide +kernel
theorem dX3_beginCondition_1 : decode cX3_beginCondition 1 = .ok (.invokevirtual 38, 3) := by decide +kernel
theorem dX3_beginCondition_4 : decode cX3_beginCondition 4 = .ok (.ifCond .ne 16, 3) := by decide +kernel
theorem dX3_beginCondition_7 : decode cX3_beginCondition 7 = .ok (.aload_n 0, 1) := by decide +kernel
theorem dX3_beginCondition_8 : decode cX3_beginCondition 8 = .ok (.getfield 16, 3) := by decide +kernel
theorem dX3_beginCondition_11 : decode cX3_beginCondition 11 = .ok (.aload_n 0, 1) := by decide +kernel
theorem dX3_beginCondition_12 : decode cX3_beginCondition 12 = .ok (.getfield 31, 3) := by decide +kernel
theorem dX3_beginCondition_15 : decode cX3_beginCondition 15 = .ok (.aload_n 0, 1) := by decide +kernel
theorem dX3_beginCondition_16 : decode cX3_beginCondition 16 = .ok (.getfield 35, 3) := by decide +kernel
theorem dX3_beginCondition_19 : decode cX3_beginCondition 19 = .ok (.iastore, 1) := by decide +kernel
theorem dX3_beginCondition_20 : decode cX3_beginCondition 20 = .ok (.return_, 1) := by decide +kernel
theorem dX3_end_0 : decode cX3_end 0 = .ok (.aload_n 0, 1) := by decide +kernel
theorem dX3_end_1 : decode cX3_end 1 = .ok (.invokevirtual 38, 3) := by decide +kernel
theorem dX3_end_4 : decode cX3_end 4 = .ok (.ifCond .ne 26, 3) := by decide +kernel
theorem dX3_end_7 : decode cX3_end 7 = .ok (.aload_n 0, 1) := by decide +kernel
theorem dX3_end_8 : decode cX3_end 8 = .ok (.getfield 19, 3) := by decide +kernel
theorem dX3_end_11 : decode cX3_end 11 = .ok (.aload_n 0, 1) := by decide +kernel
theorem dX3_end_12 : decode cX3_end 12 = .ok (.getfield 31, 3) := by decide +kernel
theorem dX3_end_15 : decode cX3_end 15 = .ok (.aload_n 0, 1) := by decide +kernel
theorem dX3_end_16 : decode cX3_end 16 = .ok (.getfield 35, 3) := by decide +kernel
theorem dX3_end_19 : decode cX3_end 19 = .ok (.iastore, 1) := by decide +kernel
theorem dX3_end_20 : decode cX3_end 20 = .ok (.aload_n 0, 1) := by decide +kernel
theorem dX3_end_21 : decode cX3_end 21 = .ok (.dup, 1) := by decide +kernel
theorem dX3_end_22 : decode cX3_end 22 = .ok (.getfield 31, 3) := by decide +kernel
theorem dX3_end_25 : decode cX3_end 25 = .ok (.iconst 1, 1) := by decide +kernel
theorem dX3_end_26 : decode cX3_end 26 = .ok (.iadd, 1) := by decide +kernel
theorem dX3_end_27 : decode cX3_end 27 = .ok (.putfield 31, 3) := by decide +kernel
theorem dX3_end_30 : decode cX3_end 30 = .ok (.return_, 1) := by decide +kernel
theorem dX3_add_0 : decode cX3_add 0 = .ok (.aload_n 0, 1) := by decide +kernel
theorem dX3_add_1 : decode cX3_add 1 = .ok (.getfield 35, 3) := by decide +kernel
theorem dX3_add_4 : decode cX3_add 4 = .ok (.sipush 200, 3) := by decide +kernel
theorem dX3_add_7 : decode cX3_add 7 = .ok (.if_icmp .ge 33, 3) := by decide +kernel
theorem dX3_add_10 : decode cX3_add 10 = .ok (.aload_n 0, 1) := by decide +kernel
theorem dX3_add_11 : decode cX3_add 11 = .ok (.getfield 22, 3) := by decide +kernel
theorem dX3_add_14 : decode cX3_add 14 = .ok (.aload_n 0, 1) := by decide +kernel
theorem dX3_add_15 : decode cX3_add 15 = .ok (.getfield 35, 3) := by decide +kernel
theorem dX3_add_18 : decode cX3_add 18 = .ok (.iload_n 1, 1) := by decide +kernel
theorem dX3_add_19 : decode cX3_add 19 = .ok (.iastore, 1) := by decide +kernel
theorem dX3_add_20 : decode cX3_add 20 = .ok (.aload_n 0, 1) := by decide +kernel
theorem dX3_add_21 : decode cX3_add 21 = .ok (.getfield 25, 3) := by decide +kernel
theorem dX3_add_24 : decode cX3_add 24 = .ok (.aload_n 0, 1) := by decide +kernel
theorem dX3_add_25 : decode cX3_add 25 = .ok (.getfield 35, 3) := by decide +kernel
theorem dX3_add_28 : decode cX3_add 28 = .ok (.iload_n 2, 1) := by decide +kernel
theorem dX3_add_29 : decode cX3_add 29 = .ok (.iastore, 1) := by decide +kernel
theorem dX3_add_30 : decode cX3_add 30 = .ok (.aload_n 0, 1) := by decide +kernel
theorem dX3_add_31 : decode cX3_add 31 = .ok (.dup, 1) := by decide +kernel
theorem dX3_add_32 : decode cX3_add 32 = .ok (.getfield 35, 3) := by decide +kernel
theorem dX3_add_35 : decode cX3_add 35 = .ok (.iconst 1, 1) := by decide +kernel
theorem dX3_add_36 : decode cX3_add 36 = .ok (.iadd, 1) := by decide +kernel
theorem dX3_add_37 : decode cX3_add 37 = .ok (.putfield 35, 3) := by decide +kernel
theorem dX3_add_40 : decode cX3_add 40 = .ok (.aload_n 0, 1) := by decide +kernel
theorem dX3_add_41 : decode cX3_add 41 = .ok (.getfield 35, 3) := by decide +kernel
theorem dX3_add_44 : decode cX3_add 44 = .ok (.iconst 1, 1) := by decide +kernel
theorem dX3_add_45 : decode cX3_add 45 = .ok (.isub, 1) := by decide +kernel
theorem dX3_add_46 : decode cX3_add 46 = .ok (.ireturn, 1) := by decide +kernel
theorem dX3_land_0 : decode cX3_land 0 = .ok (.iload_n 1, 1) := by decide +kernel
theorem dX3_land_1 : decode cX3_land 1 = .ok (.ifCond .lt 21, 3) := by decide +kernel
theorem dX3_land_4 : decode cX3_land 4 = .ok (.iload_n 1, 1) := by decide +kernel
theorem dX3_land_5 : decode cX3_land 5 = .ok (.aload_n 0, 1) := by decide +kernel
theorem dX3_land_6 : decode cX3_land 6 = .ok (.getfield 35, 3) := by decide +kernel
theorem dX3_land_9 : decode cX3_land 9 = .ok (.if_icmp .ge 13, 3) := by decide +kernel
theorem dX3_land_12 : decode cX3_land 12 = .ok (.aload_n 0, 1) := by decide +kernel
theorem dX3_land_13 : decode cX3_land 13 = .ok (.getfield 25, 3) := by decide +kernel
theorem dX3_land_16 : decode cX3_land 16 = .ok (.iload_n 1, 1) := by decide +kernel
theorem dX3_land_17 : decode cX3_land 17 = .ok (.aload_n 0, 1) := by decide +kernel
theorem dX3_land_18 : decode cX3_land 18 = .ok (.getfield 35, 3) := by decide +kernel
theorem dX3_land_21 : decode cX3_land 21 = .ok (.iastore, 1) := by decide +kernel
theorem dX3_land_22 : decode cX3_land 22 = .ok (.return_, 1) := by decide +kernel
theorem dX3_permits_0 : decode cX3_permits 0 = .ok (.iconst 0, 1) := by decide +kernel
theorem dX3_permits_1 : decode cX3_permits 1 = .ok (.istore_n 2, 1) := by decide +kernel
theorem dX3_permits_2 : decode cX3_permits 2 = .ok (.iconst 0, 1) := by decide +kernel
theorem dX3_permits_3 : decode cX3_permits 3 = .ok (.istore_n 3, 1) := by decide +kernel
theorem dX3_permits_4 : decode cX3_permits 4 = .ok (.iload_n 3, 1) := by decide +kernel
theorem dX3_permits_5 : decode cX3_permits 5 = .ok (.aload_n 0, 1) := by decide +kernel
theorem dX3_permits_6 : decode cX3_permits 6 = .ok (.getfield 31, 3) := by decide +kernel
theorem dX3_permits_9 : decode cX3_permits 9 = .ok (.if_icmp .ge 50, 3) := by decide +kernel
theorem dX3_permits_12 : decode cX3_permits 12 = .ok (.iload_n 3, 1) := by decide +kernel
theorem dX3_permits_13 : decode cX3_permits 13 = .ok (.bipush 14, 2) := by decide +kernel
theorem dX3_permits_15 : decode cX3_permits 15 = .ok (.if_icmp .ge 44, 3) := by decide +kernel
theorem dX3_permits_18 : decode cX3_permits 18 = .ok (.aload_n 0, 1) := by decide +kernel
theorem dX3_permits_19 : decode cX3_permits 19 = .ok (.getfield 9, 3) := by decide +kernel
theorem dX3_permits_22 : decode cX3_permits 22 = .ok (.iload_n 3, 1) := by decide +kernel
theorem dX3_permits_23 : decode cX3_permits 23 = .ok (.iaload, 1) := by decide +kernel
theorem dX3_permits_24 : decode cX3_permits 24 = .ok (.bipush 112, 2) := by decide +kernel
theorem dX3_permits_26 : decode cX3_permits 26 = .ok (.if_icmp .ne 27, 3) := by decide +kernel
theorem dX3_permits_29 : decode cX3_permits 29 = .ok (.iconst 1, 1) := by decide +kernel
theorem dX3_permits_30 : decode cX3_permits 30 = .ok (.istore_n 2, 1) := by decide +kernel
theorem dX3_permits_31 : decode cX3_permits 31 = .ok (.aload_n 0, 1) := by decide +kernel
theorem dX3_permits_32 : decode cX3_permits 32 = .ok (.aload_n 0, 1) := by decide +kernel
theorem dX3_permits_33 : decode cX3_permits 33 = .ok (.getfield 16, 3) := by decide +kernel
theorem dX3_permits_36 : decode cX3_permits 36 = .ok (.iload_n 3, 1) := by decide +kernel
theorem dX3_permits_37 : decode cX3_permits 37 = .ok (.iaload, 1) := by decide +kernel
theorem dX3_permits_38 : decode cX3_permits 38 = .ok (.aload_n 0, 1) := by decide +kernel
theorem dX3_permits_39 : decode cX3_permits 39 = .ok (.getfield 19, 3) := by decide +kernel
theorem dX3_permits_42 : decode cX3_permits 42 = .ok (.iload_n 3, 1) := by decide +kernel
theorem dX3_permits_43 : decode cX3_permits 43 = .ok (.iaload, 1) := by decide +kernel
theorem dX3_permits_44 : decode cX3_permits 44 = .ok (.aload_n 1, 1) := by decide +kernel
theorem dX3_permits_45 : decode cX3_permits 45 = .ok (.invokevirtual 42, 3) := by decide +kernel
theorem dX3_permits_48 : decode cX3_permits 48 = .ok (.ifCond .eq 5, 3) := by decide +kernel
theorem dX3_permits_51 : decode cX3_permits 51 = .ok (.iconst 1, 1) := by decide +kernel
theorem dX3_permits_52 : decode cX3_permits 52 = .ok (.ireturn, 1) := by decide +kernel
theorem dX3_permits_53 : decode cX3_permits 53 = .ok (.iinc 3 1, 3) := by decide +kernel
theorem dX3_permits_56 : decode cX3_permits 56 = .ok (.goto (-52), 3) := by decide +kernel
theorem dX3_permits_59 : decode cX3_permits 59 = .ok (.iload_n 2, 1) := by decide +kernel
theorem dX3_permits_60 : decode cX3_permits 60 = .ok (.ifCond .ne 7, 3) := by decide +kernel
theorem dX3_permits_63 : decode cX3_permits 63 = .ok (.iconst 1, 1) := by decide +kernel
theorem dX3_permits_64 : decode cX3_permits 64 = .ok (.goto 4, 3) := by decide +kernel
theorem dX3_permits_67 : decode cX3_permits 67 = .ok (.iconst 0, 1) := by decide +kernel
theorem dX3_permits_68 : decode cX3_permits 68 = .ok (.ireturn, 1) := by decide +kernel
theorem dX3_amount_0 : decode cX3_amount 0 = .ok (.iconst 0, 1) := by decide +kernel
theorem dX3_amount_1 : decode cX3_amount 1 = .ok (.istore 5, 2) := by decide +kernel
theorem dX3_amount_3 : decode cX3_amount 3 = .ok (.iload 5, 2) := by decide +kernel
theorem dX3_amount_5 : decode cX3_amount 5 = .ok (.aload_n 0, 1) := by decide +kernel
theorem dX3_amount_6 : decode cX3_amount 6 = .ok (.getfield 31, 3) := by decide +kernel
theorem dX3_amount_9 : decode cX3_amount 9 = .ok (.if_icmp .ge 78, 3) := by decide +kernel
theorem dX3_amount_12 : decode cX3_amount 12 = .ok (.iload 5, 2) := by decide +kernel
theorem dX3_amount_14 : decode cX3_amount 14 = .ok (.bipush 14, 2) := by decide +kernel
theorem dX3_amount_16 : decode cX3_amount 16 = .ok (.if_icmp .ge 71, 3) := by decide +kernel
theorem dX3_amount_19 : decode cX3_amount 19 = .ok (.aload_n 0, 1) := by decide +kernel
theorem dX3_amount_20 : decode cX3_amount 20 = .ok (.getfield 9, 3) := by decide +kernel
theorem dX3_amount_23 : decode cX3_amount 23 = .ok (.iload 5, 2) := by decide +kernel
theorem dX3_amount_25 : decode cX3_amount 25 = .ok (.iaload, 1) := by decide +kernel
theorem dX3_amount_26 : decode cX3_amount 26 = .ok (.iload_n 1, 1) := by decide +kernel
theorem dX3_amount_27 : decode cX3_amount 27 = .ok (.if_icmp .ne 54, 3) := by decide +kernel
theorem dX3_amount_30 : decode cX3_amount 30 = .ok (.aload_n 0, 1) := by decide +kernel
theorem dX3_amount_31 : decode cX3_amount 31 = .ok (.aload_n 0, 1) := by decide +kernel
theorem dX3_amount_32 : decode cX3_amount 32 = .ok (.getfield 16, 3) := by decide +kernel
theorem dX3_amount_35 : decode cX3_amount 35 = .ok (.iload 5, 2) := by decide +kernel
theorem dX3_amount_37 : decode cX3_amount 37 = .ok (.iaload, 1) := by decide +kernel
theorem dX3_amount_38 : decode cX3_amount 38 = .ok (.aload_n 0, 1) := by decide +kernel
theorem dX3_amount_39 : decode cX3_amount 39 = .ok (.getfield 19, 3) := by decide +kernel
theorem dX3_amount_42 : decode cX3_amount 42 = .ok (.iload 5, 2) := by decide +kernel
theorem dX3_amount_44 : decode cX3_amount 44 = .ok (.iaload, 1) := by decide +kernel
theorem dX3_amount_45 : decode cX3_amount 45 = .ok (.aload_n 2, 1) := by decide +kernel
theorem dX3_amount_46 : decode cX3_amount 46 = .ok (.invokevirtual 42, 3) := by decide +kernel
theorem dX3_amount_49 : decode cX3_amount 49 = .ok (.ifCond .eq 32, 3) := by decide +kernel
theorem dX3_amount_52 : decode cX3_amount 52 = .ok (.iload_n 3, 1) := by decide +kernel
theorem dX3_amount_53 : decode cX3_amount 53 = .ok (.iload 4, 2) := by decide +kernel
theorem dX3_amount_55 : decode cX3_amount 55 = .ok (.aload_n 0, 1) := by decide +kernel
theorem dX3_amount_56 : decode cX3_amount 56 = .ok (.aload_n 0, 1) := by decide +kernel
theorem dX3_amount_57 : decode cX3_amount 57 = .ok (.getfield 13, 3) := by decide +kernel
theorem dX3_amount_60 : decode cX3_amount 60 = .ok (.iload 5, 2) := by decide +kernel
theorem dX3_amount_62 : decode cX3_amount 62 = .ok (.iaload, 1) := by decide +kernel
theorem dX3_amount_63 : decode cX3_amount 63 = .ok (.aload_n 0, 1) := by decide +kernel
theorem dX3_amount_64 : decode cX3_amount 64 = .ok (.getfield 16, 3) := by decide +kernel
theorem dX3_amount_67 : decode cX3_amount 67 = .ok (.iload 5, 2) := by decide +kernel
theorem dX3_amount_69 : decode cX3_amount 69 = .ok (.iaload, 1) := by decide +kernel
theorem dX3_amount_70 : decode cX3_amount 70 = .ok (.aload_n 2, 1) := by decide +kernel
theorem dX3_amount_71 : decode cX3_amount 71 = .ok (.invokevirtual 42, 3) := by decide +kernel
theorem dX3_amount_74 : decode cX3_amount 74 = .ok (.invokestatic 46, 3) := by decide +kernel
theorem dX3_amount_77 : decode cX3_amount 77 = .ok (.invokestatic 52, 3) := by decide +kernel
theorem dX3_amount_80 : decode cX3_amount 80 = .ok (.ireturn, 1) := by decide +kernel
theorem dX3_amount_81 : decode cX3_amount 81 = .ok (.iinc 5 1, 3) := by decide +kernel
theorem dX3_amount_84 : decode cX3_amount 84 = .ok (.goto (-81), 3) := by decide +kernel
theorem dX3_amount_87 : decode cX3_amount 87 = .ok (.iconst 0, 1) := by decide +kernel
theorem dX3_amount_88 : decode cX3_amount 88 = .ok (.ireturn, 1) := by decide +kernel
theorem dX3_reckon_0 : decode cX3_reckon 0 = .ok (.iconst 0, 1) := by decide +kernel
theorem dX3_reckon_1 : decode cX3_reckon 1 = .ok (.istore 4, 2) := by decide +kernel
theorem dX3_reckon_3 : decode cX3_reckon 3 = .ok (.iload_n 1, 1) := by decide +kernel
theorem dX3_reckon_4 : decode cX3_reckon 4 = .ok (.istore 5, 2) := by decide +kernel
theorem dX3_reckon_6 : decode cX3_reckon 6 = .ok (.iconst 0, 1) := by decide +kernel
theorem dX3_reckon_7 : decode cX3_reckon 7 = .ok (.istore 6, 2) := by decide +kernel
theorem dX3_reckon_9 : decode cX3_reckon 9 = .ok (.iload 6, 2) := by decide +kernel
theorem dX3_reckon_11 : decode cX3_reckon 11 = .ok (.sipush 200, 3) := by decide +kernel
theorem dX3_reckon_14 : decode cX3_reckon 14 = .ok (.if_icmp .ge 281, 3) := by decide +kernel
theorem dX3_reckon_17 : decode cX3_reckon 17 = .ok (.iload 5, 2) := by decide +kernel
theorem dX3_reckon_19 : decode cX3_reckon 19 = .ok (.ifCond .lt 276, 3) := by decide +kernel
theorem dX3_reckon_22 : decode cX3_reckon 22 = .ok (.iload 5, 2) := by decide +kernel
theorem dX3_reckon_24 : decode cX3_reckon 24 = .ok (.iload_n 2, 1) := by decide +kernel
theorem dX3_reckon_25 : decode cX3_reckon 25 = .ok (.if_icmp .ge 270, 3) := by decide +kernel
theorem dX3_reckon_28 : decode cX3_reckon 28 = .ok (.iload 5, 2) := by decide +kernel
theorem dX3_reckon_30 : decode cX3_reckon 30 = .ok (.sipush 200, 3) := by decide +kernel
theorem dX3_reckon_33 : decode cX3_reckon 33 = .ok (.if_icmp .ge 262, 3) := by decide +kernel
theorem dX3_reckon_36 : decode cX3_reckon 36 = .ok (.aload_n 0, 1) := by decide +kernel
theorem dX3_reckon_37 : decode cX3_reckon 37 = .ok (.getfield 22, 3) := by decide +kernel
theorem dX3_reckon_40 : decode cX3_reckon 40 = .ok (.iload 5, 2) := by decide +kernel
theorem dX3_reckon_42 : decode cX3_reckon 42 = .ok (.iaload, 1) := by decide +kernel
theorem dX3_reckon_43 : decode cX3_reckon 43 = .ok (.istore 7, 2) := by decide +kernel
theorem dX3_reckon_45 : decode cX3_reckon 45 = .ok (.aload_n 0, 1) := by decide +kernel
theorem dX3_reckon_46 : decode cX3_reckon 46 = .ok (.getfield 25, 3) := by decide +kernel
theorem dX3_reckon_49 : decode cX3_reckon 49 = .ok (.iload 5, 2) := by decide +kernel
theorem dX3_reckon_51 : decode cX3_reckon 51 = .ok (.iaload, 1) := by decide +kernel
theorem dX3_reckon_52 : decode cX3_reckon 52 = .ok (.istore 8, 2) := by decide +kernel
theorem dX3_reckon_54 : decode cX3_reckon 54 = .ok (.iinc 5 1, 3) := by decide +kernel
theorem dX3_reckon_57 : decode cX3_reckon 57 = .ok (.iload 4, 2) := by decide +kernel
theorem dX3_reckon_59 : decode cX3_reckon 59 = .ok (.iload 7, 2) := by decide +kernel
theorem dX3_reckon_61 : decode cX3_reckon 61 = .ok (.invokestatic 55, 3) := by decide +kernel
theorem dX3_reckon_64 : decode cX3_reckon 64 = .ok (.if_icmp .lt 10, 3) := by decide +kernel
theorem dX3_reckon_67 : decode cX3_reckon 67 = .ok (.iload 4, 2) := by decide +kernel
theorem dX3_reckon_69 : decode cX3_reckon 69 = .ok (.bipush 40, 2) := by decide +kernel
theorem dX3_reckon_71 : decode cX3_reckon 71 = .ok (.if_icmp .lt 5, 3) := by decide +kernel
theorem dX3_reckon_74 : decode cX3_reckon 74 = .ok (.iconst 0, 1) := by decide +kernel
theorem dX3_reckon_75 : decode cX3_reckon 75 = .ok (.ireturn, 1) := by decide +kernel
theorem dX3_reckon_76 : decode cX3_reckon 76 = .ok (.iload 7, 2) := by decide +kernel
theorem dX3_reckon_78 : decode cX3_reckon 78 = .ok (.iconst 1, 1) := by decide +kernel
theorem dX3_reckon_79 : decode cX3_reckon 79 = .ok (.if_icmp .ne 18, 3) := by decide +kernel
theorem dX3_reckon_82 : decode cX3_reckon 82 = .ok (.aload_n 0, 1) := by decide +kernel
theorem dX3_reckon_83 : decode cX3_reckon 83 = .ok (.getfield 28, 3) := by decide +kernel
theorem dX3_reckon_86 : decode cX3_reckon 86 = .ok (.iload 4, 2) := by decide +kernel
theorem dX3_reckon_88 : decode cX3_reckon 88 = .ok (.iinc 4 1, 3) := by decide +kernel
theorem dX3_reckon_91 : decode cX3_reckon 91 = .ok (.iload 8, 2) := by decide +kernel
theorem dX3_reckon_93 : decode cX3_reckon 93 = .ok (.iastore, 1) := by decide +kernel
theorem dX3_reckon_94 : decode cX3_reckon 94 = .ok (.goto 195, 3) := by decide +kernel
theorem dX3_reckon_97 : decode cX3_reckon 97 = .ok (.iload 7, 2) := by decide +kernel
theorem dX3_reckon_99 : decode cX3_reckon 99 = .ok (.iconst 2, 1) := by decide +kernel
theorem dX3_reckon_100 : decode cX3_reckon 100 = .ok (.if_icmp .ne 36, 3) := by decide +kernel
theorem dX3_reckon_103 : decode cX3_reckon 103 = .ok (.aload_n 0, 1) := by decide +kernel
theorem dX3_reckon_104 : decode cX3_reckon 104 = .ok (.getfield 28, 3) := by decide +kernel
theorem dX3_reckon_107 : decode cX3_reckon 107 = .ok (.iload 4, 2) := by decide +kernel
theorem dX3_reckon_109 : decode cX3_reckon 109 = .ok (.iinc 4 1, 3) := by decide +kernel
theorem dX3_reckon_112 : decode cX3_reckon 112 = .ok (.iload 8, 2) := by decide +kernel
theorem dX3_reckon_114 : decode cX3_reckon 114 = .ok (.ifCond .lt 17, 3) := by decide +kernel
theorem dX3_reckon_117 : decode cX3_reckon 117 = .ok (.iload 8, 2) := by decide +kernel
theorem dX3_reckon_119 : decode cX3_reckon 119 = .ok (.aload_n 3, 1) := by decide +kernel
theorem dX3_reckon_120 : decode cX3_reckon 120 = .ok (.arraylength, 1) := by decide +kernel
theorem dX3_reckon_121 : decode cX3_reckon 121 = .ok (.if_icmp .ge 10, 3) := by decide +kernel
theorem dX3_reckon_124 : decode cX3_reckon 124 = .ok (.aload_n 3, 1) := by decide +kernel
theorem dX3_reckon_125 : decode cX3_reckon 125 = .ok (.iload 8, 2) := by decide +kernel
theorem dX3_reckon_127 : decode cX3_reckon 127 = .ok (.iaload, 1) := by decide +kernel
theorem dX3_reckon_128 : decode cX3_reckon 128 = .ok (.goto 4, 3) := by decide +kernel
theorem dX3_reckon_131 : decode cX3_reckon 131 = .ok (.iconst 0, 1) := by decide +kernel
theorem dX3_reckon_132 : decode cX3_reckon 132 = .ok (.iastore, 1) := by decide +kernel
theorem dX3_reckon_133 : decode cX3_reckon 133 = .ok (.goto 156, 3) := by decide +kernel
theorem dX3_reckon_136 : decode cX3_reckon 136 = .ok (.iload 7, 2) := by decide +kernel
theorem dX3_reckon_138 : decode cX3_reckon 138 = .ok (.bipush 33, 2) := by decide +kernel
theorem dX3_reckon_140 : decode cX3_reckon 140 = .ok (.if_icmp .ne 26, 3) := by decide +kernel
theorem dX3_reckon_143 : decode cX3_reckon 143 = .ok (.aload_n 0, 1) := by decide +kernel
theorem dX3_reckon_144 : decode cX3_reckon 144 = .ok (.getfield 28, 3) := by decide +kernel
theorem dX3_reckon_147 : decode cX3_reckon 147 = .ok (.iload 4, 2) := by decide +kernel
theorem dX3_reckon_149 : decode cX3_reckon 149 = .ok (.iconst 1, 1) := by decide +kernel
theorem dX3_reckon_150 : decode cX3_reckon 150 = .ok (.isub, 1) := by decide +kernel
theorem dX3_reckon_151 : decode cX3_reckon 151 = .ok (.iconst 1, 1) := by decide +kernel
theorem dX3_reckon_152 : decode cX3_reckon 152 = .ok (.aload_n 0, 1) := by decide +kernel
theorem dX3_reckon_153 : decode cX3_reckon 153 = .ok (.getfield 28, 3) := by decide +kernel
theorem dX3_reckon_156 : decode cX3_reckon 156 = .ok (.iload 4, 2) := by decide +kernel
theorem dX3_reckon_158 : decode cX3_reckon 158 = .ok (.iconst 1, 1) := by decide +kernel
theorem dX3_reckon_159 : decode cX3_reckon 159 = .ok (.isub, 1) := by decide +kernel
theorem dX3_reckon_160 : decode cX3_reckon 160 = .ok (.iaload, 1) := by decide +kernel
theorem dX3_reckon_161 : decode cX3_reckon 161 = .ok (.isub, 1) := by decide +kernel
theorem dX3_reckon_162 : decode cX3_reckon 162 = .ok (.iastore, 1) := by decide +kernel
theorem dX3_reckon_163 : decode cX3_reckon 163 = .ok (.goto 126, 3) := by decide +kernel
theorem dX3_reckon_166 : decode cX3_reckon 166 = .ok (.iload 7, 2) := by decide +kernel
theorem dX3_reckon_168 : decode cX3_reckon 168 = .ok (.bipush 38, 2) := by decide +kernel
theorem dX3_reckon_170 : decode cX3_reckon 170 = .ok (.if_icmp .eq 10, 3) := by decide +kernel
theorem dX3_reckon_173 : decode cX3_reckon 173 = .ok (.iload 7, 2) := by decide +kernel
theorem dX3_reckon_175 : decode cX3_reckon 175 = .ok (.bipush 124, 2) := by decide +kernel
theorem dX3_reckon_177 : decode cX3_reckon 177 = .ok (.if_icmp .ne 53, 3) := by decide +kernel
theorem dX3_reckon_180 : decode cX3_reckon 180 = .ok (.aload_n 0, 1) := by decide +kernel
theorem dX3_reckon_181 : decode cX3_reckon 181 = .ok (.getfield 28, 3) := by decide +kernel
theorem dX3_reckon_184 : decode cX3_reckon 184 = .ok (.iload 4, 2) := by decide +kernel
theorem dX3_reckon_186 : decode cX3_reckon 186 = .ok (.iconst 1, 1) := by decide +kernel
theorem dX3_reckon_187 : decode cX3_reckon 187 = .ok (.isub, 1) := by decide +kernel
theorem dX3_reckon_188 : decode cX3_reckon 188 = .ok (.iaload, 1) := by decide +kernel
theorem dX3_reckon_189 : decode cX3_reckon 189 = .ok (.ifCond .eq 7, 3) := by decide +kernel
theorem dX3_reckon_192 : decode cX3_reckon 192 = .ok (.iconst 1, 1) := by decide +kernel
theorem dX3_reckon_193 : decode cX3_reckon 193 = .ok (.goto 4, 3) := by decide +kernel
theorem dX3_reckon_196 : decode cX3_reckon 196 = .ok (.iconst 0, 1) := by decide +kernel
theorem dX3_reckon_197 : decode cX3_reckon 197 = .ok (.iload 7, 2) := by decide +kernel
theorem dX3_reckon_199 : decode cX3_reckon 199 = .ok (.bipush 124, 2) := by decide +kernel
theorem dX3_reckon_201 : decode cX3_reckon 201 = .ok (.if_icmp .ne 7, 3) := by decide +kernel
theorem dX3_reckon_204 : decode cX3_reckon 204 = .ok (.iconst 1, 1) := by decide +kernel
theorem dX3_reckon_205 : decode cX3_reckon 205 = .ok (.goto 4, 3) := by decide +kernel
theorem dX3_reckon_208 : decode cX3_reckon 208 = .ok (.iconst 0, 1) := by decide +kernel
theorem dX3_reckon_209 : decode cX3_reckon 209 = .ok (.if_icmp .ne 15, 3) := by decide +kernel
theorem dX3_reckon_212 : decode cX3_reckon 212 = .ok (.iload 5, 2) := by decide +kernel
theorem dX3_reckon_214 : decode cX3_reckon 214 = .ok (.iload 8, 2) := by decide +kernel
theorem dX3_reckon_216 : decode cX3_reckon 216 = .ok (.invokestatic 52, 3) := by decide +kernel
theorem dX3_reckon_219 : decode cX3_reckon 219 = .ok (.istore 5, 2) := by decide +kernel
theorem dX3_reckon_221 : decode cX3_reckon 221 = .ok (.goto 68, 3) := by decide +kernel
theorem dX3_reckon_224 : decode cX3_reckon 224 = .ok (.iinc 4 (-1), 3) := by decide +kernel
theorem dX3_reckon_227 : decode cX3_reckon 227 = .ok (.goto 62, 3) := by decide +kernel
theorem dX3_reckon_230 : decode cX3_reckon 230 = .ok (.iinc 4 (-1), 3) := by decide +kernel
theorem dX3_reckon_233 : decode cX3_reckon 233 = .ok (.aload_n 0, 1) := by decide +kernel
theorem dX3_reckon_234 : decode cX3_reckon 234 = .ok (.getfield 28, 3) := by decide +kernel
theorem dX3_reckon_237 : decode cX3_reckon 237 = .ok (.iload 4, 2) := by decide +kernel
theorem dX3_reckon_239 : decode cX3_reckon 239 = .ok (.iaload, 1) := by decide +kernel
theorem dX3_reckon_240 : decode cX3_reckon 240 = .ok (.ifCond .ne 19, 3) := by decide +kernel
theorem dX3_reckon_243 : decode cX3_reckon 243 = .ok (.iload 7, 2) := by decide +kernel
theorem dX3_reckon_245 : decode cX3_reckon 245 = .ok (.bipush 47, 2) := by decide +kernel
theorem dX3_reckon_247 : decode cX3_reckon 247 = .ok (.if_icmp .eq 10, 3) := by decide +kernel
theorem dX3_reckon_250 : decode cX3_reckon 250 = .ok (.iload 7, 2) := by decide +kernel
theorem dX3_reckon_252 : decode cX3_reckon 252 = .ok (.bipush 37, 2) := by decide +kernel
theorem dX3_reckon_254 : decode cX3_reckon 254 = .ok (.if_icmp .ne 5, 3) := by decide +kernel
theorem dX3_reckon_257 : decode cX3_reckon 257 = .ok (.iconst 0, 1) := by decide +kernel
theorem dX3_reckon_258 : decode cX3_reckon 258 = .ok (.ireturn, 1) := by decide +kernel
theorem dX3_reckon_259 : decode cX3_reckon 259 = .ok (.aload_n 0, 1) := by decide +kernel
theorem dX3_reckon_260 : decode cX3_reckon 260 = .ok (.getfield 28, 3) := by decide +kernel
theorem dX3_reckon_263 : decode cX3_reckon 263 = .ok (.iload 4, 2) := by decide +kernel
theorem dX3_reckon_265 : decode cX3_reckon 265 = .ok (.iconst 1, 1) := by decide +kernel
theorem dX3_reckon_266 : decode cX3_reckon 266 = .ok (.isub, 1) := by decide +kernel
theorem dX3_reckon_267 : decode cX3_reckon 267 = .ok (.iload 7, 2) := by decide +kernel
theorem dX3_reckon_269 : decode cX3_reckon 269 = .ok (.aload_n 0, 1) := by decide +kernel
theorem dX3_reckon_270 : decode cX3_reckon 270 = .ok (.getfield 28, 3) := by decide +kernel
theorem dX3_reckon_273 : decode cX3_reckon 273 = .ok (.iload 4, 2) := by decide +kernel
theorem dX3_reckon_275 : decode cX3_reckon 275 = .ok (.iconst 1, 1) := by decide +kernel
theorem dX3_reckon_276 : decode cX3_reckon 276 = .ok (.isub, 1) := by decide +kernel
theorem dX3_reckon_277 : decode cX3_reckon 277 = .ok (.iaload, 1) := by decide +kernel
theorem dX3_reckon_278 : decode cX3_reckon 278 = .ok (.aload_n 0, 1) := by decide +kernel
theorem dX3_reckon_279 : decode cX3_reckon 279 = .ok (.getfield 28, 3) := by decide +kernel
theorem dX3_reckon_282 : decode cX3_reckon 282 = .ok (.iload 4, 2) := by decide +kernel
theorem dX3_reckon_284 : decode cX3_reckon 284 = .ok (.iaload, 1) := by decide +kernel
theorem dX3_reckon_285 : decode cX3_reckon 285 = .ok (.invokestatic 59, 3) := by decide +kernel
theorem dX3_reckon_288 : decode cX3_reckon 288 = .ok (.iastore, 1) := by decide +kernel
theorem dX3_reckon_289 : decode cX3_reckon 289 = .ok (.iinc 6 1, 3) := by decide +kernel
theorem dX3_reckon_292 : decode cX3_reckon 292 = .ok (.goto (-283), 3) := by decide +kernel
theorem dX3_reckon_295 : decode cX3_reckon 295 = .ok (.iload 4, 2) := by decide +kernel
theorem dX3_reckon_297 : decode cX3_reckon 297 = .ok (.iconst 1, 1) := by decide +kernel
theorem dX3_reckon_298 : decode cX3_reckon 298 = .ok (.if_icmp .ne 12, 3) := by decide +kernel
theorem dX3_reckon_301 : decode cX3_reckon 301 = .ok (.aload_n 0, 1) := by decide +kernel
theorem dX3_reckon_302 : decode cX3_reckon 302 = .ok (.getfield 28, 3) := by decide +kernel
theorem dX3_reckon_305 : decode cX3_reckon 305 = .ok (.iconst 0, 1) := by decide +kernel
theorem dX3_reckon_306 : decode cX3_reckon 306 = .ok (.iaload, 1) := by decide +kernel
theorem dX3_reckon_307 : decode cX3_reckon 307 = .ok (.goto 4, 3) := by decide +kernel
theorem dX3_reckon_310 : decode cX3_reckon 310 = .ok (.iconst 0, 1) := by decide +kernel
theorem dX3_reckon_311 : decode cX3_reckon 311 = .ok (.ireturn, 1) := by decide +kernel
theorem dX3_taken_0 : decode cX3_taken 0 = .ok (.iload_n 0, 1) := by decide +kernel
theorem dX3_taken_1 : decode cX3_taken 1 = .ok (.iconst 1, 1) := by decide +kernel
theorem dX3_taken_2 : decode cX3_taken 2 = .ok (.if_icmp .eq 8, 3) := by decide +kernel
theorem dX3_taken_5 : decode cX3_taken 5 = .ok (.iload_n 0, 1) := by decide +kernel
theorem dX3_taken_6 : decode cX3_taken 6 = .ok (.iconst 2, 1) := by decide +kernel
theorem dX3_taken_7 : decode cX3_taken 7 = .ok (.if_icmp .ne 5, 3) := by decide +kernel
theorem dX3_taken_10 : decode cX3_taken 10 = .ok (.iconst 0, 1) := by decide +kernel
theorem dX3_taken_11 : decode cX3_taken 11 = .ok (.ireturn, 1) := by decide +kernel
theorem dX3_taken_12 : decode cX3_taken 12 = .ok (.iload_n 0, 1) := by decide +kernel
theorem dX3_taken_13 : decode cX3_taken 13 = .ok (.bipush 33, 2) := by decide +kernel
theorem dX3_taken_15 : decode cX3_taken 15 = .ok (.if_icmp .eq 15, 3) := by decide +kernel
theorem dX3_taken_18 : decode cX3_taken 18 = .ok (.iload_n 0, 1) := by decide +kernel
theorem dX3_taken_19 : decode cX3_taken 19 = .ok (.bipush 38, 2) := by decide +kernel
theorem dX3_taken_21 : decode cX3_taken 21 = .ok (.if_icmp .eq 9, 3) := by decide +kernel
theorem dX3_taken_24 : decode cX3_taken 24 = .ok (.iload_n 0, 1) := by decide +kernel
theorem dX3_taken_25 : decode cX3_taken 25 = .ok (.bipush 124, 2) := by decide +kernel
theorem dX3_taken_27 : decode cX3_taken 27 = .ok (.if_icmp .ne 7, 3) := by decide +kernel
theorem dX3_taken_30 : decode cX3_taken 30 = .ok (.iconst 1, 1) := by decide +kernel
theorem dX3_taken_31 : decode cX3_taken 31 = .ok (.goto 4, 3) := by decide +kernel
theorem dX3_taken_34 : decode cX3_taken 34 = .ok (.iconst 2, 1) := by decide +kernel
theorem dX3_taken_35 : decode cX3_taken 35 = .ok (.ireturn, 1) := by decide +kernel
theorem dX3_combined_0 : decode cX3_combined 0 = .ok (.iload_n 0, 1) := by decide +kernel
theorem dX3_combined_1 : decode cX3_combined 1 = .ok (.lookupswitch 125 #[(37, 91), (42, 75), (43, 67), (45, 71), (47, 79), (60, 103), (62, 114)], 67) := by decide +kernel
theorem dX3_combined_68 : decode cX3_combined 68 = .ok (.iload_n 1, 1) := by decide +kernel
theorem dX3_combined_69 : decode cX3_combined 69 = .ok (.iload_n 2, 1) := by decide +kernel
theorem dX3_combined_70 : decode cX3_combined 70 = .ok (.iadd, 1) := by decide +kernel
theorem dX3_combined_71 : decode cX3_combined 71 = .ok (.ireturn, 1) := by decide +kernel
theorem dX3_combined_72 : decode cX3_combined 72 = .ok (.iload_n 1, 1) := by decide +kernel
theorem dX3_combined_73 : decode cX3_combined 73 = .ok (.iload_n 2, 1) := by decide +kernel
theorem dX3_combined_74 : decode cX3_combined 74 = .ok (.isub, 1) := by decide +kernel
theorem dX3_combined_75 : decode cX3_combined 75 = .ok (.ireturn, 1) := by decide +kernel
theorem dX3_combined_76 : decode cX3_combined 76 = .ok (.iload_n 1, 1) := by decide +kernel
theorem dX3_combined_77 : decode cX3_combined 77 = .ok (.iload_n 2, 1) := by decide +kernel
theorem dX3_combined_78 : decode cX3_combined 78 = .ok (.imul, 1) := by decide +kernel
theorem dX3_combined_79 : decode cX3_combined 79 = .ok (.ireturn, 1) := by decide +kernel
theorem dX3_combined_80 : decode cX3_combined 80 = .ok (.iload_n 2, 1) := by decide +kernel
theorem dX3_combined_81 : decode cX3_combined 81 = .ok (.ifCond .ne 7, 3) := by decide +kernel
theorem dX3_combined_84 : decode cX3_combined 84 = .ok (.iconst 0, 1) := by decide +kernel
theorem dX3_combined_85 : decode cX3_combined 85 = .ok (.goto 6, 3) := by decide +kernel
theorem dX3_combined_88 : decode cX3_combined 88 = .ok (.iload_n 1, 1) := by decide +kernel
theorem dX3_combined_89 : decode cX3_combined 89 = .ok (.iload_n 2, 1) := by decide +kernel
theorem dX3_combined_90 : decode cX3_combined 90 = .ok (.idiv, 1) := by decide +kernel
theorem dX3_combined_91 : decode cX3_combined 91 = .ok (.ireturn, 1) := by decide +kernel
theorem dX3_combined_92 : decode cX3_combined 92 = .ok (.iload_n 2, 1) := by decide +kernel
theorem dX3_combined_93 : decode cX3_combined 93 = .ok (.ifCond .ne 7, 3) := by decide +kernel
theorem dX3_combined_96 : decode cX3_combined 96 = .ok (.iconst 0, 1) := by decide +kernel
theorem dX3_combined_97 : decode cX3_combined 97 = .ok (.goto 6, 3) := by decide +kernel
theorem dX3_combined_100 : decode cX3_combined 100 = .ok (.iload_n 1, 1) := by decide +kernel
theorem dX3_combined_101 : decode cX3_combined 101 = .ok (.iload_n 2, 1) := by decide +kernel
theorem dX3_combined_102 : decode cX3_combined 102 = .ok (.irem, 1) := by decide +kernel
theorem dX3_combined_103 : decode cX3_combined 103 = .ok (.ireturn, 1) := by decide +kernel
theorem dX3_combined_104 : decode cX3_combined 104 = .ok (.iload_n 1, 1) := by decide +kernel
theorem dX3_combined_105 : decode cX3_combined 105 = .ok (.iload_n 2, 1) := by decide +kernel
theorem dX3_combined_106 : decode cX3_combined 106 = .ok (.if_icmp .ge 7, 3) := by decide +kernel
theorem dX3_combined_109 : decode cX3_combined 109 = .ok (.iconst 1, 1) := by decide +kernel
theorem dX3_combined_110 : decode cX3_combined 110 = .ok (.goto 4, 3) := by decide +kernel
theorem dX3_combined_113 : decode cX3_combined 113 = .ok (.iconst 0, 1) := by decide +kernel
theorem dX3_combined_114 : decode cX3_combined 114 = .ok (.ireturn, 1) := by decide +kernel
theorem dX3_combined_115 : decode cX3_combined 115 = .ok (.iload_n 1, 1) := by decide +kernel
theorem dX3_combined_116 : decode cX3_combined 116 = .ok (.iload_n 2, 1) := by decide +kernel
theorem dX3_combined_117 : decode cX3_combined 117 = .ok (.if_icmp .le 7, 3) := by decide +kernel
theorem dX3_combined_120 : decode cX3_combined 120 = .ok (.iconst 1, 1) := by decide +kernel
theorem dX3_combined_121 : decode cX3_combined 121 = .ok (.goto 4, 3) := by decide +kernel
theorem dX3_combined_124 : decode cX3_combined 124 = .ok (.iconst 0, 1) := by decide +kernel
theorem dX3_combined_125 : decode cX3_combined 125 = .ok (.ireturn, 1) := by decide +kernel
theorem dX3_combined_126 : decode cX3_combined 126 = .ok (.iload_n 1, 1) := by decide +kernel
theorem dX3_combined_127 : decode cX3_combined 127 = .ok (.iload_n 2, 1) := by decide +kernel
theorem dX3_combined_128 : decode cX3_combined 128 = .ok (.if_icmp .ne 7, 3) := by decide +kernel
theorem dX3_combined_131 : decode cX3_combined 131 = .ok (.iconst 1, 1) := by decide +kernel
theorem dX3_combined_132 : decode cX3_combined 132 = .ok (.goto 4, 3) := by decide +kernel
theorem dX3_combined_135 : decode cX3_combined 135 = .ok (.iconst 0, 1) := by decide +kernel
theorem dX3_combined_136 : decode cX3_combined 136 = .ok (.ireturn, 1) := by decide +kernel
theorem dX4_init_0 : decode cX4_init 0 = .ok (.aload_n 0, 1) := by decide +kernel
theorem dX4_init_1 : decode cX4_init 1 = .ok (.invokespecial 3, 3) := by decide +kernel
theorem dX4_init_4 : decode cX4_init 4 = .ok (.aload_n 0, 1) := by decide +kernel
theorem dX4_init_5 : decode cX4_init 5 = .ok (.new 9, 3) := by decide +kernel
theorem dX4_init_8 : decode cX4_init 8 = .ok (.dup, 1) := by decide +kernel
theorem dX4_init_9 : decode cX4_init 9 = .ok (.invokespecial 11, 3) := by decide +kernel
theorem dX4_init_12 : decode cX4_init 12 = .ok (.putfield 12, 3) := by decide +kernel
theorem dX4_init_15 : decode cX4_init 15 = .ok (.aload_n 0, 1) := by decide +kernel
theorem dX4_init_16 : decode cX4_init 16 = .ok (.aload_n 1, 1) := by decide +kernel
theorem dX4_init_17 : decode cX4_init 17 = .ok (.putfield 18, 3) := by decide +kernel
theorem dX4_init_20 : decode cX4_init 20 = .ok (.return_, 1) := by decide +kernel
theorem dX4_handOut_0 : decode cX4_handOut 0 = .ok (.aload_n 0, 1) := by decide +kernel
theorem dX4_handOut_1 : decode cX4_handOut 1 = .ok (.getfield 12, 3) := by decide +kernel
theorem dX4_handOut_4 : decode cX4_handOut 4 = .ok (.astore_n 2, 1) := by decide +kernel
theorem dX4_handOut_5 : decode cX4_handOut 5 = .ok (.aload_n 0, 1) := by decide +kernel
theorem dX4_handOut_6 : decode cX4_handOut 6 = .ok (.aload_n 1, 1) := by decide +kernel
theorem dX4_handOut_7 : decode cX4_handOut 7 = .ok (.putfield 12, 3) := by decide +kernel
theorem dX4_handOut_10 : decode cX4_handOut 10 = .ok (.aload_n 2, 1) := by decide +kernel
theorem dX4_handOut_11 : decode cX4_handOut 11 = .ok (.areturn, 1) := by decide +kernel
theorem dX4_read_0 : decode cX4_read 0 = .ok (.aload_n 0, 1) := by decide +kernel
theorem dX4_read_1 : decode cX4_read 1 = .ok (.iconst 0, 1) := by decide +kernel
theorem dX4_read_2 : decode cX4_read 2 = .ok (.putfield 22, 3) := by decide +kernel
theorem dX4_read_5 : decode cX4_read 5 = .ok (.aload_n 0, 1) := by decide +kernel
theorem dX4_read_6 : decode cX4_read 6 = .ok (.iload_n 1, 1) := by decide +kernel
theorem dX4_read_7 : decode cX4_read 7 = .ok (.putfield 26, 3) := by decide +kernel
theorem dX4_read_10 : decode cX4_read 10 = .ok (.aload_n 0, 1) := by decide +kernel
theorem dX4_read_11 : decode cX4_read 11 = .ok (.iconst 0, 1) := by decide +kernel
theorem dX4_read_12 : decode cX4_read 12 = .ok (.putfield 29, 3) := by decide +kernel
theorem dX4_read_15 : decode cX4_read 15 = .ok (.aload_n 0, 1) := by decide +kernel
theorem dX4_read_16 : decode cX4_read 16 = .ok (.getfield 12, 3) := by decide +kernel
theorem dX4_read_19 : decode cX4_read 19 = .ok (.invokevirtual 32, 3) := by decide +kernel
theorem dX4_read_22 : decode cX4_read 22 = .ok (.iconst 1, 1) := by decide +kernel
theorem dX4_read_23 : decode cX4_read 23 = .ok (.istore_n 2, 1) := by decide +kernel
theorem dX4_read_24 : decode cX4_read 24 = .ok (.iconst 0, 1) := by decide +kernel
theorem dX4_read_25 : decode cX4_read 25 = .ok (.istore_n 3, 1) := by decide +kernel
theorem dX4_read_26 : decode cX4_read 26 = .ok (.iload_n 3, 1) := by decide +kernel
theorem dX4_read_27 : decode cX4_read 27 = .ok (.bipush 14, 2) := by decide +kernel
theorem dX4_read_29 : decode cX4_read 29 = .ok (.if_icmp .gt 46, 3) := by decide +kernel
theorem dX4_read_32 : decode cX4_read 32 = .ok (.iload_n 2, 1) := by decide +kernel
theorem dX4_read_33 : decode cX4_read 33 = .ok (.ifCond .eq 42, 3) := by decide +kernel
theorem dX4_read_36 : decode cX4_read 36 = .ok (.aload_n 0, 1) := by decide +kernel
theorem dX4_read_37 : decode cX4_read 37 = .ok (.invokevirtual 35, 3) := by decide +kernel
theorem dX4_read_40 : decode cX4_read 40 = .ok (.ifCond .eq 27, 3) := by decide +kernel
theorem dX4_read_43 : decode cX4_read 43 = .ok (.aload_n 0, 1) := by decide +kernel
theorem dX4_read_44 : decode cX4_read 44 = .ok (.getfield 22, 3) := by decide +kernel
theorem dX4_read_47 : decode cX4_read 47 = .ok (.aload_n 0, 1) := by decide +kernel
theorem dX4_read_48 : decode cX4_read 48 = .ok (.getfield 26, 3) := by decide +kernel
theorem dX4_read_51 : decode cX4_read 51 = .ok (.if_icmp .ge 16, 3) := by decide +kernel
theorem dX4_read_54 : decode cX4_read 54 = .ok (.aload_n 0, 1) := by decide +kernel
theorem dX4_read_55 : decode cX4_read 55 = .ok (.bipush 59, 2) := by decide +kernel
theorem dX4_read_57 : decode cX4_read 57 = .ok (.invokevirtual 39, 3) := by decide +kernel
theorem dX4_read_60 : decode cX4_read 60 = .ok (.ifCond .eq 7, 3) := by decide +kernel
theorem dX4_read_63 : decode cX4_read 63 = .ok (.iconst 1, 1) := by decide +kernel
theorem dX4_read_64 : decode cX4_read 64 = .ok (.goto 4, 3) := by decide +kernel
theorem dX4_read_67 : decode cX4_read 67 = .ok (.iconst 0, 1) := by decide +kernel
theorem dX4_read_68 : decode cX4_read 68 = .ok (.istore_n 2, 1) := by decide +kernel
theorem dX4_read_69 : decode cX4_read 69 = .ok (.iinc 3 1, 3) := by decide +kernel
theorem dX4_read_72 : decode cX4_read 72 = .ok (.goto (-46), 3) := by decide +kernel
theorem dX4_read_75 : decode cX4_read 75 = .ok (.aload_n 0, 1) := by decide +kernel
theorem dX4_read_76 : decode cX4_read 76 = .ok (.getfield 29, 3) := by decide +kernel
theorem dX4_read_79 : decode cX4_read 79 = .ok (.ifCond .eq 10, 3) := by decide +kernel
theorem dX4_read_82 : decode cX4_read 82 = .ok (.aload_n 0, 1) := by decide +kernel
theorem dX4_read_83 : decode cX4_read 83 = .ok (.getfield 29, 3) := by decide +kernel
theorem dX4_read_86 : decode cX4_read 86 = .ok (.goto 10, 3) := by decide +kernel
theorem dX4_read_89 : decode cX4_read 89 = .ok (.aload_n 0, 1) := by decide +kernel
theorem dX4_read_90 : decode cX4_read 90 = .ok (.getfield 12, 3) := by decide +kernel
theorem dX4_read_93 : decode cX4_read 93 = .ok (.invokevirtual 43, 3) := by decide +kernel
theorem dX4_read_96 : decode cX4_read 96 = .ok (.ireturn, 1) := by decide +kernel
theorem dX4_readClause_0 : decode cX4_readClause 0 = .ok (.aload_n 0, 1) := by decide +kernel
theorem dX4_readClause_1 : decode cX4_readClause 1 = .ok (.invokevirtual 47, 3) := by decide +kernel
theorem dX4_readClause_4 : decode cX4_readClause 4 = .ok (.istore_n 1, 1) := by decide +kernel
theorem dX4_readClause_5 : decode cX4_readClause 5 = .ok (.iload_n 1, 1) := by decide +kernel
theorem dX4_readClause_6 : decode cX4_readClause 6 = .ok (.bipush 112, 2) := by decide +kernel
theorem dX4_readClause_8 : decode cX4_readClause 8 = .ok (.if_icmp .eq 27, 3) := by decide +kernel
theorem dX4_readClause_11 : decode cX4_readClause 11 = .ok (.iload_n 1, 1) := by decide +kernel
theorem dX4_readClause_12 : decode cX4_readClause 12 = .ok (.bipush 119, 2) := by decide +kernel
theorem dX4_readClause_14 : decode cX4_readClause 14 = .ok (.if_icmp .eq 21, 3) := by decide +kernel
theorem dX4_readClause_17 : decode cX4_readClause 17 = .ok (.iload_n 1, 1) := by decide +kernel
theorem dX4_readClause_18 : decode cX4_readClause 18 = .ok (.bipush 104, 2) := by decide +kernel
theorem dX4_readClause_20 : decode cX4_readClause 20 = .ok (.if_icmp .eq 15, 3) := by decide +kernel
theorem dX4_readClause_23 : decode cX4_readClause 23 = .ok (.iload_n 1, 1) := by decide +kernel
theorem dX4_readClause_24 : decode cX4_readClause 24 = .ok (.bipush 118, 2) := by decide +kernel
theorem dX4_readClause_26 : decode cX4_readClause 26 = .ok (.if_icmp .eq 9, 3) := by decide +kernel
theorem dX4_readClause_29 : decode cX4_readClause 29 = .ok (.aload_n 0, 1) := by decide +kernel
theorem dX4_readClause_30 : decode cX4_readClause 30 = .ok (.iconst 1, 1) := by decide +kernel
theorem dX4_readClause_31 : decode cX4_readClause 31 = .ok (.invokevirtual 50, 3) := by decide +kernel
theorem dX4_readClause_34 : decode cX4_readClause 34 = .ok (.ireturn, 1) := by decide +kernel
theorem dX4_readClause_35 : decode cX4_readClause 35 = .ok (.aload_n 0, 1) := by decide +kernel
theorem dX4_readClause_36 : decode cX4_readClause 36 = .ok (.getfield 12, 3) := by decide +kernel
theorem dX4_readClause_39 : decode cX4_readClause 39 = .ok (.invokevirtual 53, 3) := by decide +kernel
theorem dX4_readClause_42 : decode cX4_readClause 42 = .ok (.ifCond .eq 9, 3) := by decide +kernel
theorem dX4_readClause_45 : decode cX4_readClause 45 = .ok (.aload_n 0, 1) := by decide +kernel
theorem dX4_readClause_46 : decode cX4_readClause 46 = .ok (.iconst 4, 1) := by decide +kernel
theorem dX4_readClause_47 : decode cX4_readClause 47 = .ok (.invokevirtual 50, 3) := by decide +kernel
theorem dX4_readClause_50 : decode cX4_readClause 50 = .ok (.ireturn, 1) := by decide +kernel
theorem dX4_readClause_51 : decode cX4_readClause 51 = .ok (.aload_n 0, 1) := by decide +kernel
theorem dX4_readClause_52 : decode cX4_readClause 52 = .ok (.dup, 1) := by decide +kernel
theorem dX4_readClause_53 : decode cX4_readClause 53 = .ok (.getfield 22, 3) := by decide +kernel
theorem dX4_readClause_56 : decode cX4_readClause 56 = .ok (.iconst 1, 1) := by decide +kernel
theorem dX4_readClause_57 : decode cX4_readClause 57 = .ok (.iadd, 1) := by decide +kernel
theorem dX4_readClause_58 : decode cX4_readClause 58 = .ok (.putfield 22, 3) := by decide +kernel
theorem dX4_readClause_61 : decode cX4_readClause 61 = .ok (.aload_n 0, 1) := by decide +kernel
theorem dX4_readClause_62 : decode cX4_readClause 62 = .ok (.getfield 12, 3) := by decide +kernel
theorem dX4_readClause_65 : decode cX4_readClause 65 = .ok (.iload_n 1, 1) := by decide +kernel
theorem dX4_readClause_66 : decode cX4_readClause 66 = .ok (.invokevirtual 56, 3) := by decide +kernel
theorem dX4_readClause_69 : decode cX4_readClause 69 = .ok (.iload_n 1, 1) := by decide +kernel
theorem dX4_readClause_70 : decode cX4_readClause 70 = .ok (.bipush 112, 2) := by decide +kernel
theorem dX4_readClause_72 : decode cX4_readClause 72 = .ok (.if_icmp .eq 13, 3) := by decide +kernel
theorem dX4_readClause_75 : decode cX4_readClause 75 = .ok (.aload_n 0, 1) := by decide +kernel
theorem dX4_readClause_76 : decode cX4_readClause 76 = .ok (.iconst 0, 1) := by decide +kernel
theorem dX4_readClause_77 : decode cX4_readClause 77 = .ok (.invokevirtual 60, 3) := by decide +kernel
theorem dX4_readClause_80 : decode cX4_readClause 80 = .ok (.ifCond .ne 5, 3) := by decide +kernel
theorem dX4_readClause_83 : decode cX4_readClause 83 = .ok (.iconst 0, 1) := by decide +kernel
theorem dX4_readClause_84 : decode cX4_readClause 84 = .ok (.ireturn, 1) := by decide +kernel
theorem dX4_readClause_85 : decode cX4_readClause 85 = .ok (.aload_n 0, 1) := by decide +kernel
theorem dX4_readClause_86 : decode cX4_readClause 86 = .ok (.getfield 12, 3) := by decide +kernel
theorem dX4_readClause_89 : decode cX4_readClause 89 = .ok (.invokevirtual 63, 3) := by decide +kernel
theorem dX4_readClause_92 : decode cX4_readClause 92 = .ok (.aload_n 0, 1) := by decide +kernel
theorem dX4_readClause_93 : decode cX4_readClause 93 = .ok (.bipush 40, 2) := by decide +kernel
theorem dX4_readClause_95 : decode cX4_readClause 95 = .ok (.invokevirtual 39, 3) := by decide +kernel
theorem dX4_readClause_98 : decode cX4_readClause 98 = .ok (.ifCond .eq 20, 3) := by decide +kernel
theorem dX4_readClause_101 : decode cX4_readClause 101 = .ok (.aload_n 0, 1) := by decide +kernel
theorem dX4_readClause_102 : decode cX4_readClause 102 = .ok (.iconst 1, 1) := by decide +kernel
theorem dX4_readClause_103 : decode cX4_readClause 103 = .ok (.invokevirtual 66, 3) := by decide +kernel
theorem dX4_readClause_106 : decode cX4_readClause 106 = .ok (.ifCond .eq 12, 3) := by decide +kernel
theorem dX4_readClause_109 : decode cX4_readClause 109 = .ok (.aload_n 0, 1) := by decide +kernel
theorem dX4_readClause_110 : decode cX4_readClause 110 = .ok (.bipush 41, 2) := by decide +kernel
theorem dX4_readClause_112 : decode cX4_readClause 112 = .ok (.invokevirtual 39, 3) := by decide +kernel
theorem dX4_readClause_115 : decode cX4_readClause 115 = .ok (.ifCond .ne 5, 3) := by decide +kernel
theorem dX4_readClause_118 : decode cX4_readClause 118 = .ok (.iconst 0, 1) := by decide +kernel
theorem dX4_readClause_119 : decode cX4_readClause 119 = .ok (.ireturn, 1) := by decide +kernel
theorem dX4_readClause_120 : decode cX4_readClause 120 = .ok (.aload_n 0, 1) := by decide +kernel
theorem dX4_readClause_121 : decode cX4_readClause 121 = .ok (.getfield 12, 3) := by decide +kernel
theorem dX4_readClause_124 : decode cX4_readClause 124 = .ok (.invokevirtual 69, 3) := by decide +kernel
theorem dX4_readClause_127 : decode cX4_readClause 127 = .ok (.iconst 1, 1) := by decide +kernel
theorem dX4_readClause_128 : decode cX4_readClause 128 = .ok (.ireturn, 1) := by decide +kernel
theorem dX4_readCondition_0 : decode cX4_readCondition 0 = .ok (.aload_n 0, 1) := by decide +kernel
theorem dX4_readCondition_1 : decode cX4_readCondition 1 = .ok (.iload_n 1, 1) := by decide +kernel
theorem dX4_readCondition_2 : decode cX4_readCondition 2 = .ok (.invokevirtual 71, 3) := by decide +kernel
theorem dX4_readCondition_5 : decode cX4_readCondition 5 = .ok (.istore_n 2, 1) := by decide +kernel
theorem dX4_readCondition_6 : decode cX4_readCondition 6 = .ok (.iconst 0, 1) := by decide +kernel
theorem dX4_readCondition_7 : decode cX4_readCondition 7 = .ok (.istore_n 3, 1) := by decide +kernel
theorem dX4_readCondition_8 : decode cX4_readCondition 8 = .ok (.iload_n 3, 1) := by decide +kernel
theorem dX4_readCondition_9 : decode cX4_readCondition 9 = .ok (.sipush 200, 3) := by decide +kernel
theorem dX4_readCondition_12 : decode cX4_readCondition 12 = .ok (.if_icmp .ge 59, 3) := by decide +kernel
theorem dX4_readCondition_15 : decode cX4_readCondition 15 = .ok (.iload_n 2, 1) := by decide +kernel
theorem dX4_readCondition_16 : decode cX4_readCondition 16 = .ok (.ifCond .eq 55, 3) := by decide +kernel
theorem dX4_readCondition_19 : decode cX4_readCondition 19 = .ok (.aload_n 0, 1) := by decide +kernel
theorem dX4_readCondition_20 : decode cX4_readCondition 20 = .ok (.invokevirtual 47, 3) := by decide +kernel
theorem dX4_readCondition_23 : decode cX4_readCondition 23 = .ok (.bipush 124, 2) := by decide +kernel
theorem dX4_readCondition_25 : decode cX4_readCondition 25 = .ok (.if_icmp .ne 46, 3) := by decide +kernel
theorem dX4_readCondition_28 : decode cX4_readCondition 28 = .ok (.aload_n 0, 1) := by decide +kernel
theorem dX4_readCondition_29 : decode cX4_readCondition 29 = .ok (.dup, 1) := by decide +kernel
theorem dX4_readCondition_30 : decode cX4_readCondition 30 = .ok (.getfield 22, 3) := by decide +kernel
theorem dX4_readCondition_33 : decode cX4_readCondition 33 = .ok (.iconst 1, 1) := by decide +kernel
theorem dX4_readCondition_34 : decode cX4_readCondition 34 = .ok (.iadd, 1) := by decide +kernel
theorem dX4_readCondition_35 : decode cX4_readCondition 35 = .ok (.putfield 22, 3) := by decide +kernel
theorem dX4_readCondition_38 : decode cX4_readCondition 38 = .ok (.aload_n 0, 1) := by decide +kernel
theorem dX4_readCondition_39 : decode cX4_readCondition 39 = .ok (.getfield 12, 3) := by decide +kernel
theorem dX4_readCondition_42 : decode cX4_readCondition 42 = .ok (.bipush 124, 2) := by decide +kernel
theorem dX4_readCondition_44 : decode cX4_readCondition 44 = .ok (.iconst 0, 1) := by decide +kernel
theorem dX4_readCondition_45 : decode cX4_readCondition 45 = .ok (.invokevirtual 74, 3) := by decide +kernel
theorem dX4_readCondition_48 : decode cX4_readCondition 48 = .ok (.istore 4, 2) := by decide +kernel
theorem dX4_readCondition_50 : decode cX4_readCondition 50 = .ok (.aload_n 0, 1) := by decide +kernel
theorem dX4_readCondition_51 : decode cX4_readCondition 51 = .ok (.iload_n 1, 1) := by decide +kernel
theorem dX4_readCondition_52 : decode cX4_readCondition 52 = .ok (.invokevirtual 71, 3) := by decide +kernel
theorem dX4_readCondition_55 : decode cX4_readCondition 55 = .ok (.istore_n 2, 1) := by decide +kernel
theorem dX4_readCondition_56 : decode cX4_readCondition 56 = .ok (.aload_n 0, 1) := by decide +kernel
theorem dX4_readCondition_57 : decode cX4_readCondition 57 = .ok (.getfield 12, 3) := by decide +kernel
theorem dX4_readCondition_60 : decode cX4_readCondition 60 = .ok (.iload 4, 2) := by decide +kernel
theorem dX4_readCondition_62 : decode cX4_readCondition 62 = .ok (.invokevirtual 78, 3) := by decide +kernel
theorem dX4_readCondition_65 : decode cX4_readCondition 65 = .ok (.iinc 3 1, 3) := by decide +kernel
theorem dX4_readCondition_68 : decode cX4_readCondition 68 = .ok (.goto (-60), 3) := by decide +kernel
theorem dX4_readCondition_71 : decode cX4_readCondition 71 = .ok (.iload_n 2, 1) := by decide +kernel
theorem dX4_readCondition_72 : decode cX4_readCondition 72 = .ok (.ireturn, 1) := by decide +kernel
theorem dX4_readPart_0 : decode cX4_readPart 0 = .ok (.aload_n 0, 1) := by decide +kernel
theorem dX4_readPart_1 : decode cX4_readPart 1 = .ok (.iload_n 1, 1) := by decide +kernel
theorem dX4_readPart_2 : decode cX4_readPart 2 = .ok (.invokevirtual 81, 3) := by decide +kernel
theorem dX4_readPart_5 : decode cX4_readPart 5 = .ok (.istore_n 2, 1) := by decide +kernel
theorem dX4_readPart_6 : decode cX4_readPart 6 = .ok (.iconst 0, 1) := by decide +kernel
theorem dX4_readPart_7 : decode cX4_readPart 7 = .ok (.istore_n 3, 1) := by decide +kernel
theorem dX4_readPart_8 : decode cX4_readPart 8 = .ok (.iload_n 3, 1) := by decide +kernel
theorem dX4_readPart_9 : decode cX4_readPart 9 = .ok (.sipush 200, 3) := by decide +kernel
theorem dX4_readPart_12 : decode cX4_readPart 12 = .ok (.if_icmp .ge 59, 3) := by decide +kernel
theorem dX4_readPart_15 : decode cX4_readPart 15 = .ok (.iload_n 2, 1) := by decide +kernel
theorem dX4_readPart_16 : decode cX4_readPart 16 = .ok (.ifCond .eq 55, 3) := by decide +kernel
theorem dX4_readPart_19 : decode cX4_readPart 19 = .ok (.aload_n 0, 1) := by decide +kernel
theorem dX4_readPart_20 : decode cX4_readPart 20 = .ok (.invokevirtual 47, 3) := by decide +kernel
theorem dX4_readPart_23 : decode cX4_readPart 23 = .ok (.bipush 38, 2) := by decide +kernel
theorem dX4_readPart_25 : decode cX4_readPart 25 = .ok (.if_icmp .ne 46, 3) := by decide +kernel
theorem dX4_readPart_28 : decode cX4_readPart 28 = .ok (.aload_n 0, 1) := by decide +kernel
theorem dX4_readPart_29 : decode cX4_readPart 29 = .ok (.dup, 1) := by decide +kernel
theorem dX4_readPart_30 : decode cX4_readPart 30 = .ok (.getfield 22, 3) := by decide +kernel
theorem dX4_readPart_33 : decode cX4_readPart 33 = .ok (.iconst 1, 1) := by decide +kernel
theorem dX4_readPart_34 : decode cX4_readPart 34 = .ok (.iadd, 1) := by decide +kernel
theorem dX4_readPart_35 : decode cX4_readPart 35 = .ok (.putfield 22, 3) := by decide +kernel
theorem dX4_readPart_38 : decode cX4_readPart 38 = .ok (.aload_n 0, 1) := by decide +kernel
theorem dX4_readPart_39 : decode cX4_readPart 39 = .ok (.getfield 12, 3) := by decide +kernel
theorem dX4_readPart_42 : decode cX4_readPart 42 = .ok (.bipush 38, 2) := by decide +kernel
theorem dX4_readPart_44 : decode cX4_readPart 44 = .ok (.iconst 0, 1) := by decide +kernel
theorem dX4_readPart_45 : decode cX4_readPart 45 = .ok (.invokevirtual 74, 3) := by decide +kernel
theorem dX4_readPart_48 : decode cX4_readPart 48 = .ok (.istore 4, 2) := by decide +kernel
theorem dX4_readPart_50 : decode cX4_readPart 50 = .ok (.aload_n 0, 1) := by decide +kernel
theorem dX4_readPart_51 : decode cX4_readPart 51 = .ok (.iload_n 1, 1) := by decide +kernel
theorem dX4_readPart_52 : decode cX4_readPart 52 = .ok (.invokevirtual 81, 3) := by decide +kernel
theorem dX4_readPart_55 : decode cX4_readPart 55 = .ok (.istore_n 2, 1) := by decide +kernel
theorem dX4_readPart_56 : decode cX4_readPart 56 = .ok (.aload_n 0, 1) := by decide +kernel
theorem dX4_readPart_57 : decode cX4_readPart 57 = .ok (.getfield 12, 3) := by decide +kernel
theorem dX4_readPart_60 : decode cX4_readPart 60 = .ok (.iload 4, 2) := by decide +kernel
theorem dX4_readPart_62 : decode cX4_readPart 62 = .ok (.invokevirtual 78, 3) := by decide +kernel
theorem dX4_readPart_65 : decode cX4_readPart 65 = .ok (.iinc 3 1, 3) := by decide +kernel
theorem dX4_readPart_68 : decode cX4_readPart 68 = .ok (.goto (-60), 3) := by decide +kernel
theorem dX4_readPart_71 : decode cX4_readPart 71 = .ok (.iload_n 2, 1) := by decide +kernel
theorem dX4_readPart_72 : decode cX4_readPart 72 = .ok (.ireturn, 1) := by decide +kernel
theorem dX4_readPiece_0 : decode cX4_readPiece 0 = .ok (.aload_n 0, 1) := by decide +kernel
theorem dX4_readPiece_1 : decode cX4_readPiece 1 = .ok (.invokevirtual 47, 3) := by decide +kernel
theorem dX4_readPiece_4 : decode cX4_readPiece 4 = .ok (.istore_n 2, 1) := by decide +kernel
theorem dX4_readPiece_5 : decode cX4_readPiece 5 = .ok (.iload_n 2, 1) := by decide +kernel
theorem dX4_readPiece_6 : decode cX4_readPiece 6 = .ok (.bipush 33, 2) := by decide +kernel
theorem dX4_readPiece_8 : decode cX4_readPiece 8 = .ok (.if_icmp .eq 9, 3) := by decide +kernel
theorem dX4_readPiece_11 : decode cX4_readPiece 11 = .ok (.iload_n 2, 1) := by decide +kernel
theorem dX4_readPiece_12 : decode cX4_readPiece 12 = .ok (.bipush 40, 2) := by decide +kernel
theorem dX4_readPiece_14 : decode cX4_readPiece 14 = .ok (.if_icmp .ne 10, 3) := by decide +kernel
theorem dX4_readPiece_17 : decode cX4_readPiece 17 = .ok (.aload_n 0, 1) := by decide +kernel
theorem dX4_readPiece_18 : decode cX4_readPiece 18 = .ok (.iload_n 2, 1) := by decide +kernel
theorem dX4_readPiece_19 : decode cX4_readPiece 19 = .ok (.iload_n 1, 1) := by decide +kernel
theorem dX4_readPiece_20 : decode cX4_readPiece 20 = .ok (.invokevirtual 84, 3) := by decide +kernel
theorem dX4_readPiece_23 : decode cX4_readPiece 23 = .ok (.ireturn, 1) := by decide +kernel
theorem dX4_readPiece_24 : decode cX4_readPiece 24 = .ok (.aload_n 0, 1) := by decide +kernel
theorem dX4_readPiece_25 : decode cX4_readPiece 25 = .ok (.iload_n 1, 1) := by decide +kernel
theorem dX4_readPiece_26 : decode cX4_readPiece 26 = .ok (.invokevirtual 60, 3) := by decide +kernel
theorem dX4_readPiece_29 : decode cX4_readPiece 29 = .ok (.ifCond .ne 5, 3) := by decide +kernel
theorem dX4_readPiece_32 : decode cX4_readPiece 32 = .ok (.iconst 0, 1) := by decide +kernel
theorem dX4_readPiece_33 : decode cX4_readPiece 33 = .ok (.ireturn, 1) := by decide +kernel
theorem dX4_readPiece_34 : decode cX4_readPiece 34 = .ok (.aload_n 0, 1) := by decide +kernel
theorem dX4_readPiece_35 : decode cX4_readPiece 35 = .ok (.invokevirtual 47, 3) := by decide +kernel
theorem dX4_readPiece_38 : decode cX4_readPiece 38 = .ok (.istore_n 3, 1) := by decide +kernel
theorem dX4_readPiece_39 : decode cX4_readPiece 39 = .ok (.iload_n 3, 1) := by decide +kernel
theorem dX4_readPiece_40 : decode cX4_readPiece 40 = .ok (.bipush 60, 2) := by decide +kernel
theorem dX4_readPiece_42 : decode cX4_readPiece 42 = .ok (.if_icmp .eq 21, 3) := by decide +kernel
theorem dX4_readPiece_45 : decode cX4_readPiece 45 = .ok (.iload_n 3, 1) := by decide +kernel
theorem dX4_readPiece_46 : decode cX4_readPiece 46 = .ok (.bipush 62, 2) := by decide +kernel
theorem dX4_readPiece_48 : decode cX4_readPiece 48 = .ok (.if_icmp .eq 15, 3) := by decide +kernel
theorem dX4_readPiece_51 : decode cX4_readPiece 51 = .ok (.iload_n 3, 1) := by decide +kernel
theorem dX4_readPiece_52 : decode cX4_readPiece 52 = .ok (.bipush 61, 2) := by decide +kernel
theorem dX4_readPiece_54 : decode cX4_readPiece 54 = .ok (.if_icmp .eq 9, 3) := by decide +kernel
theorem dX4_readPiece_57 : decode cX4_readPiece 57 = .ok (.aload_n 0, 1) := by decide +kernel
theorem dX4_readPiece_58 : decode cX4_readPiece 58 = .ok (.iconst 1, 1) := by decide +kernel
theorem dX4_readPiece_59 : decode cX4_readPiece 59 = .ok (.invokevirtual 50, 3) := by decide +kernel
theorem dX4_readPiece_62 : decode cX4_readPiece 62 = .ok (.ireturn, 1) := by decide +kernel
theorem dX4_readPiece_63 : decode cX4_readPiece 63 = .ok (.aload_n 0, 1) := by decide +kernel
theorem dX4_readPiece_64 : decode cX4_readPiece 64 = .ok (.dup, 1) := by decide +kernel
theorem dX4_readPiece_65 : decode cX4_readPiece 65 = .ok (.getfield 22, 3) := by decide +kernel
theorem dX4_readPiece_68 : decode cX4_readPiece 68 = .ok (.iconst 1, 1) := by decide +kernel
theorem dX4_readPiece_69 : decode cX4_readPiece 69 = .ok (.iadd, 1) := by decide +kernel
theorem dX4_readPiece_70 : decode cX4_readPiece 70 = .ok (.putfield 22, 3) := by decide +kernel
theorem dX4_readPiece_73 : decode cX4_readPiece 73 = .ok (.aload_n 0, 1) := by decide +kernel
theorem dX4_readPiece_74 : decode cX4_readPiece 74 = .ok (.iload_n 1, 1) := by decide +kernel
theorem dX4_readPiece_75 : decode cX4_readPiece 75 = .ok (.invokevirtual 60, 3) := by decide +kernel
theorem dX4_readPiece_78 : decode cX4_readPiece 78 = .ok (.istore 4, 2) := by decide +kernel
theorem dX4_readPiece_80 : decode cX4_readPiece 80 = .ok (.aload_n 0, 1) := by decide +kernel
theorem dX4_readPiece_81 : decode cX4_readPiece 81 = .ok (.getfield 12, 3) := by decide +kernel
theorem dX4_readPiece_84 : decode cX4_readPiece 84 = .ok (.iload_n 3, 1) := by decide +kernel
theorem dX4_readPiece_85 : decode cX4_readPiece 85 = .ok (.iconst 0, 1) := by decide +kernel
theorem dX4_readPiece_86 : decode cX4_readPiece 86 = .ok (.invokevirtual 74, 3) := by decide +kernel
theorem dX4_readPiece_89 : decode cX4_readPiece 89 = .ok (.pop, 1) := by decide +kernel
theorem dX4_readPiece_90 : decode cX4_readPiece 90 = .ok (.iload 4, 2) := by decide +kernel
theorem dX4_readPiece_92 : decode cX4_readPiece 92 = .ok (.ireturn, 1) := by decide +kernel
theorem dX4_readInner_0 : decode cX4_readInner 0 = .ok (.iload_n 2, 1) := by decide +kernel
theorem dX4_readInner_1 : decode cX4_readInner 1 = .ok (.bipush 6, 2) := by decide +kernel
theorem dX4_readInner_3 : decode cX4_readInner 3 = .ok (.if_icmp .lt 9, 3) := by decide +kernel
theorem dX4_readInner_6 : decode cX4_readInner 6 = .ok (.aload_n 0, 1) := by decide +kernel
theorem dX4_readInner_7 : decode cX4_readInner 7 = .ok (.iconst 5, 1) := by decide +kernel
theorem dX4_readInner_8 : decode cX4_readInner 8 = .ok (.invokevirtual 50, 3) := by decide +kernel
theorem dX4_readInner_11 : decode cX4_readInner 11 = .ok (.ireturn, 1) := by decide +kernel
theorem dX4_readInner_12 : decode cX4_readInner 12 = .ok (.aload_n 0, 1) := by decide +kernel
theorem dX4_readInner_13 : decode cX4_readInner 13 = .ok (.dup, 1) := by decide +kernel
theorem dX4_readInner_14 : decode cX4_readInner 14 = .ok (.getfield 22, 3) := by decide +kernel
theorem dX4_readInner_17 : decode cX4_readInner 17 = .ok (.iconst 1, 1) := by decide +kernel
theorem dX4_readInner_18 : decode cX4_readInner 18 = .ok (.iadd, 1) := by decide +kernel
theorem dX4_readInner_19 : decode cX4_readInner 19 = .ok (.putfield 22, 3) := by decide +kernel
theorem dX4_readInner_22 : decode cX4_readInner 22 = .ok (.iload_n 1, 1) := by decide +kernel
theorem dX4_readInner_23 : decode cX4_readInner 23 = .ok (.bipush 40, 2) := by decide +kernel
theorem dX4_readInner_25 : decode cX4_readInner 25 = .ok (.if_icmp .ne 28, 3) := by decide +kernel
theorem dX4_readInner_28 : decode cX4_readInner 28 = .ok (.aload_n 0, 1) := by decide +kernel
theorem dX4_readInner_29 : decode cX4_readInner 29 = .ok (.iload_n 2, 1) := by decide +kernel
theorem dX4_readInner_30 : decode cX4_readInner 30 = .ok (.iconst 1, 1) := by decide +kernel
theorem dX4_readInner_31 : decode cX4_readInner 31 = .ok (.iadd, 1) := by decide +kernel
theorem dX4_readInner_32 : decode cX4_readInner 32 = .ok (.invokevirtual 66, 3) := by decide +kernel
theorem dX4_readInner_35 : decode cX4_readInner 35 = .ok (.ifCond .eq 16, 3) := by decide +kernel
theorem dX4_readInner_38 : decode cX4_readInner 38 = .ok (.aload_n 0, 1) := by decide +kernel
theorem dX4_readInner_39 : decode cX4_readInner 39 = .ok (.bipush 41, 2) := by decide +kernel
theorem dX4_readInner_41 : decode cX4_readInner 41 = .ok (.invokevirtual 39, 3) := by decide +kernel
theorem dX4_readInner_44 : decode cX4_readInner 44 = .ok (.ifCond .eq 7, 3) := by decide +kernel
theorem dX4_readInner_47 : decode cX4_readInner 47 = .ok (.iconst 1, 1) := by decide +kernel
theorem dX4_readInner_48 : decode cX4_readInner 48 = .ok (.goto 4, 3) := by decide +kernel
theorem dX4_readInner_51 : decode cX4_readInner 51 = .ok (.iconst 0, 1) := by decide +kernel
theorem dX4_readInner_52 : decode cX4_readInner 52 = .ok (.ireturn, 1) := by decide +kernel
theorem dX4_readInner_53 : decode cX4_readInner 53 = .ok (.aload_n 0, 1) := by decide +kernel
theorem dX4_readInner_54 : decode cX4_readInner 54 = .ok (.iload_n 2, 1) := by decide +kernel
theorem dX4_readInner_55 : decode cX4_readInner 55 = .ok (.iconst 1, 1) := by decide +kernel
theorem dX4_readInner_56 : decode cX4_readInner 56 = .ok (.iadd, 1) := by decide +kernel
theorem dX4_readInner_57 : decode cX4_readInner 57 = .ok (.invokevirtual 81, 3) := by decide +kernel
theorem dX4_readInner_60 : decode cX4_readInner 60 = .ok (.istore_n 3, 1) := by decide +kernel
theorem dX4_readInner_61 : decode cX4_readInner 61 = .ok (.aload_n 0, 1) := by decide +kernel
theorem dX4_readInner_62 : decode cX4_readInner 62 = .ok (.getfield 12, 3) := by decide +kernel
theorem dX4_readInner_65 : decode cX4_readInner 65 = .ok (.bipush 33, 2) := by decide +kernel
theorem dX4_readInner_67 : decode cX4_readInner 67 = .ok (.iconst 0, 1) := by decide +kernel
theorem dX4_readInner_68 : decode cX4_readInner 68 = .ok (.invokevirtual 74, 3) := by decide +kernel
theorem dX4_readInner_71 : decode cX4_readInner 71 = .ok (.pop, 1) := by decide +kernel
theorem dX4_readInner_72 : decode cX4_readInner 72 = .ok (.iload_n 3, 1) := by decide +kernel
theorem dX4_readInner_73 : decode cX4_readInner 73 = .ok (.ireturn, 1) := by decide +kernel
theorem dX4_readSum_0 : decode cX4_readSum 0 = .ok (.aload_n 0, 1) := by decide +kernel
theorem dX4_readSum_1 : decode cX4_readSum 1 = .ok (.iload_n 1, 1) := by decide +kernel
theorem dX4_readSum_2 : decode cX4_readSum 2 = .ok (.invokevirtual 88, 3) := by decide +kernel
theorem dX4_readSum_5 : decode cX4_readSum 5 = .ok (.istore_n 2, 1) := by decide +kernel
theorem dX4_readSum_6 : decode cX4_readSum 6 = .ok (.iconst 0, 1) := by decide +kernel
theorem dX4_readSum_7 : decode cX4_readSum 7 = .ok (.istore_n 3, 1) := by decide +kernel
theorem dX4_readSum_8 : decode cX4_readSum 8 = .ok (.iload_n 3, 1) := by decide +kernel
theorem dX4_readSum_9 : decode cX4_readSum 9 = .ok (.sipush 200, 3) := by decide +kernel
theorem dX4_readSum_12 : decode cX4_readSum 12 = .ok (.if_icmp .ge 56, 3) := by decide +kernel
theorem dX4_readSum_15 : decode cX4_readSum 15 = .ok (.iload_n 2, 1) := by decide +kernel
theorem dX4_readSum_16 : decode cX4_readSum 16 = .ok (.ifCond .eq 52, 3) := by decide +kernel
theorem dX4_readSum_19 : decode cX4_readSum 19 = .ok (.aload_n 0, 1) := by decide +kernel
theorem dX4_readSum_20 : decode cX4_readSum 20 = .ok (.invokevirtual 47, 3) := by decide +kernel
theorem dX4_readSum_23 : decode cX4_readSum 23 = .ok (.invokestatic 91, 3) := by decide +kernel
theorem dX4_readSum_26 : decode cX4_readSum 26 = .ok (.ifCond .eq 42, 3) := by decide +kernel
theorem dX4_readSum_29 : decode cX4_readSum 29 = .ok (.aload_n 0, 1) := by decide +kernel
theorem dX4_readSum_30 : decode cX4_readSum 30 = .ok (.invokevirtual 47, 3) := by decide +kernel
theorem dX4_readSum_33 : decode cX4_readSum 33 = .ok (.istore 4, 2) := by decide +kernel
theorem dX4_readSum_35 : decode cX4_readSum 35 = .ok (.aload_n 0, 1) := by decide +kernel
theorem dX4_readSum_36 : decode cX4_readSum 36 = .ok (.dup, 1) := by decide +kernel
theorem dX4_readSum_37 : decode cX4_readSum 37 = .ok (.getfield 22, 3) := by decide +kernel
theorem dX4_readSum_40 : decode cX4_readSum 40 = .ok (.iconst 1, 1) := by decide +kernel
theorem dX4_readSum_41 : decode cX4_readSum 41 = .ok (.iadd, 1) := by decide +kernel
theorem dX4_readSum_42 : decode cX4_readSum 42 = .ok (.putfield 22, 3) := by decide +kernel
theorem dX4_readSum_45 : decode cX4_readSum 45 = .ok (.aload_n 0, 1) := by decide +kernel
theorem dX4_readSum_46 : decode cX4_readSum 46 = .ok (.iload_n 1, 1) := by decide +kernel
theorem dX4_readSum_47 : decode cX4_readSum 47 = .ok (.invokevirtual 88, 3) := by decide +kernel
theorem dX4_readSum_50 : decode cX4_readSum 50 = .ok (.istore_n 2, 1) := by decide +kernel
theorem dX4_readSum_51 : decode cX4_readSum 51 = .ok (.aload_n 0, 1) := by decide +kernel
theorem dX4_readSum_52 : decode cX4_readSum 52 = .ok (.getfield 12, 3) := by decide +kernel
theorem dX4_readSum_55 : decode cX4_readSum 55 = .ok (.iload 4, 2) := by decide +kernel
theorem dX4_readSum_57 : decode cX4_readSum 57 = .ok (.iconst 0, 1) := by decide +kernel
theorem dX4_readSum_58 : decode cX4_readSum 58 = .ok (.invokevirtual 74, 3) := by decide +kernel
theorem dX4_readSum_61 : decode cX4_readSum 61 = .ok (.pop, 1) := by decide +kernel
theorem dX4_readSum_62 : decode cX4_readSum 62 = .ok (.iinc 3 1, 3) := by decide +kernel
theorem dX4_readSum_65 : decode cX4_readSum 65 = .ok (.goto (-57), 3) := by decide +kernel
theorem dX4_readSum_68 : decode cX4_readSum 68 = .ok (.iload_n 2, 1) := by decide +kernel
theorem dX4_readSum_69 : decode cX4_readSum 69 = .ok (.ireturn, 1) := by decide +kernel
theorem dX4_readTerm_0 : decode cX4_readTerm 0 = .ok (.aload_n 0, 1) := by decide +kernel
theorem dX4_readTerm_1 : decode cX4_readTerm 1 = .ok (.iload_n 1, 1) := by decide +kernel
theorem dX4_readTerm_2 : decode cX4_readTerm 2 = .ok (.invokevirtual 94, 3) := by decide +kernel
theorem dX4_readTerm_5 : decode cX4_readTerm 5 = .ok (.istore_n 2, 1) := by decide +kernel
theorem dX4_readTerm_6 : decode cX4_readTerm 6 = .ok (.iconst 0, 1) := by decide +kernel
theorem dX4_readTerm_7 : decode cX4_readTerm 7 = .ok (.istore_n 3, 1) := by decide +kernel
theorem dX4_readTerm_8 : decode cX4_readTerm 8 = .ok (.iload_n 3, 1) := by decide +kernel
theorem dX4_readTerm_9 : decode cX4_readTerm 9 = .ok (.sipush 200, 3) := by decide +kernel
theorem dX4_readTerm_12 : decode cX4_readTerm 12 = .ok (.if_icmp .ge 56, 3) := by decide +kernel
theorem dX4_readTerm_15 : decode cX4_readTerm 15 = .ok (.iload_n 2, 1) := by decide +kernel
theorem dX4_readTerm_16 : decode cX4_readTerm 16 = .ok (.ifCond .eq 52, 3) := by decide +kernel
theorem dX4_readTerm_19 : decode cX4_readTerm 19 = .ok (.aload_n 0, 1) := by decide +kernel
theorem dX4_readTerm_20 : decode cX4_readTerm 20 = .ok (.invokevirtual 47, 3) := by decide +kernel
theorem dX4_readTerm_23 : decode cX4_readTerm 23 = .ok (.invokestatic 97, 3) := by decide +kernel
theorem dX4_readTerm_26 : decode cX4_readTerm 26 = .ok (.ifCond .eq 42, 3) := by decide +kernel
theorem dX4_readTerm_29 : decode cX4_readTerm 29 = .ok (.aload_n 0, 1) := by decide +kernel
theorem dX4_readTerm_30 : decode cX4_readTerm 30 = .ok (.invokevirtual 47, 3) := by decide +kernel
theorem dX4_readTerm_33 : decode cX4_readTerm 33 = .ok (.istore 4, 2) := by decide +kernel
theorem dX4_readTerm_35 : decode cX4_readTerm 35 = .ok (.aload_n 0, 1) := by decide +kernel
theorem dX4_readTerm_36 : decode cX4_readTerm 36 = .ok (.dup, 1) := by decide +kernel
theorem dX4_readTerm_37 : decode cX4_readTerm 37 = .ok (.getfield 22, 3) := by decide +kernel
theorem dX4_readTerm_40 : decode cX4_readTerm 40 = .ok (.iconst 1, 1) := by decide +kernel
theorem dX4_readTerm_41 : decode cX4_readTerm 41 = .ok (.iadd, 1) := by decide +kernel
theorem dX4_readTerm_42 : decode cX4_readTerm 42 = .ok (.putfield 22, 3) := by decide +kernel
theorem dX4_readTerm_45 : decode cX4_readTerm 45 = .ok (.aload_n 0, 1) := by decide +kernel
theorem dX4_readTerm_46 : decode cX4_readTerm 46 = .ok (.iload_n 1, 1) := by decide +kernel
theorem dX4_readTerm_47 : decode cX4_readTerm 47 = .ok (.invokevirtual 94, 3) := by decide +kernel
theorem dX4_readTerm_50 : decode cX4_readTerm 50 = .ok (.istore_n 2, 1) := by decide +kernel
theorem dX4_readTerm_51 : decode cX4_readTerm 51 = .ok (.aload_n 0, 1) := by decide +kernel
theorem dX4_readTerm_52 : decode cX4_readTerm 52 = .ok (.getfield 12, 3) := by decide +kernel
theorem dX4_readTerm_55 : decode cX4_readTerm 55 = .ok (.iload 4, 2) := by decide +kernel
theorem dX4_readTerm_57 : decode cX4_readTerm 57 = .ok (.iconst 0, 1) := by decide +kernel
theorem dX4_readTerm_58 : decode cX4_readTerm 58 = .ok (.invokevirtual 74, 3) := by decide +kernel
theorem dX4_readTerm_61 : decode cX4_readTerm 61 = .ok (.pop, 1) := by decide +kernel
theorem dX4_readTerm_62 : decode cX4_readTerm 62 = .ok (.iinc 3 1, 3) := by decide +kernel
theorem dX4_readTerm_65 : decode cX4_readTerm 65 = .ok (.goto (-57), 3) := by decide +kernel
theorem dX4_readTerm_68 : decode cX4_readTerm 68 = .ok (.iload_n 2, 1) := by decide +kernel
theorem dX4_readTerm_69 : decode cX4_readTerm 69 = .ok (.ireturn, 1) := by decide +kernel
theorem dX4_readFactor_0 : decode cX4_readFactor 0 = .ok (.aload_n 0, 1) := by decide +kernel
theorem dX4_readFactor_1 : decode cX4_readFactor 1 = .ok (.invokevirtual 47, 3) := by decide +kernel
theorem dX4_readFactor_4 : decode cX4_readFactor 4 = .ok (.istore_n 2, 1) := by decide +kernel
theorem dX4_readFactor_5 : decode cX4_readFactor 5 = .ok (.iload_n 2, 1) := by decide +kernel
theorem dX4_readFactor_6 : decode cX4_readFactor 6 = .ok (.invokestatic 100, 3) := by decide +kernel
theorem dX4_readFactor_9 : decode cX4_readFactor 9 = .ok (.ifCond .eq 8, 3) := by decide +kernel
theorem dX4_readFactor_12 : decode cX4_readFactor 12 = .ok (.aload_n 0, 1) := by decide +kernel
theorem dX4_readFactor_13 : decode cX4_readFactor 13 = .ok (.invokevirtual 103, 3) := by decide +kernel
theorem dX4_readFactor_16 : decode cX4_readFactor 16 = .ok (.ireturn, 1) := by decide +kernel
theorem dX4_readFactor_17 : decode cX4_readFactor 17 = .ok (.iload_n 2, 1) := by decide +kernel
theorem dX4_readFactor_18 : decode cX4_readFactor 18 = .ok (.bipush 91, 2) := by decide +kernel
theorem dX4_readFactor_20 : decode cX4_readFactor 20 = .ok (.if_icmp .ne 50, 3) := by decide +kernel
theorem dX4_readFactor_23 : decode cX4_readFactor 23 = .ok (.iload_n 1, 1) := by decide +kernel
theorem dX4_readFactor_24 : decode cX4_readFactor 24 = .ok (.bipush 6, 2) := by decide +kernel
theorem dX4_readFactor_26 : decode cX4_readFactor 26 = .ok (.if_icmp .lt 9, 3) := by decide +kernel
theorem dX4_readFactor_29 : decode cX4_readFactor 29 = .ok (.aload_n 0, 1) := by decide +kernel
theorem dX4_readFactor_30 : decode cX4_readFactor 30 = .ok (.iconst 5, 1) := by decide +kernel
theorem dX4_readFactor_31 : decode cX4_readFactor 31 = .ok (.invokevirtual 50, 3) := by decide +kernel
theorem dX4_readFactor_34 : decode cX4_readFactor 34 = .ok (.ireturn, 1) := by decide +kernel
theorem dX4_readFactor_35 : decode cX4_readFactor 35 = .ok (.aload_n 0, 1) := by decide +kernel
theorem dX4_readFactor_36 : decode cX4_readFactor 36 = .ok (.dup, 1) := by decide +kernel
theorem dX4_readFactor_37 : decode cX4_readFactor 37 = .ok (.getfield 22, 3) := by decide +kernel
theorem dX4_readFactor_40 : decode cX4_readFactor 40 = .ok (.iconst 1, 1) := by decide +kernel
theorem dX4_readFactor_41 : decode cX4_readFactor 41 = .ok (.iadd, 1) := by decide +kernel
theorem dX4_readFactor_42 : decode cX4_readFactor 42 = .ok (.putfield 22, 3) := by decide +kernel
theorem dX4_readFactor_45 : decode cX4_readFactor 45 = .ok (.aload_n 0, 1) := by decide +kernel
theorem dX4_readFactor_46 : decode cX4_readFactor 46 = .ok (.iload_n 1, 1) := by decide +kernel
theorem dX4_readFactor_47 : decode cX4_readFactor 47 = .ok (.iconst 1, 1) := by decide +kernel
theorem dX4_readFactor_48 : decode cX4_readFactor 48 = .ok (.iadd, 1) := by decide +kernel
theorem dX4_readFactor_49 : decode cX4_readFactor 49 = .ok (.invokevirtual 60, 3) := by decide +kernel
theorem dX4_readFactor_52 : decode cX4_readFactor 52 = .ok (.ifCond .eq 16, 3) := by decide +kernel
theorem dX4_readFactor_55 : decode cX4_readFactor 55 = .ok (.aload_n 0, 1) := by decide +kernel
theorem dX4_readFactor_56 : decode cX4_readFactor 56 = .ok (.bipush 93, 2) := by decide +kernel
theorem dX4_readFactor_58 : decode cX4_readFactor 58 = .ok (.invokevirtual 39, 3) := by decide +kernel
theorem dX4_readFactor_61 : decode cX4_readFactor 61 = .ok (.ifCond .eq 7, 3) := by decide +kernel
theorem dX4_readFactor_64 : decode cX4_readFactor 64 = .ok (.iconst 1, 1) := by decide +kernel
theorem dX4_readFactor_65 : decode cX4_readFactor 65 = .ok (.goto 4, 3) := by decide +kernel
theorem dX4_readFactor_68 : decode cX4_readFactor 68 = .ok (.iconst 0, 1) := by decide +kernel
theorem dX4_readFactor_69 : decode cX4_readFactor 69 = .ok (.ireturn, 1) := by decide +kernel
theorem dX4_readFactor_70 : decode cX4_readFactor 70 = .ok (.iload_n 2, 1) := by decide +kernel
theorem dX4_readFactor_71 : decode cX4_readFactor 71 = .ok (.invokestatic 106, 3) := by decide +kernel
theorem dX4_readFactor_74 : decode cX4_readFactor 74 = .ok (.istore_n 3, 1) := by decide +kernel
theorem dX4_readFactor_75 : decode cX4_readFactor 75 = .ok (.iload_n 3, 1) := by decide +kernel
theorem dX4_readFactor_76 : decode cX4_readFactor 76 = .ok (.iconst (-1), 1) := by decide +kernel
theorem dX4_readFactor_77 : decode cX4_readFactor 77 = .ok (.if_icmp .ne 9, 3) := by decide +kernel
theorem dX4_readFactor_80 : decode cX4_readFactor 80 = .ok (.aload_n 0, 1) := by decide +kernel
theorem dX4_readFactor_81 : decode cX4_readFactor 81 = .ok (.iconst 1, 1) := by decide +kernel
theorem dX4_readFactor_82 : decode cX4_readFactor 82 = .ok (.invokevirtual 50, 3) := by decide +kernel
theorem dX4_readFactor_85 : decode cX4_readFactor 85 = .ok (.ireturn, 1) := by decide +kernel
theorem dX4_readFactor_86 : decode cX4_readFactor 86 = .ok (.aload_n 0, 1) := by decide +kernel
theorem dX4_readFactor_87 : decode cX4_readFactor 87 = .ok (.dup, 1) := by decide +kernel
theorem dX4_readFactor_88 : decode cX4_readFactor 88 = .ok (.getfield 22, 3) := by decide +kernel
theorem dX4_readFactor_91 : decode cX4_readFactor 91 = .ok (.iconst 1, 1) := by decide +kernel
theorem dX4_readFactor_92 : decode cX4_readFactor 92 = .ok (.iadd, 1) := by decide +kernel
theorem dX4_readFactor_93 : decode cX4_readFactor 93 = .ok (.putfield 22, 3) := by decide +kernel
theorem dX4_readFactor_96 : decode cX4_readFactor 96 = .ok (.aload_n 0, 1) := by decide +kernel
theorem dX4_readFactor_97 : decode cX4_readFactor 97 = .ok (.getfield 12, 3) := by decide +kernel
theorem dX4_readFactor_100 : decode cX4_readFactor 100 = .ok (.iconst 2, 1) := by decide +kernel
theorem dX4_readFactor_101 : decode cX4_readFactor 101 = .ok (.iload_n 3, 1) := by decide +kernel
theorem dX4_readFactor_102 : decode cX4_readFactor 102 = .ok (.invokevirtual 74, 3) := by decide +kernel
theorem dX4_readFactor_105 : decode cX4_readFactor 105 = .ok (.pop, 1) := by decide +kernel
theorem dX4_readFactor_106 : decode cX4_readFactor 106 = .ok (.iconst 1, 1) := by decide +kernel
theorem dX4_readFactor_107 : decode cX4_readFactor 107 = .ok (.ireturn, 1) := by decide +kernel
theorem dX4_readNumber_0 : decode cX4_readNumber 0 = .ok (.iconst 0, 1) := by decide +kernel
theorem dX4_readNumber_1 : decode cX4_readNumber 1 = .ok (.istore_n 1, 1) := by decide +kernel
theorem dX4_readNumber_2 : decode cX4_readNumber 2 = .ok (.iconst 0, 1) := by decide +kernel
theorem dX4_readNumber_3 : decode cX4_readNumber 3 = .ok (.istore_n 2, 1) := by decide +kernel
theorem dX4_readNumber_4 : decode cX4_readNumber 4 = .ok (.iload_n 2, 1) := by decide +kernel
theorem dX4_readNumber_5 : decode cX4_readNumber 5 = .ok (.iconst 5, 1) := by decide +kernel
theorem dX4_readNumber_6 : decode cX4_readNumber 6 = .ok (.if_icmp .ge 42, 3) := by decide +kernel
theorem dX4_readNumber_9 : decode cX4_readNumber 9 = .ok (.aload_n 0, 1) := by decide +kernel
theorem dX4_readNumber_10 : decode cX4_readNumber 10 = .ok (.invokevirtual 47, 3) := by decide +kernel
theorem dX4_readNumber_13 : decode cX4_readNumber 13 = .ok (.invokestatic 100, 3) := by decide +kernel
theorem dX4_readNumber_16 : decode cX4_readNumber 16 = .ok (.ifCond .eq 32, 3) := by decide +kernel
theorem dX4_readNumber_19 : decode cX4_readNumber 19 = .ok (.bipush 10, 2) := by decide +kernel
theorem dX4_readNumber_21 : decode cX4_readNumber 21 = .ok (.iload_n 1, 1) := by decide +kernel
theorem dX4_readNumber_22 : decode cX4_readNumber 22 = .ok (.imul, 1) := by decide +kernel
theorem dX4_readNumber_23 : decode cX4_readNumber 23 = .ok (.aload_n 0, 1) := by decide +kernel
theorem dX4_readNumber_24 : decode cX4_readNumber 24 = .ok (.invokevirtual 47, 3) := by decide +kernel
theorem dX4_readNumber_27 : decode cX4_readNumber 27 = .ok (.iadd, 1) := by decide +kernel
theorem dX4_readNumber_28 : decode cX4_readNumber 28 = .ok (.bipush 48, 2) := by decide +kernel
theorem dX4_readNumber_30 : decode cX4_readNumber 30 = .ok (.isub, 1) := by decide +kernel
theorem dX4_readNumber_31 : decode cX4_readNumber 31 = .ok (.istore_n 1, 1) := by decide +kernel
theorem dX4_readNumber_32 : decode cX4_readNumber 32 = .ok (.aload_n 0, 1) := by decide +kernel
theorem dX4_readNumber_33 : decode cX4_readNumber 33 = .ok (.dup, 1) := by decide +kernel
theorem dX4_readNumber_34 : decode cX4_readNumber 34 = .ok (.getfield 22, 3) := by decide +kernel
theorem dX4_readNumber_37 : decode cX4_readNumber 37 = .ok (.iconst 1, 1) := by decide +kernel
theorem dX4_readNumber_38 : decode cX4_readNumber 38 = .ok (.iadd, 1) := by decide +kernel
theorem dX4_readNumber_39 : decode cX4_readNumber 39 = .ok (.putfield 22, 3) := by decide +kernel
theorem dX4_readNumber_42 : decode cX4_readNumber 42 = .ok (.iinc 2 1, 3) := by decide +kernel
theorem dX4_readNumber_45 : decode cX4_readNumber 45 = .ok (.goto (-41), 3) := by decide +kernel
theorem dX4_readNumber_48 : decode cX4_readNumber 48 = .ok (.aload_n 0, 1) := by decide +kernel
theorem dX4_readNumber_49 : decode cX4_readNumber 49 = .ok (.invokevirtual 47, 3) := by decide +kernel
theorem dX4_readNumber_52 : decode cX4_readNumber 52 = .ok (.invokestatic 100, 3) := by decide +kernel
theorem dX4_readNumber_55 : decode cX4_readNumber 55 = .ok (.ifCond .eq 9, 3) := by decide +kernel
theorem dX4_readNumber_58 : decode cX4_readNumber 58 = .ok (.aload_n 0, 1) := by decide +kernel
theorem dX4_readNumber_59 : decode cX4_readNumber 59 = .ok (.iconst 2, 1) := by decide +kernel
theorem dX4_readNumber_60 : decode cX4_readNumber 60 = .ok (.invokevirtual 50, 3) := by decide +kernel
theorem dX4_readNumber_63 : decode cX4_readNumber 63 = .ok (.ireturn, 1) := by decide +kernel
theorem dX4_readNumber_64 : decode cX4_readNumber 64 = .ok (.aload_n 0, 1) := by decide +kernel
theorem dX4_readNumber_65 : decode cX4_readNumber 65 = .ok (.getfield 12, 3) := by decide +kernel
theorem dX4_readNumber_68 : decode cX4_readNumber 68 = .ok (.iconst 1, 1) := by decide +kernel
theorem dX4_readNumber_69 : decode cX4_readNumber 69 = .ok (.iload_n 1, 1) := by decide +kernel
theorem dX4_readNumber_70 : decode cX4_readNumber 70 = .ok (.invokevirtual 74, 3) := by decide +kernel
theorem dX4_readNumber_73 : decode cX4_readNumber 73 = .ok (.pop, 1) := by decide +kernel
theorem dX4_readNumber_74 : decode cX4_readNumber 74 = .ok (.iconst 1, 1) := by decide +kernel
theorem dX4_readNumber_75 : decode cX4_readNumber 75 = .ok (.ireturn, 1) := by decide +kernel
theorem dX4_isPlus_0 : decode cX4_isPlus 0 = .ok (.iload_n 0, 1) := by decide +kernel
theorem dX4_isPlus_1 : decode cX4_isPlus 1 = .ok (.bipush 43, 2) := by decide +kernel
theorem dX4_isPlus_3 : decode cX4_isPlus 3 = .ok (.if_icmp .eq 9, 3) := by decide +kernel
theorem dX4_isPlus_6 : decode cX4_isPlus 6 = .ok (.iload_n 0, 1) := by decide +kernel
theorem dX4_isPlus_7 : decode cX4_isPlus 7 = .ok (.bipush 45, 2) := by decide +kernel
theorem dX4_isPlus_9 : decode cX4_isPlus 9 = .ok (.if_icmp .ne 7, 3) := by decide +kernel
theorem dX4_isPlus_12 : decode cX4_isPlus 12 = .ok (.iconst 1, 1) := by decide +kernel
theorem dX4_isPlus_13 : decode cX4_isPlus 13 = .ok (.goto 4, 3) := by decide +kernel
theorem dX4_isPlus_16 : decode cX4_isPlus 16 = .ok (.iconst 0, 1) := by decide +kernel
theorem dX4_isPlus_17 : decode cX4_isPlus 17 = .ok (.ireturn, 1) := by decide +kernel
theorem dX4_isTimes_0 : decode cX4_isTimes 0 = .ok (.iload_n 0, 1) := by decide +kernel
theorem dX4_isTimes_1 : decode cX4_isTimes 1 = .ok (.bipush 42, 2) := by decide +kernel
theorem dX4_isTimes_3 : decode cX4_isTimes 3 = .ok (.if_icmp .eq 15, 3) := by decide +kernel
theorem dX4_isTimes_6 : decode cX4_isTimes 6 = .ok (.iload_n 0, 1) := by decide +kernel
theorem dX4_isTimes_7 : decode cX4_isTimes 7 = .ok (.bipush 47, 2) := by decide +kernel
theorem dX4_isTimes_9 : decode cX4_isTimes 9 = .ok (.if_icmp .eq 9, 3) := by decide +kernel
theorem dX4_isTimes_12 : decode cX4_isTimes 12 = .ok (.iload_n 0, 1) := by decide +kernel
theorem dX4_isTimes_13 : decode cX4_isTimes 13 = .ok (.bipush 37, 2) := by decide +kernel
theorem dX4_isTimes_15 : decode cX4_isTimes 15 = .ok (.if_icmp .ne 7, 3) := by decide +kernel
theorem dX4_isTimes_18 : decode cX4_isTimes 18 = .ok (.iconst 1, 1) := by decide +kernel
theorem dX4_isTimes_19 : decode cX4_isTimes 19 = .ok (.goto 4, 3) := by decide +kernel
theorem dX4_isTimes_22 : decode cX4_isTimes 22 = .ok (.iconst 0, 1) := by decide +kernel
theorem dX4_isTimes_23 : decode cX4_isTimes 23 = .ok (.ireturn, 1) := by decide +kernel
theorem dX4_isDigit_0 : decode cX4_isDigit 0 = .ok (.iload_n 0, 1) := by decide +kernel
theorem dX4_isDigit_1 : decode cX4_isDigit 1 = .ok (.bipush 48, 2) := by decide +kernel
theorem dX4_isDigit_3 : decode cX4_isDigit 3 = .ok (.if_icmp .lt 13, 3) := by decide +kernel
theorem dX4_isDigit_6 : decode cX4_isDigit 6 = .ok (.iload_n 0, 1) := by decide +kernel
theorem dX4_isDigit_7 : decode cX4_isDigit 7 = .ok (.bipush 57, 2) := by decide +kernel
theorem dX4_isDigit_9 : decode cX4_isDigit 9 = .ok (.if_icmp .gt 7, 3) := by decide +kernel
theorem dX4_isDigit_12 : decode cX4_isDigit 12 = .ok (.iconst 1, 1) := by decide +kernel
theorem dX4_isDigit_13 : decode cX4_isDigit 13 = .ok (.goto 4, 3) := by decide +kernel
theorem dX4_isDigit_16 : decode cX4_isDigit 16 = .ok (.iconst 0, 1) := by decide +kernel
theorem dX4_isDigit_17 : decode cX4_isDigit 17 = .ok (.ireturn, 1) := by decide +kernel
theorem dX4_peek_0 : decode cX4_peek 0 = .ok (.aload_n 0, 1) := by decide +kernel
theorem dX4_peek_1 : decode cX4_peek 1 = .ok (.getfield 22, 3) := by decide +kernel
theorem dX4_peek_4 : decode cX4_peek 4 = .ok (.aload_n 0, 1) := by decide +kernel
theorem dX4_peek_5 : decode cX4_peek 5 = .ok (.getfield 26, 3) := by decide +kernel
theorem dX4_peek_8 : decode cX4_peek 8 = .ok (.if_icmp .ge 17, 3) := by decide +kernel
theorem dX4_peek_11 : decode cX4_peek 11 = .ok (.aload_n 0, 1) := by decide +kernel
theorem dX4_peek_12 : decode cX4_peek 12 = .ok (.getfield 18, 3) := by decide +kernel
theorem dX4_peek_15 : decode cX4_peek 15 = .ok (.aload_n 0, 1) := by decide +kernel
theorem dX4_peek_16 : decode cX4_peek 16 = .ok (.getfield 22, 3) := by decide +kernel
theorem dX4_peek_19 : decode cX4_peek 19 = .ok (.invokevirtual 112, 3) := by decide +kernel
theorem dX4_peek_22 : decode cX4_peek 22 = .ok (.goto 4, 3) := by decide +kernel
theorem dX4_peek_25 : decode cX4_peek 25 = .ok (.iconst (-1), 1) := by decide +kernel
theorem dX4_peek_26 : decode cX4_peek 26 = .ok (.ireturn, 1) := by decide +kernel
theorem dX4_accept_0 : decode cX4_accept 0 = .ok (.aload_n 0, 1) := by decide +kernel
theorem dX4_accept_1 : decode cX4_accept 1 = .ok (.invokevirtual 47, 3) := by decide +kernel
theorem dX4_accept_4 : decode cX4_accept 4 = .ok (.iload_n 1, 1) := by decide +kernel
theorem dX4_accept_5 : decode cX4_accept 5 = .ok (.if_icmp .eq 9, 3) := by decide +kernel
theorem dX4_accept_8 : decode cX4_accept 8 = .ok (.aload_n 0, 1) := by decide +kernel
theorem dX4_accept_9 : decode cX4_accept 9 = .ok (.iconst 1, 1) := by decide +kernel
theorem dX4_accept_10 : decode cX4_accept 10 = .ok (.invokevirtual 50, 3) := by decide +kernel
theorem dX4_accept_13 : decode cX4_accept 13 = .ok (.ireturn, 1) := by decide +kernel
theorem dX4_accept_14 : decode cX4_accept 14 = .ok (.aload_n 0, 1) := by decide +kernel
theorem dX4_accept_15 : decode cX4_accept 15 = .ok (.dup, 1) := by decide +kernel
theorem dX4_accept_16 : decode cX4_accept 16 = .ok (.getfield 22, 3) := by decide +kernel
theorem dX4_accept_19 : decode cX4_accept 19 = .ok (.iconst 1, 1) := by decide +kernel
theorem dX4_accept_20 : decode cX4_accept 20 = .ok (.iadd, 1) := by decide +kernel
theorem dX4_accept_21 : decode cX4_accept 21 = .ok (.putfield 22, 3) := by decide +kernel
theorem dX4_accept_24 : decode cX4_accept 24 = .ok (.iconst 1, 1) := by decide +kernel
theorem dX4_accept_25 : decode cX4_accept 25 = .ok (.ireturn, 1) := by decide +kernel
theorem dX4_fail_0 : decode cX4_fail 0 = .ok (.aload_n 0, 1) := by decide +kernel
theorem dX4_fail_1 : decode cX4_fail 1 = .ok (.sipush (-1000), 3) := by decide +kernel
theorem dX4_fail_4 : decode cX4_fail 4 = .ok (.iload_n 1, 1) := by decide +kernel
theorem dX4_fail_5 : decode cX4_fail 5 = .ok (.imul, 1) := by decide +kernel
theorem dX4_fail_6 : decode cX4_fail 6 = .ok (.aload_n 0, 1) := by decide +kernel
theorem dX4_fail_7 : decode cX4_fail 7 = .ok (.getfield 22, 3) := by decide +kernel
theorem dX4_fail_10 : decode cX4_fail 10 = .ok (.isub, 1) := by decide +kernel
theorem dX4_fail_11 : decode cX4_fail 11 = .ok (.putfield 29, 3) := by decide +kernel
theorem dX4_fail_14 : decode cX4_fail 14 = .ok (.iconst 0, 1) := by decide +kernel
theorem dX4_fail_15 : decode cX4_fail 15 = .ok (.ireturn, 1) := by decide +kernel
theorem dX5_init_0 : decode cX5_init 0 = .ok (.aload_n 0, 1) := by decide +kernel
theorem dX5_init_1 : decode cX5_init 1 = .ok (.invokespecial 3, 3) := by decide +kernel
theorem dX5_init_4 : decode cX5_init 4 = .ok (.aload_n 0, 1) := by decide +kernel
theorem dX5_init_5 : decode cX5_init 5 = .ok (.bipush 10, 2) := by decide +kernel
theorem dX5_init_7 : decode cX5_init 7 = .ok (.newarray .int, 2) := by decide +kernel
theorem dX5_init_9 : decode cX5_init 9 = .ok (.putfield 11, 3) := by decide +kernel
theorem dX5_init_12 : decode cX5_init 12 = .ok (.aload_n 0, 1) := by decide +kernel
theorem dX5_init_13 : decode cX5_init 13 = .ok (.bipush 10, 2) := by decide +kernel
theorem dX5_init_15 : decode cX5_init 15 = .ok (.newarray .int, 2) := by decide +kernel
theorem dX5_init_17 : decode cX5_init 17 = .ok (.putfield 15, 3) := by decide +kernel
theorem dX5_init_20 : decode cX5_init 20 = .ok (.aload_n 0, 1) := by decide +kernel
theorem dX5_init_21 : decode cX5_init 21 = .ok (.bipush 10, 2) := by decide +kernel
theorem dX5_init_23 : decode cX5_init 23 = .ok (.newarray .int, 2) := by decide +kernel
theorem dX5_init_25 : decode cX5_init 25 = .ok (.putfield 18, 3) := by decide +kernel
theorem dX5_init_28 : decode cX5_init 28 = .ok (.aload_n 0, 1) := by decide +kernel
theorem dX5_init_29 : decode cX5_init 29 = .ok (.bipush 10, 2) := by decide +kernel
theorem dX5_init_31 : decode cX5_init 31 = .ok (.newarray .int, 2) := by decide +kernel
theorem dX5_init_33 : decode cX5_init 33 = .ok (.putfield 21, 3) := by decide +kernel
theorem dX5_init_36 : decode cX5_init 36 = .ok (.aload_n 0, 1) := by decide +kernel
theorem dX5_init_37 : decode cX5_init 37 = .ok (.bipush 10, 2) := by decide +kernel
theorem dX5_init_39 : decode cX5_init 39 = .ok (.newarray .int, 2) := by decide +kernel
theorem dX5_init_41 : decode cX5_init 41 = .ok (.putfield 24, 3) := by decide +kernel
theorem dX5_init_44 : decode cX5_init 44 = .ok (.aload_n 0, 1) := by decide +kernel
theorem dX5_init_45 : decode cX5_init 45 = .ok (.bipush 10, 2) := by decide +kernel
theorem dX5_init_47 : decode cX5_init 47 = .ok (.newarray .int, 2) := by decide +kernel
theorem dX5_init_49 : decode cX5_init 49 = .ok (.putfield 27, 3) := by decide +kernel
theorem dX5_init_52 : decode cX5_init 52 = .ok (.aload_n 0, 1) := by decide +kernel
theorem dX5_init_53 : decode cX5_init 53 = .ok (.bipush 16, 2) := by decide +kernel
theorem dX5_init_55 : decode cX5_init 55 = .ok (.newarray .int, 2) := by decide +kernel
theorem dX5_init_57 : decode cX5_init 57 = .ok (.putfield 32, 3) := by decide +kernel
theorem dX5_init_60 : decode cX5_init 60 = .ok (.aload_n 0, 1) := by decide +kernel
theorem dX5_init_61 : decode cX5_init 61 = .ok (.bipush 16, 2) := by decide +kernel
theorem dX5_init_63 : decode cX5_init 63 = .ok (.newarray .int, 2) := by decide +kernel
theorem dX5_init_65 : decode cX5_init 65 = .ok (.putfield 35, 3) := by decide +kernel
theorem dX5_init_68 : decode cX5_init 68 = .ok (.aload_n 0, 1) := by decide +kernel
theorem dX5_init_69 : decode cX5_init 69 = .ok (.aload_n 1, 1) := by decide +kernel
theorem dX5_init_70 : decode cX5_init 70 = .ok (.putfield 38, 3) := by decide +kernel
theorem dX5_init_73 : decode cX5_init 73 = .ok (.aload_n 0, 1) := by decide +kernel
theorem dX5_init_74 : decode cX5_init 74 = .ok (.aload_n 2, 1) := by decide +kernel
theorem dX5_init_75 : decode cX5_init 75 = .ok (.putfield 42, 3) := by decide +kernel
theorem dX5_init_78 : decode cX5_init 78 = .ok (.return_, 1) := by decide +kernel
theorem dX5_isMinute_0 : decode cX5_isMinute 0 = .ok (.iload_n 0, 1) := by decide +kernel
theorem dX5_isMinute_1 : decode cX5_isMinute 1 = .ok (.ifCond .lt 14, 3) := by decide +kernel
theorem dX5_isMinute_4 : decode cX5_isMinute 4 = .ok (.iload_n 0, 1) := by decide +kernel
theorem dX5_isMinute_5 : decode cX5_isMinute 5 = .ok (.sipush 999, 3) := by decide +kernel
theorem dX5_isMinute_8 : decode cX5_isMinute 8 = .ok (.if_icmp .gt 7, 3) := by decide +kernel
theorem dX5_isMinute_11 : decode cX5_isMinute 11 = .ok (.iconst 1, 1) := by decide +kernel
theorem dX5_isMinute_12 : decode cX5_isMinute 12 = .ok (.goto 4, 3) := by decide +kernel
theorem dX5_isMinute_15 : decode cX5_isMinute 15 = .ok (.iconst 0, 1) := by decide +kernel
theorem dX5_isMinute_16 : decode cX5_isMinute 16 = .ok (.ireturn, 1) := by decide +kernel
theorem dX5_isStart_0 : decode cX5_isStart 0 = .ok (.iload_n 0, 1) := by decide +kernel
theorem dX5_isStart_1 : decode cX5_isStart 1 = .ok (.ifCond .lt 13, 3) := by decide +kernel
theorem dX5_isStart_4 : decode cX5_isStart 4 = .ok (.iload_n 0, 1) := by decide +kernel
theorem dX5_isStart_5 : decode cX5_isStart 5 = .ok (.bipush 99, 2) := by decide +kernel
theorem dX5_isStart_7 : decode cX5_isStart 7 = .ok (.if_icmp .gt 7, 3) := by decide +kernel
theorem dX5_isStart_10 : decode cX5_isStart 10 = .ok (.iconst 1, 1) := by decide +kernel
theorem dX5_isStart_11 : decode cX5_isStart 11 = .ok (.goto 4, 3) := by decide +kernel
theorem dX5_isStart_14 : decode cX5_isStart 14 = .ok (.iconst 0, 1) := by decide +kernel
theorem dX5_isStart_15 : decode cX5_isStart 15 = .ok (.ireturn, 1) := by decide +kernel
theorem dX5_rains_0 : decode cX5_rains 0 = .ok (.aload_n 0, 1) := by decide +kernel
theorem dX5_rains_1 : decode cX5_rains 1 = .ok (.getfield 46, 3) := by decide +kernel
theorem dX5_rains_4 : decode cX5_rains 4 = .ok (.ireturn, 1) := by decide +kernel
theorem dX5_speeches_0 : decode cX5_speeches 0 = .ok (.aload_n 0, 1) := by decide +kernel
theorem dX5_speeches_1 : decode cX5_speeches 1 = .ok (.getfield 50, 3) := by decide +kernel
theorem dX5_speeches_4 : decode cX5_speeches 4 = .ok (.ireturn, 1) := by decide +kernel
theorem dX5_addRain_0 : decode cX5_addRain 0 = .ok (.aload_n 0, 1) := by decide +kernel
theorem dX5_addRain_1 : decode cX5_addRain 1 = .ok (.getfield 46, 3) := by decide +kernel
theorem dX5_addRain_4 : decode cX5_addRain 4 = .ok (.bipush 10, 2) := by decide +kernel
theorem dX5_addRain_6 : decode cX5_addRain 6 = .ok (.if_icmp .lt 5, 3) := by decide +kernel
theorem dX5_addRain_9 : decode cX5_addRain 9 = .ok (.iconst (-1), 1) := by decide +kernel
theorem dX5_addRain_10 : decode cX5_addRain 10 = .ok (.ireturn, 1) := by decide +kernel
theorem dX5_addRain_11 : decode cX5_addRain 11 = .ok (.aload_n 0, 1) := by decide +kernel
theorem dX5_addRain_12 : decode cX5_addRain 12 = .ok (.getfield 11, 3) := by decide +kernel
theorem dX5_addRain_15 : decode cX5_addRain 15 = .ok (.aload_n 0, 1) := by decide +kernel
theorem dX5_addRain_16 : decode cX5_addRain 16 = .ok (.getfield 46, 3) := by decide +kernel
theorem dX5_addRain_19 : decode cX5_addRain 19 = .ok (.iload_n 1, 1) := by decide +kernel
theorem dX5_addRain_20 : decode cX5_addRain 20 = .ok (.iastore, 1) := by decide +kernel
theorem dX5_addRain_21 : decode cX5_addRain 21 = .ok (.aload_n 0, 1) := by decide +kernel
theorem dX5_addRain_22 : decode cX5_addRain 22 = .ok (.getfield 15, 3) := by decide +kernel
theorem dX5_addRain_25 : decode cX5_addRain 25 = .ok (.aload_n 0, 1) := by decide +kernel
theorem dX5_addRain_26 : decode cX5_addRain 26 = .ok (.getfield 46, 3) := by decide +kernel
theorem dX5_addRain_29 : decode cX5_addRain 29 = .ok (.iload_n 2, 1) := by decide +kernel
theorem dX5_addRain_30 : decode cX5_addRain 30 = .ok (.iastore, 1) := by decide +kernel
theorem dX5_addRain_31 : decode cX5_addRain 31 = .ok (.aload_n 0, 1) := by decide +kernel
theorem dX5_addRain_32 : decode cX5_addRain 32 = .ok (.getfield 18, 3) := by decide +kernel
theorem dX5_addRain_35 : decode cX5_addRain 35 = .ok (.aload_n 0, 1) := by decide +kernel
theorem dX5_addRain_36 : decode cX5_addRain 36 = .ok (.getfield 46, 3) := by decide +kernel
theorem dX5_addRain_39 : decode cX5_addRain 39 = .ok (.iload_n 3, 1) := by decide +kernel
theorem dX5_addRain_40 : decode cX5_addRain 40 = .ok (.iastore, 1) := by decide +kernel
theorem dX5_addRain_41 : decode cX5_addRain 41 = .ok (.aload_n 0, 1) := by decide +kernel
theorem dX5_addRain_42 : decode cX5_addRain 42 = .ok (.dup, 1) := by decide +kernel
theorem dX5_addRain_43 : decode cX5_addRain 43 = .ok (.getfield 46, 3) := by decide +kernel
theorem dX5_addRain_46 : decode cX5_addRain 46 = .ok (.iconst 1, 1) := by decide +kernel
theorem dX5_addRain_47 : decode cX5_addRain 47 = .ok (.iadd, 1) := by decide +kernel
theorem dX5_addRain_48 : decode cX5_addRain 48 = .ok (.putfield 46, 3) := by decide +kernel
theorem dX5_addRain_51 : decode cX5_addRain 51 = .ok (.aload_n 0, 1) := by decide +kernel
theorem dX5_addRain_52 : decode cX5_addRain 52 = .ok (.getfield 46, 3) := by decide +kernel
theorem dX5_addRain_55 : decode cX5_addRain 55 = .ok (.ireturn, 1) := by decide +kernel
theorem dX5_addSpeech_0 : decode cX5_addSpeech 0 = .ok (.aload_n 0, 1) := by decide +kernel
theorem dX5_addSpeech_1 : decode cX5_addSpeech 1 = .ok (.getfield 50, 3) := by decide +kernel
theorem dX5_addSpeech_4 : decode cX5_addSpeech 4 = .ok (.bipush 10, 2) := by decide +kernel
theorem dX5_addSpeech_6 : decode cX5_addSpeech 6 = .ok (.if_icmp .lt 5, 3) := by decide +kernel
theorem dX5_addSpeech_9 : decode cX5_addSpeech 9 = .ok (.iconst (-1), 1) := by decide +kernel
theorem dX5_addSpeech_10 : decode cX5_addSpeech 10 = .ok (.ireturn, 1) := by decide +kernel
theorem dX5_addSpeech_11 : decode cX5_addSpeech 11 = .ok (.aload_n 0, 1) := by decide +kernel
theorem dX5_addSpeech_12 : decode cX5_addSpeech 12 = .ok (.getfield 21, 3) := by decide +kernel
theorem dX5_addSpeech_15 : decode cX5_addSpeech 15 = .ok (.aload_n 0, 1) := by decide +kernel
theorem dX5_addSpeech_16 : decode cX5_addSpeech 16 = .ok (.getfield 50, 3) := by decide +kernel
theorem dX5_addSpeech_19 : decode cX5_addSpeech 19 = .ok (.iload_n 1, 1) := by decide +kernel
theorem dX5_addSpeech_20 : decode cX5_addSpeech 20 = .ok (.iastore, 1) := by decide +kernel
theorem dX5_addSpeech_21 : decode cX5_addSpeech 21 = .ok (.aload_n 0, 1) := by decide +kernel
theorem dX5_addSpeech_22 : decode cX5_addSpeech 22 = .ok (.getfield 24, 3) := by decide +kernel
theorem dX5_addSpeech_25 : decode cX5_addSpeech 25 = .ok (.aload_n 0, 1) := by decide +kernel
theorem dX5_addSpeech_26 : decode cX5_addSpeech 26 = .ok (.getfield 50, 3) := by decide +kernel
theorem dX5_addSpeech_29 : decode cX5_addSpeech 29 = .ok (.iload_n 2, 1) := by decide +kernel
theorem dX5_addSpeech_30 : decode cX5_addSpeech 30 = .ok (.iastore, 1) := by decide +kernel
theorem dX5_addSpeech_31 : decode cX5_addSpeech 31 = .ok (.aload_n 0, 1) := by decide +kernel
theorem dX5_addSpeech_32 : decode cX5_addSpeech 32 = .ok (.getfield 27, 3) := by decide +kernel
theorem dX5_addSpeech_35 : decode cX5_addSpeech 35 = .ok (.aload_n 0, 1) := by decide +kernel
theorem dX5_addSpeech_36 : decode cX5_addSpeech 36 = .ok (.getfield 50, 3) := by decide +kernel
theorem dX5_addSpeech_39 : decode cX5_addSpeech 39 = .ok (.iload_n 3, 1) := by decide +kernel
theorem dX5_addSpeech_40 : decode cX5_addSpeech 40 = .ok (.iastore, 1) := by decide +kernel
theorem dX5_addSpeech_41 : decode cX5_addSpeech 41 = .ok (.aload_n 0, 1) := by decide +kernel
theorem dX5_addSpeech_42 : decode cX5_addSpeech 42 = .ok (.dup, 1) := by decide +kernel
theorem dX5_addSpeech_43 : decode cX5_addSpeech 43 = .ok (.getfield 50, 3) := by decide +kernel
theorem dX5_addSpeech_46 : decode cX5_addSpeech 46 = .ok (.iconst 1, 1) := by decide +kernel
theorem dX5_addSpeech_47 : decode cX5_addSpeech 47 = .ok (.iadd, 1) := by decide +kernel
theorem dX5_addSpeech_48 : decode cX5_addSpeech 48 = .ok (.putfield 50, 3) := by decide +kernel
theorem dX5_addSpeech_51 : decode cX5_addSpeech 51 = .ok (.aload_n 0, 1) := by decide +kernel
theorem dX5_addSpeech_52 : decode cX5_addSpeech 52 = .ok (.getfield 50, 3) := by decide +kernel
theorem dX5_addSpeech_55 : decode cX5_addSpeech 55 = .ok (.ireturn, 1) := by decide +kernel
theorem dX5_speechesAt_0 : decode cX5_speechesAt 0 = .ok (.iconst 0, 1) := by decide +kernel
theorem dX5_speechesAt_1 : decode cX5_speechesAt 1 = .ok (.istore_n 3, 1) := by decide +kernel
theorem dX5_speechesAt_2 : decode cX5_speechesAt 2 = .ok (.iconst 0, 1) := by decide +kernel
theorem dX5_speechesAt_3 : decode cX5_speechesAt 3 = .ok (.istore 4, 2) := by decide +kernel
theorem dX5_speechesAt_5 : decode cX5_speechesAt 5 = .ok (.iload 4, 2) := by decide +kernel
theorem dX5_speechesAt_7 : decode cX5_speechesAt 7 = .ok (.aload_n 0, 1) := by decide +kernel
theorem dX5_speechesAt_8 : decode cX5_speechesAt 8 = .ok (.getfield 50, 3) := by decide +kernel
theorem dX5_speechesAt_11 : decode cX5_speechesAt 11 = .ok (.if_icmp .ge 70, 3) := by decide +kernel
theorem dX5_speechesAt_14 : decode cX5_speechesAt 14 = .ok (.iload 4, 2) := by decide +kernel
theorem dX5_speechesAt_16 : decode cX5_speechesAt 16 = .ok (.bipush 10, 2) := by decide +kernel
theorem dX5_speechesAt_18 : decode cX5_speechesAt 18 = .ok (.if_icmp .ge 63, 3) := by decide +kernel
theorem dX5_speechesAt_21 : decode cX5_speechesAt 21 = .ok (.iload_n 2, 1) := by decide +kernel
theorem dX5_speechesAt_22 : decode cX5_speechesAt 22 = .ok (.aload_n 0, 1) := by decide +kernel
theorem dX5_speechesAt_23 : decode cX5_speechesAt 23 = .ok (.getfield 24, 3) := by decide +kernel
theorem dX5_speechesAt_26 : decode cX5_speechesAt 26 = .ok (.iload 4, 2) := by decide +kernel
theorem dX5_speechesAt_28 : decode cX5_speechesAt 28 = .ok (.iaload, 1) := by decide +kernel
theorem dX5_speechesAt_29 : decode cX5_speechesAt 29 = .ok (.isub, 1) := by decide +kernel
theorem dX5_speechesAt_30 : decode cX5_speechesAt 30 = .ok (.istore 5, 2) := by decide +kernel
theorem dX5_speechesAt_32 : decode cX5_speechesAt 32 = .ok (.iload_n 1, 1) := by decide +kernel
theorem dX5_speechesAt_33 : decode cX5_speechesAt 33 = .ok (.iconst 1, 1) := by decide +kernel
theorem dX5_speechesAt_34 : decode cX5_speechesAt 34 = .ok (.ishr, 1) := by decide +kernel
theorem dX5_speechesAt_35 : decode cX5_speechesAt 35 = .ok (.aload_n 0, 1) := by decide +kernel
theorem dX5_speechesAt_36 : decode cX5_speechesAt 36 = .ok (.getfield 21, 3) := by decide +kernel
theorem dX5_speechesAt_39 : decode cX5_speechesAt 39 = .ok (.iload 4, 2) := by decide +kernel
theorem dX5_speechesAt_41 : decode cX5_speechesAt 41 = .ok (.iaload, 1) := by decide +kernel
theorem dX5_speechesAt_42 : decode cX5_speechesAt 42 = .ok (.isub, 1) := by decide +kernel
theorem dX5_speechesAt_43 : decode cX5_speechesAt 43 = .ok (.invokestatic 53, 3) := by decide +kernel
theorem dX5_speechesAt_46 : decode cX5_speechesAt 46 = .ok (.istore 6, 2) := by decide +kernel
theorem dX5_speechesAt_48 : decode cX5_speechesAt 48 = .ok (.iload 5, 2) := by decide +kernel
theorem dX5_speechesAt_50 : decode cX5_speechesAt 50 = .ok (.ifCond .lt 25, 3) := by decide +kernel
theorem dX5_speechesAt_53 : decode cX5_speechesAt 53 = .ok (.iload 6, 2) := by decide +kernel
theorem dX5_speechesAt_55 : decode cX5_speechesAt 55 = .ok (.iload 5, 2) := by decide +kernel
theorem dX5_speechesAt_57 : decode cX5_speechesAt 57 = .ok (.aload_n 0, 1) := by decide +kernel
theorem dX5_speechesAt_58 : decode cX5_speechesAt 58 = .ok (.getfield 27, 3) := by decide +kernel
theorem dX5_speechesAt_61 : decode cX5_speechesAt 61 = .ok (.iload 4, 2) := by decide +kernel
theorem dX5_speechesAt_63 : decode cX5_speechesAt 63 = .ok (.iaload, 1) := by decide +kernel
theorem dX5_speechesAt_64 : decode cX5_speechesAt 64 = .ok (.imul, 1) := by decide +kernel
theorem dX5_speechesAt_65 : decode cX5_speechesAt 65 = .ok (.if_icmp .gt 10, 3) := by decide +kernel
theorem dX5_speechesAt_68 : decode cX5_speechesAt 68 = .ok (.iload_n 3, 1) := by decide +kernel
theorem dX5_speechesAt_69 : decode cX5_speechesAt 69 = .ok (.iconst 1, 1) := by decide +kernel
theorem dX5_speechesAt_70 : decode cX5_speechesAt 70 = .ok (.iload 4, 2) := by decide +kernel
theorem dX5_speechesAt_72 : decode cX5_speechesAt 72 = .ok (.ishl, 1) := by decide +kernel
theorem dX5_speechesAt_73 : decode cX5_speechesAt 73 = .ok (.ior, 1) := by decide +kernel
theorem dX5_speechesAt_74 : decode cX5_speechesAt 74 = .ok (.istore_n 3, 1) := by decide +kernel
theorem dX5_speechesAt_75 : decode cX5_speechesAt 75 = .ok (.iinc 4 1, 3) := by decide +kernel
theorem dX5_speechesAt_78 : decode cX5_speechesAt 78 = .ok (.goto (-73), 3) := by decide +kernel
theorem dX5_speechesAt_81 : decode cX5_speechesAt 81 = .ok (.iload_n 3, 1) := by decide +kernel
theorem dX5_speechesAt_82 : decode cX5_speechesAt 82 = .ok (.ireturn, 1) := by decide +kernel
theorem dX5_spread_0 : decode cX5_spread 0 = .ok (.iconst 0, 1) := by decide +kernel
theorem dX5_spread_1 : decode cX5_spread 1 = .ok (.istore_n 3, 1) := by decide +kernel
theorem dX5_spread_2 : decode cX5_spread 2 = .ok (.iload_n 3, 1) := by decide +kernel
theorem dX5_spread_3 : decode cX5_spread 3 = .ok (.bipush 16, 2) := by decide +kernel
theorem dX5_spread_5 : decode cX5_spread 5 = .ok (.if_icmp .ge 32, 3) := by decide +kernel
theorem dX5_spread_8 : decode cX5_spread 8 = .ok (.aload_n 0, 1) := by decide +kernel
theorem dX5_spread_9 : decode cX5_spread 9 = .ok (.getfield 32, 3) := by decide +kernel
theorem dX5_spread_12 : decode cX5_spread 12 = .ok (.iload_n 3, 1) := by decide +kernel
theorem dX5_spread_13 : decode cX5_spread 13 = .ok (.iload_n 3, 1) := by decide +kernel
theorem dX5_spread_14 : decode cX5_spread 14 = .ok (.iload_n 1, 1) := by decide +kernel
theorem dX5_spread_15 : decode cX5_spread 15 = .ok (.if_icmp .ne 7, 3) := by decide +kernel
theorem dX5_spread_18 : decode cX5_spread 18 = .ok (.iload_n 2, 1) := by decide +kernel
theorem dX5_spread_19 : decode cX5_spread 19 = .ok (.goto 4, 3) := by decide +kernel
theorem dX5_spread_22 : decode cX5_spread 22 = .ok (.iconst (-1), 1) := by decide +kernel
theorem dX5_spread_23 : decode cX5_spread 23 = .ok (.iastore, 1) := by decide +kernel
theorem dX5_spread_24 : decode cX5_spread 24 = .ok (.aload_n 0, 1) := by decide +kernel
theorem dX5_spread_25 : decode cX5_spread 25 = .ok (.getfield 35, 3) := by decide +kernel
theorem dX5_spread_28 : decode cX5_spread 28 = .ok (.iload_n 3, 1) := by decide +kernel
theorem dX5_spread_29 : decode cX5_spread 29 = .ok (.iconst (-1), 1) := by decide +kernel
theorem dX5_spread_30 : decode cX5_spread 30 = .ok (.iastore, 1) := by decide +kernel
theorem dX5_spread_31 : decode cX5_spread 31 = .ok (.iinc 3 1, 3) := by decide +kernel
theorem dX5_spread_34 : decode cX5_spread 34 = .ok (.goto (-32), 3) := by decide +kernel
theorem dX5_spread_37 : decode cX5_spread 37 = .ok (.iconst 1, 1) := by decide +kernel
theorem dX5_spread_38 : decode cX5_spread 38 = .ok (.istore_n 3, 1) := by decide +kernel
theorem dX5_spread_39 : decode cX5_spread 39 = .ok (.iconst 0, 1) := by decide +kernel
theorem dX5_spread_40 : decode cX5_spread 40 = .ok (.istore 4, 2) := by decide +kernel
theorem dX5_spread_42 : decode cX5_spread 42 = .ok (.iload 4, 2) := by decide +kernel
theorem dX5_spread_44 : decode cX5_spread 44 = .ok (.bipush 16, 2) := by decide +kernel
theorem dX5_spread_46 : decode cX5_spread 46 = .ok (.if_icmp .ge 72, 3) := by decide +kernel
theorem dX5_spread_49 : decode cX5_spread 49 = .ok (.iload_n 3, 1) := by decide +kernel
theorem dX5_spread_50 : decode cX5_spread 50 = .ok (.ifCond .eq 68, 3) := by decide +kernel
theorem dX5_spread_53 : decode cX5_spread 53 = .ok (.iconst 0, 1) := by decide +kernel
theorem dX5_spread_54 : decode cX5_spread 54 = .ok (.istore_n 3, 1) := by decide +kernel
theorem dX5_spread_55 : decode cX5_spread 55 = .ok (.iconst 0, 1) := by decide +kernel
theorem dX5_spread_56 : decode cX5_spread 56 = .ok (.istore 5, 2) := by decide +kernel
theorem dX5_spread_58 : decode cX5_spread 58 = .ok (.iload 5, 2) := by decide +kernel
theorem dX5_spread_60 : decode cX5_spread 60 = .ok (.aload_n 0, 1) := by decide +kernel
theorem dX5_spread_61 : decode cX5_spread 61 = .ok (.getfield 38, 3) := by decide +kernel
theorem dX5_spread_64 : decode cX5_spread 64 = .ok (.invokevirtual 59, 3) := by decide +kernel
theorem dX5_spread_67 : decode cX5_spread 67 = .ok (.if_icmp .ge 45, 3) := by decide +kernel
theorem dX5_spread_70 : decode cX5_spread 70 = .ok (.iload 5, 2) := by decide +kernel
theorem dX5_spread_72 : decode cX5_spread 72 = .ok (.bipush 16, 2) := by decide +kernel
theorem dX5_spread_74 : decode cX5_spread 74 = .ok (.if_icmp .ge 38, 3) := by decide +kernel
theorem dX5_spread_77 : decode cX5_spread 77 = .ok (.aload_n 0, 1) := by decide +kernel
theorem dX5_spread_78 : decode cX5_spread 78 = .ok (.getfield 32, 3) := by decide +kernel
theorem dX5_spread_81 : decode cX5_spread 81 = .ok (.iload 5, 2) := by decide +kernel
theorem dX5_spread_83 : decode cX5_spread 83 = .ok (.iaload, 1) := by decide +kernel
theorem dX5_spread_84 : decode cX5_spread 84 = .ok (.iload_n 2, 1) := by decide +kernel
theorem dX5_spread_85 : decode cX5_spread 85 = .ok (.iload 4, 2) := by decide +kernel
theorem dX5_spread_87 : decode cX5_spread 87 = .ok (.iadd, 1) := by decide +kernel
theorem dX5_spread_88 : decode cX5_spread 88 = .ok (.if_icmp .ne 18, 3) := by decide +kernel
theorem dX5_spread_91 : decode cX5_spread 91 = .ok (.aload_n 0, 1) := by decide +kernel
theorem dX5_spread_92 : decode cX5_spread 92 = .ok (.iload 5, 2) := by decide +kernel
theorem dX5_spread_94 : decode cX5_spread 94 = .ok (.iload_n 2, 1) := by decide +kernel
theorem dX5_spread_95 : decode cX5_spread 95 = .ok (.iload 4, 2) := by decide +kernel
theorem dX5_spread_97 : decode cX5_spread 97 = .ok (.iadd, 1) := by decide +kernel
theorem dX5_spread_98 : decode cX5_spread 98 = .ok (.invokevirtual 63, 3) := by decide +kernel
theorem dX5_spread_101 : decode cX5_spread 101 = .ok (.ifCond .eq 5, 3) := by decide +kernel
theorem dX5_spread_104 : decode cX5_spread 104 = .ok (.iconst 1, 1) := by decide +kernel
theorem dX5_spread_105 : decode cX5_spread 105 = .ok (.istore_n 3, 1) := by decide +kernel
theorem dX5_spread_106 : decode cX5_spread 106 = .ok (.iinc 5 1, 3) := by decide +kernel
theorem dX5_spread_109 : decode cX5_spread 109 = .ok (.goto (-51), 3) := by decide +kernel
theorem dX5_spread_112 : decode cX5_spread 112 = .ok (.iinc 4 1, 3) := by decide +kernel
theorem dX5_spread_115 : decode cX5_spread 115 = .ok (.goto (-73), 3) := by decide +kernel
theorem dX5_spread_118 : decode cX5_spread 118 = .ok (.return_, 1) := by decide +kernel
theorem dX5_passOn_0 : decode cX5_passOn 0 = .ok (.iconst 0, 1) := by decide +kernel
theorem dX5_passOn_1 : decode cX5_passOn 1 = .ok (.istore_n 3, 1) := by decide +kernel
theorem dX5_passOn_2 : decode cX5_passOn 2 = .ok (.iconst 0, 1) := by decide +kernel
theorem dX5_passOn_3 : decode cX5_passOn 3 = .ok (.istore 4, 2) := by decide +kernel
theorem dX5_passOn_5 : decode cX5_passOn 5 = .ok (.iload 4, 2) := by decide +kernel
theorem dX5_passOn_7 : decode cX5_passOn 7 = .ok (.iconst 3, 1) := by decide +kernel
theorem dX5_passOn_8 : decode cX5_passOn 8 = .ok (.if_icmp .ge 117, 3) := by decide +kernel
theorem dX5_passOn_11 : decode cX5_passOn 11 = .ok (.aload_n 0, 1) := by decide +kernel
theorem dX5_passOn_12 : decode cX5_passOn 12 = .ok (.getfield 38, 3) := by decide +kernel
theorem dX5_passOn_15 : decode cX5_passOn 15 = .ok (.iload_n 1, 1) := by decide +kernel
theorem dX5_passOn_16 : decode cX5_passOn 16 = .ok (.invokevirtual 67, 3) := by decide +kernel
theorem dX5_passOn_19 : decode cX5_passOn 19 = .ok (.iload 4, 2) := by decide +kernel
theorem dX5_passOn_21 : decode cX5_passOn 21 = .ok (.invokestatic 70, 3) := by decide +kernel
theorem dX5_passOn_24 : decode cX5_passOn 24 = .ok (.istore 5, 2) := by decide +kernel
theorem dX5_passOn_26 : decode cX5_passOn 26 = .ok (.aload_n 0, 1) := by decide +kernel
theorem dX5_passOn_27 : decode cX5_passOn 27 = .ok (.getfield 38, 3) := by decide +kernel
theorem dX5_passOn_30 : decode cX5_passOn 30 = .ok (.iload 5, 2) := by decide +kernel
theorem dX5_passOn_32 : decode cX5_passOn 32 = .ok (.invokevirtual 76, 3) := by decide +kernel
theorem dX5_passOn_35 : decode cX5_passOn 35 = .ok (.istore 6, 2) := by decide +kernel
theorem dX5_passOn_37 : decode cX5_passOn 37 = .ok (.iload 6, 2) := by decide +kernel
theorem dX5_passOn_39 : decode cX5_passOn 39 = .ok (.ifCond .lt 80, 3) := by decide +kernel
theorem dX5_passOn_42 : decode cX5_passOn 42 = .ok (.iload 6, 2) := by decide +kernel
theorem dX5_passOn_44 : decode cX5_passOn 44 = .ok (.bipush 16, 2) := by decide +kernel
theorem dX5_passOn_46 : decode cX5_passOn 46 = .ok (.if_icmp .ge 73, 3) := by decide +kernel
theorem dX5_passOn_49 : decode cX5_passOn 49 = .ok (.aload_n 0, 1) := by decide +kernel
theorem dX5_passOn_50 : decode cX5_passOn 50 = .ok (.getfield 32, 3) := by decide +kernel
theorem dX5_passOn_53 : decode cX5_passOn 53 = .ok (.iload 6, 2) := by decide +kernel
theorem dX5_passOn_55 : decode cX5_passOn 55 = .ok (.iaload, 1) := by decide +kernel
theorem dX5_passOn_56 : decode cX5_passOn 56 = .ok (.iconst (-1), 1) := by decide +kernel
theorem dX5_passOn_57 : decode cX5_passOn 57 = .ok (.if_icmp .ne 62, 3) := by decide +kernel
theorem dX5_passOn_60 : decode cX5_passOn 60 = .ok (.aload_n 0, 1) := by decide +kernel
theorem dX5_passOn_61 : decode cX5_passOn 61 = .ok (.aload_n 0, 1) := by decide +kernel
theorem dX5_passOn_62 : decode cX5_passOn 62 = .ok (.getfield 38, 3) := by decide +kernel
theorem dX5_passOn_65 : decode cX5_passOn 65 = .ok (.iload_n 1, 1) := by decide +kernel
theorem dX5_passOn_66 : decode cX5_passOn 66 = .ok (.invokevirtual 67, 3) := by decide +kernel
theorem dX5_passOn_69 : decode cX5_passOn 69 = .ok (.iload_n 2, 1) := by decide +kernel
theorem dX5_passOn_70 : decode cX5_passOn 70 = .ok (.invokevirtual 79, 3) := by decide +kernel
theorem dX5_passOn_73 : decode cX5_passOn 73 = .ok (.ifCond .eq 46, 3) := by decide +kernel
theorem dX5_passOn_76 : decode cX5_passOn 76 = .ok (.aload_n 0, 1) := by decide +kernel
theorem dX5_passOn_77 : decode cX5_passOn 77 = .ok (.iload 5, 2) := by decide +kernel
theorem dX5_passOn_79 : decode cX5_passOn 79 = .ok (.iload_n 2, 1) := by decide +kernel
theorem dX5_passOn_80 : decode cX5_passOn 80 = .ok (.invokevirtual 79, 3) := by decide +kernel
theorem dX5_passOn_83 : decode cX5_passOn 83 = .ok (.ifCond .eq 36, 3) := by decide +kernel
theorem dX5_passOn_86 : decode cX5_passOn 86 = .ok (.aload_n 0, 1) := by decide +kernel
theorem dX5_passOn_87 : decode cX5_passOn 87 = .ok (.getfield 42, 3) := by decide +kernel
theorem dX5_passOn_90 : decode cX5_passOn 90 = .ok (.iload_n 1, 1) := by decide +kernel
theorem dX5_passOn_91 : decode cX5_passOn 91 = .ok (.iload 6, 2) := by decide +kernel
theorem dX5_passOn_93 : decode cX5_passOn 93 = .ok (.invokevirtual 82, 3) := by decide +kernel
theorem dX5_passOn_96 : decode cX5_passOn 96 = .ok (.ifCond .eq 23, 3) := by decide +kernel
theorem dX5_passOn_99 : decode cX5_passOn 99 = .ok (.aload_n 0, 1) := by decide +kernel
theorem dX5_passOn_100 : decode cX5_passOn 100 = .ok (.getfield 32, 3) := by decide +kernel
theorem dX5_passOn_103 : decode cX5_passOn 103 = .ok (.iload 6, 2) := by decide +kernel
theorem dX5_passOn_105 : decode cX5_passOn 105 = .ok (.iload_n 2, 1) := by decide +kernel
theorem dX5_passOn_106 : decode cX5_passOn 106 = .ok (.iconst 1, 1) := by decide +kernel
theorem dX5_passOn_107 : decode cX5_passOn 107 = .ok (.iadd, 1) := by decide +kernel
theorem dX5_passOn_108 : decode cX5_passOn 108 = .ok (.iastore, 1) := by decide +kernel
theorem dX5_passOn_109 : decode cX5_passOn 109 = .ok (.aload_n 0, 1) := by decide +kernel
theorem dX5_passOn_110 : decode cX5_passOn 110 = .ok (.getfield 35, 3) := by decide +kernel
theorem dX5_passOn_113 : decode cX5_passOn 113 = .ok (.iload 6, 2) := by decide +kernel
theorem dX5_passOn_115 : decode cX5_passOn 115 = .ok (.iload_n 1, 1) := by decide +kernel
theorem dX5_passOn_116 : decode cX5_passOn 116 = .ok (.iastore, 1) := by decide +kernel
theorem dX5_passOn_117 : decode cX5_passOn 117 = .ok (.iconst 1, 1) := by decide +kernel
theorem dX5_passOn_118 : decode cX5_passOn 118 = .ok (.istore_n 3, 1) := by decide +kernel
theorem dX5_passOn_119 : decode cX5_passOn 119 = .ok (.iinc 4 1, 3) := by decide +kernel
theorem dX5_passOn_122 : decode cX5_passOn 122 = .ok (.goto (-117), 3) := by decide +kernel
theorem dX5_passOn_125 : decode cX5_passOn 125 = .ok (.iload_n 3, 1) := by decide +kernel
theorem dX5_passOn_126 : decode cX5_passOn 126 = .ok (.ireturn, 1) := by decide +kernel
theorem dX5_isDry_0 : decode cX5_isDry 0 = .ok (.iload_n 1, 1) := by decide +kernel
theorem dX5_isDry_1 : decode cX5_isDry 1 = .ok (.iconst 1, 1) := by decide +kernel
theorem dX5_isDry_2 : decode cX5_isDry 2 = .ok (.ishr, 1) := by decide +kernel
theorem dX5_isDry_3 : decode cX5_isDry 3 = .ok (.istore_n 3, 1) := by decide +kernel
theorem dX5_isDry_4 : decode cX5_isDry 4 = .ok (.iconst 0, 1) := by decide +kernel
theorem dX5_isDry_5 : decode cX5_isDry 5 = .ok (.istore 4, 2) := by decide +kernel
theorem dX5_isDry_7 : decode cX5_isDry 7 = .ok (.iload 4, 2) := by decide +kernel
theorem dX5_isDry_9 : decode cX5_isDry 9 = .ok (.aload_n 0, 1) := by decide +kernel
theorem dX5_isDry_10 : decode cX5_isDry 10 = .ok (.getfield 46, 3) := by decide +kernel
theorem dX5_isDry_13 : decode cX5_isDry 13 = .ok (.if_icmp .ge 51, 3) := by decide +kernel
theorem dX5_isDry_16 : decode cX5_isDry 16 = .ok (.iload 4, 2) := by decide +kernel
theorem dX5_isDry_18 : decode cX5_isDry 18 = .ok (.bipush 10, 2) := by decide +kernel
theorem dX5_isDry_20 : decode cX5_isDry 20 = .ok (.if_icmp .ge 44, 3) := by decide +kernel
theorem dX5_isDry_23 : decode cX5_isDry 23 = .ok (.aload_n 0, 1) := by decide +kernel
theorem dX5_isDry_24 : decode cX5_isDry 24 = .ok (.getfield 11, 3) := by decide +kernel
theorem dX5_isDry_27 : decode cX5_isDry 27 = .ok (.iload 4, 2) := by decide +kernel
theorem dX5_isDry_29 : decode cX5_isDry 29 = .ok (.iaload, 1) := by decide +kernel
theorem dX5_isDry_30 : decode cX5_isDry 30 = .ok (.iload_n 2, 1) := by decide +kernel
theorem dX5_isDry_31 : decode cX5_isDry 31 = .ok (.if_icmp .gt 27, 3) := by decide +kernel
theorem dX5_isDry_34 : decode cX5_isDry 34 = .ok (.aload_n 0, 1) := by decide +kernel
theorem dX5_isDry_35 : decode cX5_isDry 35 = .ok (.getfield 15, 3) := by decide +kernel
theorem dX5_isDry_38 : decode cX5_isDry 38 = .ok (.iload 4, 2) := by decide +kernel
theorem dX5_isDry_40 : decode cX5_isDry 40 = .ok (.iaload, 1) := by decide +kernel
theorem dX5_isDry_41 : decode cX5_isDry 41 = .ok (.iload_n 3, 1) := by decide +kernel
theorem dX5_isDry_42 : decode cX5_isDry 42 = .ok (.if_icmp .gt 16, 3) := by decide +kernel
theorem dX5_isDry_45 : decode cX5_isDry 45 = .ok (.iload_n 3, 1) := by decide +kernel
theorem dX5_isDry_46 : decode cX5_isDry 46 = .ok (.aload_n 0, 1) := by decide +kernel
theorem dX5_isDry_47 : decode cX5_isDry 47 = .ok (.getfield 18, 3) := by decide +kernel
theorem dX5_isDry_50 : decode cX5_isDry 50 = .ok (.iload 4, 2) := by decide +kernel
theorem dX5_isDry_52 : decode cX5_isDry 52 = .ok (.iaload, 1) := by decide +kernel
theorem dX5_isDry_53 : decode cX5_isDry 53 = .ok (.if_icmp .gt 5, 3) := by decide +kernel
theorem dX5_isDry_56 : decode cX5_isDry 56 = .ok (.iconst 0, 1) := by decide +kernel
theorem dX5_isDry_57 : decode cX5_isDry 57 = .ok (.ireturn, 1) := by decide +kernel
theorem dX5_isDry_58 : decode cX5_isDry 58 = .ok (.iinc 4 1, 3) := by decide +kernel
theorem dX5_isDry_61 : decode cX5_isDry 61 = .ok (.goto (-54), 3) := by decide +kernel
theorem dX5_isDry_64 : decode cX5_isDry 64 = .ok (.iconst 1, 1) := by decide +kernel
theorem dX5_isDry_65 : decode cX5_isDry 65 = .ok (.ireturn, 1) := by decide +kernel
theorem dX5_minuteOf_0 : decode cX5_minuteOf 0 = .ok (.iload_n 1, 1) := by decide +kernel
theorem dX5_minuteOf_1 : decode cX5_minuteOf 1 = .ok (.ifCond .lt 18, 3) := by decide +kernel
theorem dX5_minuteOf_4 : decode cX5_minuteOf 4 = .ok (.iload_n 1, 1) := by decide +kernel
theorem dX5_minuteOf_5 : decode cX5_minuteOf 5 = .ok (.bipush 16, 2) := by decide +kernel
theorem dX5_minuteOf_7 : decode cX5_minuteOf 7 = .ok (.if_icmp .ge 12, 3) := by decide +kernel
theorem dX5_minuteOf_10 : decode cX5_minuteOf 10 = .ok (.aload_n 0, 1) := by decide +kernel
theorem dX5_minuteOf_11 : decode cX5_minuteOf 11 = .ok (.getfield 32, 3) := by decide +kernel
theorem dX5_minuteOf_14 : decode cX5_minuteOf 14 = .ok (.iload_n 1, 1) := by decide +kernel
theorem dX5_minuteOf_15 : decode cX5_minuteOf 15 = .ok (.iaload, 1) := by decide +kernel
theorem dX5_minuteOf_16 : decode cX5_minuteOf 16 = .ok (.goto 4, 3) := by decide +kernel
theorem dX5_minuteOf_19 : decode cX5_minuteOf 19 = .ok (.iconst (-1), 1) := by decide +kernel
theorem dX5_minuteOf_20 : decode cX5_minuteOf 20 = .ok (.ireturn, 1) := by decide +kernel
theorem dX5_teller_0 : decode cX5_teller 0 = .ok (.iload_n 1, 1) := by decide +kernel
theorem dX5_teller_1 : decode cX5_teller 1 = .ok (.ifCond .lt 18, 3) := by decide +kernel
theorem dX5_teller_4 : decode cX5_teller 4 = .ok (.iload_n 1, 1) := by decide +kernel
theorem dX5_teller_5 : decode cX5_teller 5 = .ok (.bipush 16, 2) := by decide +kernel
theorem dX5_teller_7 : decode cX5_teller 7 = .ok (.if_icmp .ge 12, 3) := by decide +kernel
theorem dX5_teller_10 : decode cX5_teller 10 = .ok (.aload_n 0, 1) := by decide +kernel
theorem dX5_teller_11 : decode cX5_teller 11 = .ok (.getfield 35, 3) := by decide +kernel
theorem dX5_teller_14 : decode cX5_teller 14 = .ok (.iload_n 1, 1) := by decide +kernel
theorem dX5_teller_15 : decode cX5_teller 15 = .ok (.iaload, 1) := by decide +kernel
theorem dX5_teller_16 : decode cX5_teller 16 = .ok (.goto 4, 3) := by decide +kernel
theorem dX5_teller_19 : decode cX5_teller 19 = .ok (.iconst (-1), 1) := by decide +kernel
theorem dX5_teller_20 : decode cX5_teller 20 = .ok (.ireturn, 1) := by decide +kernel
theorem dX5_howMany_0 : decode cX5_howMany 0 = .ok (.iconst 0, 1) := by decide +kernel
theorem dX5_howMany_1 : decode cX5_howMany 1 = .ok (.istore_n 1, 1) := by decide +kernel
theorem dX5_howMany_2 : decode cX5_howMany 2 = .ok (.iconst 0, 1) := by decide +kernel
theorem dX5_howMany_3 : decode cX5_howMany 3 = .ok (.istore_n 2, 1) := by decide +kernel
theorem dX5_howMany_4 : decode cX5_howMany 4 = .ok (.iload_n 2, 1) := by decide +kernel
theorem dX5_howMany_5 : decode cX5_howMany 5 = .ok (.bipush 16, 2) := by decide +kernel
theorem dX5_howMany_7 : decode cX5_howMany 7 = .ok (.if_icmp .ge 22, 3) := by decide +kernel
theorem dX5_howMany_10 : decode cX5_howMany 10 = .ok (.aload_n 0, 1) := by decide +kernel
theorem dX5_howMany_11 : decode cX5_howMany 11 = .ok (.getfield 32, 3) := by decide +kernel
theorem dX5_howMany_14 : decode cX5_howMany 14 = .ok (.iload_n 2, 1) := by decide +kernel
theorem dX5_howMany_15 : decode cX5_howMany 15 = .ok (.iaload, 1) := by decide +kernel
theorem dX5_howMany_16 : decode cX5_howMany 16 = .ok (.iconst (-1), 1) := by decide +kernel
theorem dX5_howMany_17 : decode cX5_howMany 17 = .ok (.if_icmp .eq 6, 3) := by decide +kernel
theorem dX5_howMany_20 : decode cX5_howMany 20 = .ok (.iinc 1 1, 3) := by decide +kernel
theorem dX5_howMany_23 : decode cX5_howMany 23 = .ok (.iinc 2 1, 3) := by decide +kernel
theorem dX5_howMany_26 : decode cX5_howMany 26 = .ok (.goto (-22), 3) := by decide +kernel
theorem dX5_howMany_29 : decode cX5_howMany 29 = .ok (.iload_n 1, 1) := by decide +kernel
theorem dX5_howMany_30 : decode cX5_howMany 30 = .ok (.ireturn, 1) := by decide +kernel
theorem dX5_lastMinute_0 : decode cX5_lastMinute 0 = .ok (.iconst (-1), 1) := by decide +kernel
theorem dX5_lastMinute_1 : decode cX5_lastMinute 1 = .ok (.istore_n 1, 1) := by decide +kernel
theorem dX5_lastMinute_2 : decode cX5_lastMinute 2 = .ok (.iconst 0, 1) := by decide +kernel
theorem dX5_lastMinute_3 : decode cX5_lastMinute 3 = .ok (.istore_n 2, 1) := by decide +kernel
theorem dX5_lastMinute_4 : decode cX5_lastMinute 4 = .ok (.iload_n 2, 1) := by decide +kernel
theorem dX5_lastMinute_5 : decode cX5_lastMinute 5 = .ok (.bipush 16, 2) := by decide +kernel
theorem dX5_lastMinute_7 : decode cX5_lastMinute 7 = .ok (.if_icmp .ge 20, 3) := by decide +kernel
theorem dX5_lastMinute_10 : decode cX5_lastMinute 10 = .ok (.iload_n 1, 1) := by decide +kernel
theorem dX5_lastMinute_11 : decode cX5_lastMinute 11 = .ok (.aload_n 0, 1) := by decide +kernel
theorem dX5_lastMinute_12 : decode cX5_lastMinute 12 = .ok (.getfield 32, 3) := by decide +kernel
theorem dX5_lastMinute_15 : decode cX5_lastMinute 15 = .ok (.iload_n 2, 1) := by decide +kernel
theorem dX5_lastMinute_16 : decode cX5_lastMinute 16 = .ok (.iaload, 1) := by decide +kernel
theorem dX5_lastMinute_17 : decode cX5_lastMinute 17 = .ok (.invokestatic 87, 3) := by decide +kernel
theorem dX5_lastMinute_20 : decode cX5_lastMinute 20 = .ok (.istore_n 1, 1) := by decide +kernel
theorem dX5_lastMinute_21 : decode cX5_lastMinute 21 = .ok (.iinc 2 1, 3) := by decide +kernel
theorem dX5_lastMinute_24 : decode cX5_lastMinute 24 = .ok (.goto (-20), 3) := by decide +kernel
theorem dX5_lastMinute_27 : decode cX5_lastMinute 27 = .ok (.iload_n 1, 1) := by decide +kernel
theorem dX5_lastMinute_28 : decode cX5_lastMinute 28 = .ok (.ireturn, 1) := by decide +kernel
theorem dX6_init_0 : decode cX6_init 0 = .ok (.aload_n 0, 1) := by decide +kernel
theorem dX6_init_1 : decode cX6_init 1 = .ok (.invokespecial 3, 3) := by decide +kernel
theorem dX6_init_4 : decode cX6_init 4 = .ok (.aload_n 0, 1) := by decide +kernel
theorem dX6_init_5 : decode cX6_init 5 = .ok (.iconst (-1), 1) := by decide +kernel
theorem dX6_init_6 : decode cX6_init 6 = .ok (.putfield 9, 3) := by decide +kernel
theorem dX6_init_9 : decode cX6_init 9 = .ok (.aload_n 0, 1) := by decide +kernel
theorem dX6_init_10 : decode cX6_init 10 = .ok (.iconst (-1), 1) := by decide +kernel
theorem dX6_init_11 : decode cX6_init 11 = .ok (.putfield 15, 3) := by decide +kernel
theorem dX6_init_14 : decode cX6_init 14 = .ok (.aload_n 0, 1) := by decide +kernel
theorem dX6_init_15 : decode cX6_init 15 = .ok (.bipush 7, 2) := by decide +kernel
theorem dX6_init_17 : decode cX6_init 17 = .ok (.newarray .int, 2) := by decide +kernel
theorem dX6_init_19 : decode cX6_init 19 = .ok (.putfield 18, 3) := by decide +kernel
theorem dX6_init_22 : decode cX6_init 22 = .ok (.aload_n 0, 1) := by decide +kernel
theorem dX6_init_23 : decode cX6_init 23 = .ok (.bipush 7, 2) := by decide +kernel
theorem dX6_init_25 : decode cX6_init 25 = .ok (.newarray .int, 2) := by decide +kernel
theorem dX6_init_27 : decode cX6_init 27 = .ok (.putfield 22, 3) := by decide +kernel
theorem dX6_init_30 : decode cX6_init 30 = .ok (.aload_n 0, 1) := by decide +kernel
theorem dX6_init_31 : decode cX6_init 31 = .ok (.bipush 49, 2) := by decide +kernel
theorem dX6_init_33 : decode cX6_init 33 = .ok (.newarray .int, 2) := by decide +kernel
theorem dX6_init_35 : decode cX6_init 35 = .ok (.putfield 25, 3) := by decide +kernel
theorem dX6_init_38 : decode cX6_init 38 = .ok (.aload_n 0, 1) := by decide +kernel
theorem dX6_init_39 : decode cX6_init 39 = .ok (.bipush 7, 2) := by decide +kernel
theorem dX6_init_41 : decode cX6_init 41 = .ok (.newarray .int, 2) := by decide +kernel
theorem dX6_init_43 : decode cX6_init 43 = .ok (.putfield 28, 3) := by decide +kernel
theorem dX6_init_46 : decode cX6_init 46 = .ok (.aload_n 0, 1) := by decide +kernel
theorem dX6_init_47 : decode cX6_init 47 = .ok (.bipush 7, 2) := by decide +kernel
theorem dX6_init_49 : decode cX6_init 49 = .ok (.newarray .int, 2) := by decide +kernel
theorem dX6_init_51 : decode cX6_init 51 = .ok (.putfield 31, 3) := by decide +kernel
theorem dX6_init_54 : decode cX6_init 54 = .ok (.aload_n 0, 1) := by decide +kernel
theorem dX6_init_55 : decode cX6_init 55 = .ok (.aload_n 1, 1) := by decide +kernel
theorem dX6_init_56 : decode cX6_init 56 = .ok (.putfield 34, 3) := by decide +kernel
theorem dX6_init_59 : decode cX6_init 59 = .ok (.aload_n 0, 1) := by decide +kernel
theorem dX6_init_60 : decode cX6_init 60 = .ok (.aload_n 2, 1) := by decide +kernel
theorem dX6_init_61 : decode cX6_init 61 = .ok (.putfield 38, 3) := by decide +kernel
theorem dX6_init_64 : decode cX6_init 64 = .ok (.return_, 1) := by decide +kernel
theorem dX6_total_0 : decode cX6_total 0 = .ok (.iconst 0, 1) := by decide +kernel
theorem dX6_total_1 : decode cX6_total 1 = .ok (.istore_n 2, 1) := by decide +kernel
theorem dX6_total_2 : decode cX6_total 2 = .ok (.iconst 0, 1) := by decide +kernel
theorem dX6_total_3 : decode cX6_total 3 = .ok (.istore_n 3, 1) := by decide +kernel
theorem dX6_total_4 : decode cX6_total 4 = .ok (.iload_n 3, 1) := by decide +kernel
theorem dX6_total_5 : decode cX6_total 5 = .ok (.aload_n 0, 1) := by decide +kernel
theorem dX6_total_6 : decode cX6_total 6 = .ok (.getfield 34, 3) := by decide +kernel
theorem dX6_total_9 : decode cX6_total 9 = .ok (.invokevirtual 42, 3) := by decide +kernel
theorem dX6_total_12 : decode cX6_total 12 = .ok (.if_icmp .ge 115, 3) := by decide +kernel
theorem dX6_total_15 : decode cX6_total 15 = .ok (.aload_n 0, 1) := by decide +kernel
theorem dX6_total_16 : decode cX6_total 16 = .ok (.getfield 34, 3) := by decide +kernel
theorem dX6_total_19 : decode cX6_total 19 = .ok (.iload_n 3, 1) := by decide +kernel
theorem dX6_total_20 : decode cX6_total 20 = .ok (.invokevirtual 48, 3) := by decide +kernel
theorem dX6_total_23 : decode cX6_total 23 = .ok (.istore 4, 2) := by decide +kernel
theorem dX6_total_25 : decode cX6_total 25 = .ok (.iload 4, 2) := by decide +kernel
theorem dX6_total_27 : decode cX6_total 27 = .ok (.iconst (-1), 1) := by decide +kernel
theorem dX6_total_28 : decode cX6_total 28 = .ok (.if_icmp .eq 93, 3) := by decide +kernel
theorem dX6_total_31 : decode cX6_total 31 = .ok (.iload_n 1, 1) := by decide +kernel
theorem dX6_total_32 : decode cX6_total 32 = .ok (.iload_n 3, 1) := by decide +kernel
theorem dX6_total_33 : decode cX6_total 33 = .ok (.ishr, 1) := by decide +kernel
theorem dX6_total_34 : decode cX6_total 34 = .ok (.iconst 1, 1) := by decide +kernel
theorem dX6_total_35 : decode cX6_total 35 = .ok (.iand, 1) := by decide +kernel
theorem dX6_total_36 : decode cX6_total 36 = .ok (.ifCond .eq 6, 3) := by decide +kernel
theorem dX6_total_39 : decode cX6_total 39 = .ok (.goto 82, 3) := by decide +kernel
theorem dX6_total_42 : decode cX6_total 42 = .ok (.iload_n 2, 1) := by decide +kernel
theorem dX6_total_43 : decode cX6_total 43 = .ok (.aload_n 0, 1) := by decide +kernel
theorem dX6_total_44 : decode cX6_total 44 = .ok (.getfield 38, 3) := by decide +kernel
theorem dX6_total_47 : decode cX6_total 47 = .ok (.iload_n 3, 1) := by decide +kernel
theorem dX6_total_48 : decode cX6_total 48 = .ok (.iload 4, 2) := by decide +kernel
theorem dX6_total_50 : decode cX6_total 50 = .ok (.invokevirtual 52, 3) := by decide +kernel
theorem dX6_total_53 : decode cX6_total 53 = .ok (.isub, 1) := by decide +kernel
theorem dX6_total_54 : decode cX6_total 54 = .ok (.istore_n 2, 1) := by decide +kernel
theorem dX6_total_55 : decode cX6_total 55 = .ok (.iload_n 3, 1) := by decide +kernel
theorem dX6_total_56 : decode cX6_total 56 = .ok (.iconst 1, 1) := by decide +kernel
theorem dX6_total_57 : decode cX6_total 57 = .ok (.iadd, 1) := by decide +kernel
theorem dX6_total_58 : decode cX6_total 58 = .ok (.istore 5, 2) := by decide +kernel
theorem dX6_total_60 : decode cX6_total 60 = .ok (.iload 5, 2) := by decide +kernel
theorem dX6_total_62 : decode cX6_total 62 = .ok (.aload_n 0, 1) := by decide +kernel
theorem dX6_total_63 : decode cX6_total 63 = .ok (.getfield 34, 3) := by decide +kernel
theorem dX6_total_66 : decode cX6_total 66 = .ok (.invokevirtual 42, 3) := by decide +kernel
theorem dX6_total_69 : decode cX6_total 69 = .ok (.if_icmp .ge 52, 3) := by decide +kernel
theorem dX6_total_72 : decode cX6_total 72 = .ok (.aload_n 0, 1) := by decide +kernel
theorem dX6_total_73 : decode cX6_total 73 = .ok (.getfield 34, 3) := by decide +kernel
theorem dX6_total_76 : decode cX6_total 76 = .ok (.iload 5, 2) := by decide +kernel
theorem dX6_total_78 : decode cX6_total 78 = .ok (.invokevirtual 48, 3) := by decide +kernel
theorem dX6_total_81 : decode cX6_total 81 = .ok (.istore 6, 2) := by decide +kernel
theorem dX6_total_83 : decode cX6_total 83 = .ok (.iload 6, 2) := by decide +kernel
theorem dX6_total_85 : decode cX6_total 85 = .ok (.iconst (-1), 1) := by decide +kernel
theorem dX6_total_86 : decode cX6_total 86 = .ok (.if_icmp .eq 29, 3) := by decide +kernel
theorem dX6_total_89 : decode cX6_total 89 = .ok (.iload_n 1, 1) := by decide +kernel
theorem dX6_total_90 : decode cX6_total 90 = .ok (.iload 5, 2) := by decide +kernel
theorem dX6_total_92 : decode cX6_total 92 = .ok (.ishr, 1) := by decide +kernel
theorem dX6_total_93 : decode cX6_total 93 = .ok (.iconst 1, 1) := by decide +kernel
theorem dX6_total_94 : decode cX6_total 94 = .ok (.iand, 1) := by decide +kernel
theorem dX6_total_95 : decode cX6_total 95 = .ok (.ifCond .ne 20, 3) := by decide +kernel
theorem dX6_total_98 : decode cX6_total 98 = .ok (.iload_n 2, 1) := by decide +kernel
theorem dX6_total_99 : decode cX6_total 99 = .ok (.aload_n 0, 1) := by decide +kernel
theorem dX6_total_100 : decode cX6_total 100 = .ok (.getfield 38, 3) := by decide +kernel
theorem dX6_total_103 : decode cX6_total 103 = .ok (.iload_n 3, 1) := by decide +kernel
theorem dX6_total_104 : decode cX6_total 104 = .ok (.iload 4, 2) := by decide +kernel
theorem dX6_total_106 : decode cX6_total 106 = .ok (.iload 5, 2) := by decide +kernel
theorem dX6_total_108 : decode cX6_total 108 = .ok (.iload 6, 2) := by decide +kernel
theorem dX6_total_110 : decode cX6_total 110 = .ok (.invokevirtual 58, 3) := by decide +kernel
theorem dX6_total_113 : decode cX6_total 113 = .ok (.iadd, 1) := by decide +kernel
theorem dX6_total_114 : decode cX6_total 114 = .ok (.istore_n 2, 1) := by decide +kernel
theorem dX6_total_115 : decode cX6_total 115 = .ok (.iinc 5 1, 3) := by decide +kernel
theorem dX6_total_118 : decode cX6_total 118 = .ok (.goto (-58), 3) := by decide +kernel
theorem dX6_total_121 : decode cX6_total 121 = .ok (.iinc 3 1, 3) := by decide +kernel
theorem dX6_total_124 : decode cX6_total 124 = .ok (.goto (-120), 3) := by decide +kernel
theorem dX6_total_127 : decode cX6_total 127 = .ok (.iload_n 2, 1) := by decide +kernel
theorem dX6_total_128 : decode cX6_total 128 = .ok (.ireturn, 1) := by decide +kernel
theorem dX6_cost_0 : decode cX6_cost 0 = .ok (.aload_n 0, 1) := by decide +kernel
theorem dX6_cost_1 : decode cX6_cost 1 = .ok (.getfield 38, 3) := by decide +kernel
theorem dX6_cost_4 : decode cX6_cost 4 = .ok (.iload_n 1, 1) := by decide +kernel
theorem dX6_cost_5 : decode cX6_cost 5 = .ok (.iload_n 2, 1) := by decide +kernel
theorem dX6_cost_6 : decode cX6_cost 6 = .ok (.invokevirtual 52, 3) := by decide +kernel
theorem dX6_cost_9 : decode cX6_cost 9 = .ok (.ineg, 1) := by decide +kernel
theorem dX6_cost_10 : decode cX6_cost 10 = .ok (.istore 4, 2) := by decide +kernel
theorem dX6_cost_12 : decode cX6_cost 12 = .ok (.iconst 0, 1) := by decide +kernel
theorem dX6_cost_13 : decode cX6_cost 13 = .ok (.istore 5, 2) := by decide +kernel
theorem dX6_cost_15 : decode cX6_cost 15 = .ok (.iload 5, 2) := by decide +kernel
theorem dX6_cost_17 : decode cX6_cost 17 = .ok (.aload_n 0, 1) := by decide +kernel
theorem dX6_cost_18 : decode cX6_cost 18 = .ok (.getfield 34, 3) := by decide +kernel
theorem dX6_cost_21 : decode cX6_cost 21 = .ok (.invokevirtual 42, 3) := by decide +kernel
theorem dX6_cost_24 : decode cX6_cost 24 = .ok (.if_icmp .ge 59, 3) := by decide +kernel
theorem dX6_cost_27 : decode cX6_cost 27 = .ok (.aload_n 0, 1) := by decide +kernel
theorem dX6_cost_28 : decode cX6_cost 28 = .ok (.getfield 34, 3) := by decide +kernel
theorem dX6_cost_31 : decode cX6_cost 31 = .ok (.iload 5, 2) := by decide +kernel
theorem dX6_cost_33 : decode cX6_cost 33 = .ok (.invokevirtual 48, 3) := by decide +kernel
theorem dX6_cost_36 : decode cX6_cost 36 = .ok (.istore 6, 2) := by decide +kernel
theorem dX6_cost_38 : decode cX6_cost 38 = .ok (.iload 6, 2) := by decide +kernel
theorem dX6_cost_40 : decode cX6_cost 40 = .ok (.iconst (-1), 1) := by decide +kernel
theorem dX6_cost_41 : decode cX6_cost 41 = .ok (.if_icmp .eq 36, 3) := by decide +kernel
theorem dX6_cost_44 : decode cX6_cost 44 = .ok (.iload 5, 2) := by decide +kernel
theorem dX6_cost_46 : decode cX6_cost 46 = .ok (.iload_n 1, 1) := by decide +kernel
theorem dX6_cost_47 : decode cX6_cost 47 = .ok (.if_icmp .eq 30, 3) := by decide +kernel
theorem dX6_cost_50 : decode cX6_cost 50 = .ok (.iload_n 3, 1) := by decide +kernel
theorem dX6_cost_51 : decode cX6_cost 51 = .ok (.iload 5, 2) := by decide +kernel
theorem dX6_cost_53 : decode cX6_cost 53 = .ok (.ishr, 1) := by decide +kernel
theorem dX6_cost_54 : decode cX6_cost 54 = .ok (.iconst 1, 1) := by decide +kernel
theorem dX6_cost_55 : decode cX6_cost 55 = .ok (.iand, 1) := by decide +kernel
theorem dX6_cost_56 : decode cX6_cost 56 = .ok (.ifCond .ne 21, 3) := by decide +kernel
theorem dX6_cost_59 : decode cX6_cost 59 = .ok (.iload 4, 2) := by decide +kernel
theorem dX6_cost_61 : decode cX6_cost 61 = .ok (.aload_n 0, 1) := by decide +kernel
theorem dX6_cost_62 : decode cX6_cost 62 = .ok (.getfield 38, 3) := by decide +kernel
theorem dX6_cost_65 : decode cX6_cost 65 = .ok (.iload_n 1, 1) := by decide +kernel
theorem dX6_cost_66 : decode cX6_cost 66 = .ok (.iload_n 2, 1) := by decide +kernel
theorem dX6_cost_67 : decode cX6_cost 67 = .ok (.iload 5, 2) := by decide +kernel
theorem dX6_cost_69 : decode cX6_cost 69 = .ok (.iload 6, 2) := by decide +kernel
theorem dX6_cost_71 : decode cX6_cost 71 = .ok (.invokevirtual 58, 3) := by decide +kernel
theorem dX6_cost_74 : decode cX6_cost 74 = .ok (.iadd, 1) := by decide +kernel
theorem dX6_cost_75 : decode cX6_cost 75 = .ok (.istore 4, 2) := by decide +kernel
theorem dX6_cost_77 : decode cX6_cost 77 = .ok (.iinc 5 1, 3) := by decide +kernel
theorem dX6_cost_80 : decode cX6_cost 80 = .ok (.goto (-65), 3) := by decide +kernel
theorem dX6_cost_83 : decode cX6_cost 83 = .ok (.iload 4, 2) := by decide +kernel
theorem dX6_cost_85 : decode cX6_cost 85 = .ok (.ireturn, 1) := by decide +kernel
theorem dX6_find_0 : decode cX6_find 0 = .ok (.aload_n 0, 1) := by decide +kernel
theorem dX6_find_1 : decode cX6_find 1 = .ok (.iconst 0, 1) := by decide +kernel
theorem dX6_find_2 : decode cX6_find 2 = .ok (.invokevirtual 62, 3) := by decide +kernel
theorem dX6_find_5 : decode cX6_find 5 = .ok (.istore_n 1, 1) := by decide +kernel
theorem dX6_find_6 : decode cX6_find 6 = .ok (.aload_n 0, 1) := by decide +kernel
theorem dX6_find_7 : decode cX6_find 7 = .ok (.iload_n 1, 1) := by decide +kernel
theorem dX6_find_8 : decode cX6_find 8 = .ok (.putfield 65, 3) := by decide +kernel
theorem dX6_find_11 : decode cX6_find 11 = .ok (.aload_n 0, 1) := by decide +kernel
theorem dX6_find_12 : decode cX6_find 12 = .ok (.iconst (-1), 1) := by decide +kernel
theorem dX6_find_13 : decode cX6_find 13 = .ok (.putfield 9, 3) := by decide +kernel
theorem dX6_find_16 : decode cX6_find 16 = .ok (.aload_n 0, 1) := by decide +kernel
theorem dX6_find_17 : decode cX6_find 17 = .ok (.iconst (-1), 1) := by decide +kernel
theorem dX6_find_18 : decode cX6_find 18 = .ok (.putfield 15, 3) := by decide +kernel
theorem dX6_find_21 : decode cX6_find 21 = .ok (.iconst 0, 1) := by decide +kernel
theorem dX6_find_22 : decode cX6_find 22 = .ok (.istore_n 2, 1) := by decide +kernel
theorem dX6_find_23 : decode cX6_find 23 = .ok (.iload_n 2, 1) := by decide +kernel
theorem dX6_find_24 : decode cX6_find 24 = .ok (.aload_n 0, 1) := by decide +kernel
theorem dX6_find_25 : decode cX6_find 25 = .ok (.getfield 34, 3) := by decide +kernel
theorem dX6_find_28 : decode cX6_find 28 = .ok (.invokevirtual 42, 3) := by decide +kernel
theorem dX6_find_31 : decode cX6_find 31 = .ok (.if_icmp .ge 147, 3) := by decide +kernel
theorem dX6_find_34 : decode cX6_find 34 = .ok (.aload_n 0, 1) := by decide +kernel
theorem dX6_find_35 : decode cX6_find 35 = .ok (.getfield 34, 3) := by decide +kernel
theorem dX6_find_38 : decode cX6_find 38 = .ok (.iload_n 2, 1) := by decide +kernel
theorem dX6_find_39 : decode cX6_find 39 = .ok (.invokevirtual 68, 3) := by decide +kernel
theorem dX6_find_42 : decode cX6_find 42 = .ok (.istore_n 3, 1) := by decide +kernel
theorem dX6_find_43 : decode cX6_find 43 = .ok (.iload_n 3, 1) := by decide +kernel
theorem dX6_find_44 : decode cX6_find 44 = .ok (.ifCond .eq 20, 3) := by decide +kernel
theorem dX6_find_47 : decode cX6_find 47 = .ok (.aload_n 0, 1) := by decide +kernel
theorem dX6_find_48 : decode cX6_find 48 = .ok (.iload_n 2, 1) := by decide +kernel
theorem dX6_find_49 : decode cX6_find 49 = .ok (.aload_n 0, 1) := by decide +kernel
theorem dX6_find_50 : decode cX6_find 50 = .ok (.getfield 34, 3) := by decide +kernel
theorem dX6_find_53 : decode cX6_find 53 = .ok (.iload_n 2, 1) := by decide +kernel
theorem dX6_find_54 : decode cX6_find 54 = .ok (.invokevirtual 48, 3) := by decide +kernel
theorem dX6_find_57 : decode cX6_find 57 = .ok (.iconst 0, 1) := by decide +kernel
theorem dX6_find_58 : decode cX6_find 58 = .ok (.invokevirtual 72, 3) := by decide +kernel
theorem dX6_find_61 : decode cX6_find 61 = .ok (.goto 4, 3) := by decide +kernel
theorem dX6_find_64 : decode cX6_find 64 = .ok (.iconst 0, 1) := by decide +kernel
theorem dX6_find_65 : decode cX6_find 65 = .ok (.istore 4, 2) := by decide +kernel
theorem dX6_find_67 : decode cX6_find 67 = .ok (.iconst 0, 1) := by decide +kernel
theorem dX6_find_68 : decode cX6_find 68 = .ok (.istore 5, 2) := by decide +kernel
theorem dX6_find_70 : decode cX6_find 70 = .ok (.iload 5, 2) := by decide +kernel
theorem dX6_find_72 : decode cX6_find 72 = .ok (.bipush 40, 2) := by decide +kernel
theorem dX6_find_74 : decode cX6_find 74 = .ok (.if_icmp .ge 98, 3) := by decide +kernel
theorem dX6_find_77 : decode cX6_find 77 = .ok (.iload_n 3, 1) := by decide +kernel
theorem dX6_find_78 : decode cX6_find 78 = .ok (.ifCond .eq 94, 3) := by decide +kernel
theorem dX6_find_81 : decode cX6_find 81 = .ok (.aload_n 0, 1) := by decide +kernel
theorem dX6_find_82 : decode cX6_find 82 = .ok (.getfield 34, 3) := by decide +kernel
theorem dX6_find_85 : decode cX6_find 85 = .ok (.iload 5, 2) := by decide +kernel
theorem dX6_find_87 : decode cX6_find 87 = .ok (.invokevirtual 78, 3) := by decide +kernel
theorem dX6_find_90 : decode cX6_find 90 = .ok (.istore 6, 2) := by decide +kernel
theorem dX6_find_92 : decode cX6_find 92 = .ok (.iload_n 1, 1) := by decide +kernel
theorem dX6_find_93 : decode cX6_find 93 = .ok (.istore 7, 2) := by decide +kernel
theorem dX6_find_95 : decode cX6_find 95 = .ok (.iload 6, 2) := by decide +kernel
theorem dX6_find_97 : decode cX6_find 97 = .ok (.iconst (-1), 1) := by decide +kernel
theorem dX6_find_98 : decode cX6_find 98 = .ok (.if_icmp .ne 22, 3) := by decide +kernel
theorem dX6_find_101 : decode cX6_find 101 = .ok (.iload 7, 2) := by decide +kernel
theorem dX6_find_103 : decode cX6_find 103 = .ok (.aload_n 0, 1) := by decide +kernel
theorem dX6_find_104 : decode cX6_find 104 = .ok (.iload_n 2, 1) := by decide +kernel
theorem dX6_find_105 : decode cX6_find 105 = .ok (.iload 5, 2) := by decide +kernel
theorem dX6_find_107 : decode cX6_find 107 = .ok (.iconst 0, 1) := by decide +kernel
theorem dX6_find_108 : decode cX6_find 108 = .ok (.invokevirtual 72, 3) := by decide +kernel
theorem dX6_find_111 : decode cX6_find 111 = .ok (.iload 4, 2) := by decide +kernel
theorem dX6_find_113 : decode cX6_find 113 = .ok (.isub, 1) := by decide +kernel
theorem dX6_find_114 : decode cX6_find 114 = .ok (.iadd, 1) := by decide +kernel
theorem dX6_find_115 : decode cX6_find 115 = .ok (.istore 7, 2) := by decide +kernel
theorem dX6_find_117 : decode cX6_find 117 = .ok (.goto 23, 3) := by decide +kernel
theorem dX6_find_120 : decode cX6_find 120 = .ok (.iload 6, 2) := by decide +kernel
theorem dX6_find_122 : decode cX6_find 122 = .ok (.iload_n 2, 1) := by decide +kernel
theorem dX6_find_123 : decode cX6_find 123 = .ok (.if_icmp .le 17, 3) := by decide +kernel
theorem dX6_find_126 : decode cX6_find 126 = .ok (.iload 7, 2) := by decide +kernel
theorem dX6_find_128 : decode cX6_find 128 = .ok (.aload_n 0, 1) := by decide +kernel
theorem dX6_find_129 : decode cX6_find 129 = .ok (.iload_n 2, 1) := by decide +kernel
theorem dX6_find_130 : decode cX6_find 130 = .ok (.iload 5, 2) := by decide +kernel
theorem dX6_find_132 : decode cX6_find 132 = .ok (.iload 6, 2) := by decide +kernel
theorem dX6_find_134 : decode cX6_find 134 = .ok (.invokevirtual 81, 3) := by decide +kernel
theorem dX6_find_137 : decode cX6_find 137 = .ok (.iadd, 1) := by decide +kernel
theorem dX6_find_138 : decode cX6_find 138 = .ok (.istore 7, 2) := by decide +kernel
theorem dX6_find_140 : decode cX6_find 140 = .ok (.iload 7, 2) := by decide +kernel
theorem dX6_find_142 : decode cX6_find 142 = .ok (.aload_n 0, 1) := by decide +kernel
theorem dX6_find_143 : decode cX6_find 143 = .ok (.getfield 65, 3) := by decide +kernel
theorem dX6_find_146 : decode cX6_find 146 = .ok (.if_icmp .ge 20, 3) := by decide +kernel
theorem dX6_find_149 : decode cX6_find 149 = .ok (.aload_n 0, 1) := by decide +kernel
theorem dX6_find_150 : decode cX6_find 150 = .ok (.iload 7, 2) := by decide +kernel
theorem dX6_find_152 : decode cX6_find 152 = .ok (.putfield 65, 3) := by decide +kernel
theorem dX6_find_155 : decode cX6_find 155 = .ok (.aload_n 0, 1) := by decide +kernel
theorem dX6_find_156 : decode cX6_find 156 = .ok (.iload_n 2, 1) := by decide +kernel
theorem dX6_find_157 : decode cX6_find 157 = .ok (.putfield 9, 3) := by decide +kernel
theorem dX6_find_160 : decode cX6_find 160 = .ok (.aload_n 0, 1) := by decide +kernel
theorem dX6_find_161 : decode cX6_find 161 = .ok (.iload 5, 2) := by decide +kernel
theorem dX6_find_163 : decode cX6_find 163 = .ok (.putfield 15, 3) := by decide +kernel
theorem dX6_find_166 : decode cX6_find 166 = .ok (.iinc 5 1, 3) := by decide +kernel
theorem dX6_find_169 : decode cX6_find 169 = .ok (.goto (-99), 3) := by decide +kernel
theorem dX6_find_172 : decode cX6_find 172 = .ok (.iinc 2 1, 3) := by decide +kernel
theorem dX6_find_175 : decode cX6_find 175 = .ok (.goto (-152), 3) := by decide +kernel
theorem dX6_find_178 : decode cX6_find 178 = .ok (.aload_n 0, 1) := by decide +kernel
theorem dX6_find_179 : decode cX6_find 179 = .ok (.getfield 9, 3) := by decide +kernel
theorem dX6_find_182 : decode cX6_find 182 = .ok (.iconst (-1), 1) := by decide +kernel
theorem dX6_find_183 : decode cX6_find 183 = .ok (.if_icmp .eq 7, 3) := by decide +kernel
theorem dX6_find_186 : decode cX6_find 186 = .ok (.iconst 1, 1) := by decide +kernel
theorem dX6_find_187 : decode cX6_find 187 = .ok (.goto 4, 3) := by decide +kernel
theorem dX6_find_190 : decode cX6_find 190 = .ok (.iconst 0, 1) := by decide +kernel
theorem dX6_find_191 : decode cX6_find 191 = .ok (.ireturn, 1) := by decide +kernel
theorem dX6_change_0 : decode cX6_change 0 = .ok (.aload_n 0, 1) := by decide +kernel
theorem dX6_change_1 : decode cX6_change 1 = .ok (.getfield 34, 3) := by decide +kernel
theorem dX6_change_4 : decode cX6_change 4 = .ok (.iload_n 1, 1) := by decide +kernel
theorem dX6_change_5 : decode cX6_change 5 = .ok (.invokevirtual 48, 3) := by decide +kernel
theorem dX6_change_8 : decode cX6_change 8 = .ok (.istore 4, 2) := by decide +kernel
theorem dX6_change_10 : decode cX6_change 10 = .ok (.iconst 1, 1) := by decide +kernel
theorem dX6_change_11 : decode cX6_change 11 = .ok (.iload_n 1, 1) := by decide +kernel
theorem dX6_change_12 : decode cX6_change 12 = .ok (.ishl, 1) := by decide +kernel
theorem dX6_change_13 : decode cX6_change 13 = .ok (.iconst 1, 1) := by decide +kernel
theorem dX6_change_14 : decode cX6_change 14 = .ok (.iload_n 3, 1) := by decide +kernel
theorem dX6_change_15 : decode cX6_change 15 = .ok (.ishl, 1) := by decide +kernel
theorem dX6_change_16 : decode cX6_change 16 = .ok (.ior, 1) := by decide +kernel
theorem dX6_change_17 : decode cX6_change 17 = .ok (.istore 5, 2) := by decide +kernel
theorem dX6_change_19 : decode cX6_change 19 = .ok (.aload_n 0, 1) := by decide +kernel
theorem dX6_change_20 : decode cX6_change 20 = .ok (.iload_n 1, 1) := by decide +kernel
theorem dX6_change_21 : decode cX6_change 21 = .ok (.iload 4, 2) := by decide +kernel
theorem dX6_change_23 : decode cX6_change 23 = .ok (.iload 5, 2) := by decide +kernel
theorem dX6_change_25 : decode cX6_change 25 = .ok (.invokevirtual 72, 3) := by decide +kernel
theorem dX6_change_28 : decode cX6_change 28 = .ok (.aload_n 0, 1) := by decide +kernel
theorem dX6_change_29 : decode cX6_change 29 = .ok (.iload_n 3, 1) := by decide +kernel
theorem dX6_change_30 : decode cX6_change 30 = .ok (.iload_n 2, 1) := by decide +kernel
theorem dX6_change_31 : decode cX6_change 31 = .ok (.iload 5, 2) := by decide +kernel
theorem dX6_change_33 : decode cX6_change 33 = .ok (.invokevirtual 72, 3) := by decide +kernel
theorem dX6_change_36 : decode cX6_change 36 = .ok (.iadd, 1) := by decide +kernel
theorem dX6_change_37 : decode cX6_change 37 = .ok (.aload_n 0, 1) := by decide +kernel
theorem dX6_change_38 : decode cX6_change 38 = .ok (.getfield 38, 3) := by decide +kernel
theorem dX6_change_41 : decode cX6_change 41 = .ok (.iload_n 1, 1) := by decide +kernel
theorem dX6_change_42 : decode cX6_change 42 = .ok (.iload 4, 2) := by decide +kernel
theorem dX6_change_44 : decode cX6_change 44 = .ok (.iload_n 3, 1) := by decide +kernel
theorem dX6_change_45 : decode cX6_change 45 = .ok (.iload_n 2, 1) := by decide +kernel
theorem dX6_change_46 : decode cX6_change 46 = .ok (.invokevirtual 58, 3) := by decide +kernel
theorem dX6_change_49 : decode cX6_change 49 = .ok (.iadd, 1) := by decide +kernel
theorem dX6_change_50 : decode cX6_change 50 = .ok (.istore 6, 2) := by decide +kernel
theorem dX6_change_52 : decode cX6_change 52 = .ok (.aload_n 0, 1) := by decide +kernel
theorem dX6_change_53 : decode cX6_change 53 = .ok (.iload_n 1, 1) := by decide +kernel
theorem dX6_change_54 : decode cX6_change 54 = .ok (.iload_n 2, 1) := by decide +kernel
theorem dX6_change_55 : decode cX6_change 55 = .ok (.iload 5, 2) := by decide +kernel
theorem dX6_change_57 : decode cX6_change 57 = .ok (.invokevirtual 72, 3) := by decide +kernel
theorem dX6_change_60 : decode cX6_change 60 = .ok (.aload_n 0, 1) := by decide +kernel
theorem dX6_change_61 : decode cX6_change 61 = .ok (.iload_n 3, 1) := by decide +kernel
theorem dX6_change_62 : decode cX6_change 62 = .ok (.iload 4, 2) := by decide +kernel
theorem dX6_change_64 : decode cX6_change 64 = .ok (.iload 5, 2) := by decide +kernel
theorem dX6_change_66 : decode cX6_change 66 = .ok (.invokevirtual 72, 3) := by decide +kernel
theorem dX6_change_69 : decode cX6_change 69 = .ok (.iadd, 1) := by decide +kernel
theorem dX6_change_70 : decode cX6_change 70 = .ok (.aload_n 0, 1) := by decide +kernel
theorem dX6_change_71 : decode cX6_change 71 = .ok (.getfield 38, 3) := by decide +kernel
theorem dX6_change_74 : decode cX6_change 74 = .ok (.iload_n 1, 1) := by decide +kernel
theorem dX6_change_75 : decode cX6_change 75 = .ok (.iload_n 2, 1) := by decide +kernel
theorem dX6_change_76 : decode cX6_change 76 = .ok (.iload_n 3, 1) := by decide +kernel
theorem dX6_change_77 : decode cX6_change 77 = .ok (.iload 4, 2) := by decide +kernel
theorem dX6_change_79 : decode cX6_change 79 = .ok (.invokevirtual 58, 3) := by decide +kernel
theorem dX6_change_82 : decode cX6_change 82 = .ok (.iadd, 1) := by decide +kernel
theorem dX6_change_83 : decode cX6_change 83 = .ok (.istore 7, 2) := by decide +kernel
theorem dX6_change_85 : decode cX6_change 85 = .ok (.iload 7, 2) := by decide +kernel
theorem dX6_change_87 : decode cX6_change 87 = .ok (.iload 6, 2) := by decide +kernel
theorem dX6_change_89 : decode cX6_change 89 = .ok (.isub, 1) := by decide +kernel
theorem dX6_change_90 : decode cX6_change 90 = .ok (.ireturn, 1) := by decide +kernel
theorem dX6_guestToMove_0 : decode cX6_guestToMove 0 = .ok (.aload_n 0, 1) := by decide +kernel
theorem dX6_guestToMove_1 : decode cX6_guestToMove 1 = .ok (.getfield 9, 3) := by decide +kernel
theorem dX6_guestToMove_4 : decode cX6_guestToMove 4 = .ok (.ireturn, 1) := by decide +kernel
theorem dX6_seatToTake_0 : decode cX6_seatToTake 0 = .ok (.aload_n 0, 1) := by decide +kernel
theorem dX6_seatToTake_1 : decode cX6_seatToTake 1 = .ok (.getfield 15, 3) := by decide +kernel
theorem dX6_seatToTake_4 : decode cX6_seatToTake 4 = .ok (.ireturn, 1) := by decide +kernel
theorem dX6_sumThen_0 : decode cX6_sumThen 0 = .ok (.aload_n 0, 1) := by decide +kernel
theorem dX6_sumThen_1 : decode cX6_sumThen 1 = .ok (.getfield 65, 3) := by decide +kernel
theorem dX6_sumThen_4 : decode cX6_sumThen 4 = .ok (.ireturn, 1) := by decide +kernel
theorem dX6_canTell_0 : decode cX6_canTell 0 = .ok (.iload_n 2, 1) := by decide +kernel
theorem dX6_canTell_1 : decode cX6_canTell 1 = .ok (.iconst 1, 1) := by decide +kernel
theorem dX6_canTell_2 : decode cX6_canTell 2 = .ok (.if_icmp .lt 33, 3) := by decide +kernel
theorem dX6_canTell_5 : decode cX6_canTell 5 = .ok (.iload_n 2, 1) := by decide +kernel
theorem dX6_canTell_6 : decode cX6_canTell 6 = .ok (.bipush 7, 2) := by decide +kernel
theorem dX6_canTell_8 : decode cX6_canTell 8 = .ok (.if_icmp .gt 27, 3) := by decide +kernel
theorem dX6_canTell_11 : decode cX6_canTell 11 = .ok (.iload_n 1, 1) := by decide +kernel
theorem dX6_canTell_12 : decode cX6_canTell 12 = .ok (.invokestatic 84, 3) := by decide +kernel
theorem dX6_canTell_15 : decode cX6_canTell 15 = .ok (.iload_n 2, 1) := by decide +kernel
theorem dX6_canTell_16 : decode cX6_canTell 16 = .ok (.if_icmp .ne 19, 3) := by decide +kernel
theorem dX6_canTell_19 : decode cX6_canTell 19 = .ok (.iload_n 1, 1) := by decide +kernel
theorem dX6_canTell_20 : decode cX6_canTell 20 = .ok (.aload_n 0, 1) := by decide +kernel
theorem dX6_canTell_21 : decode cX6_canTell 21 = .ok (.getfield 34, 3) := by decide +kernel
theorem dX6_canTell_24 : decode cX6_canTell 24 = .ok (.invokevirtual 42, 3) := by decide +kernel
theorem dX6_canTell_27 : decode cX6_canTell 27 = .ok (.iushr, 1) := by decide +kernel
theorem dX6_canTell_28 : decode cX6_canTell 28 = .ok (.ifCond .ne 7, 3) := by decide +kernel
theorem dX6_canTell_31 : decode cX6_canTell 31 = .ok (.iconst 1, 1) := by decide +kernel
theorem dX6_canTell_32 : decode cX6_canTell 32 = .ok (.goto 4, 3) := by decide +kernel
theorem dX6_canTell_35 : decode cX6_canTell 35 = .ok (.iconst 0, 1) := by decide +kernel
theorem dX6_canTell_36 : decode cX6_canTell 36 = .ok (.ireturn, 1) := by decide +kernel
theorem dX6_isTold_0 : decode cX6_isTold 0 = .ok (.aload_n 0, 1) := by decide +kernel
theorem dX6_isTold_1 : decode cX6_isTold 1 = .ok (.getfield 34, 3) := by decide +kernel
theorem dX6_isTold_4 : decode cX6_isTold 4 = .ok (.iload_n 2, 1) := by decide +kernel
theorem dX6_isTold_5 : decode cX6_isTold 5 = .ok (.invokevirtual 89, 3) := by decide +kernel
theorem dX6_isTold_8 : decode cX6_isTold 8 = .ok (.ifCond .eq 15, 3) := by decide +kernel
theorem dX6_isTold_11 : decode cX6_isTold 11 = .ok (.iload_n 1, 1) := by decide +kernel
theorem dX6_isTold_12 : decode cX6_isTold 12 = .ok (.iload_n 2, 1) := by decide +kernel
theorem dX6_isTold_13 : decode cX6_isTold 13 = .ok (.ishr, 1) := by decide +kernel
theorem dX6_isTold_14 : decode cX6_isTold 14 = .ok (.iconst 1, 1) := by decide +kernel
theorem dX6_isTold_15 : decode cX6_isTold 15 = .ok (.iand, 1) := by decide +kernel
theorem dX6_isTold_16 : decode cX6_isTold 16 = .ok (.ifCond .eq 7, 3) := by decide +kernel
theorem dX6_isTold_19 : decode cX6_isTold 19 = .ok (.iconst 1, 1) := by decide +kernel
theorem dX6_isTold_20 : decode cX6_isTold 20 = .ok (.goto 4, 3) := by decide +kernel
theorem dX6_isTold_23 : decode cX6_isTold 23 = .ok (.iconst 0, 1) := by decide +kernel
theorem dX6_isTold_24 : decode cX6_isTold 24 = .ok (.ireturn, 1) := by decide +kernel
theorem dX6_tell_0 : decode cX6_tell 0 = .ok (.aload_n 0, 1) := by decide +kernel
theorem dX6_tell_1 : decode cX6_tell 1 = .ok (.iconst 0, 1) := by decide +kernel
theorem dX6_tell_2 : decode cX6_tell 2 = .ok (.putfield 92, 3) := by decide +kernel
theorem dX6_tell_5 : decode cX6_tell 5 = .ok (.aload_n 0, 1) := by decide +kernel
theorem dX6_tell_6 : decode cX6_tell 6 = .ok (.iload_n 1, 1) := by decide +kernel
theorem dX6_tell_7 : decode cX6_tell 7 = .ok (.putfield 95, 3) := by decide +kernel
theorem dX6_tell_10 : decode cX6_tell 10 = .ok (.iconst 0, 1) := by decide +kernel
theorem dX6_tell_11 : decode cX6_tell 11 = .ok (.istore_n 3, 1) := by decide +kernel
theorem dX6_tell_12 : decode cX6_tell 12 = .ok (.iload_n 3, 1) := by decide +kernel
theorem dX6_tell_13 : decode cX6_tell 13 = .ok (.aload_n 0, 1) := by decide +kernel
theorem dX6_tell_14 : decode cX6_tell 14 = .ok (.getfield 34, 3) := by decide +kernel
theorem dX6_tell_17 : decode cX6_tell 17 = .ok (.invokevirtual 42, 3) := by decide +kernel
theorem dX6_tell_20 : decode cX6_tell 20 = .ok (.if_icmp .ge 60, 3) := by decide +kernel
theorem dX6_tell_23 : decode cX6_tell 23 = .ok (.aload_n 0, 1) := by decide +kernel
theorem dX6_tell_24 : decode cX6_tell 24 = .ok (.getfield 92, 3) := by decide +kernel
theorem dX6_tell_27 : decode cX6_tell 27 = .ok (.bipush 7, 2) := by decide +kernel
theorem dX6_tell_29 : decode cX6_tell 29 = .ok (.if_icmp .ge 51, 3) := by decide +kernel
theorem dX6_tell_32 : decode cX6_tell 32 = .ok (.aload_n 0, 1) := by decide +kernel
theorem dX6_tell_33 : decode cX6_tell 33 = .ok (.iload_n 1, 1) := by decide +kernel
theorem dX6_tell_34 : decode cX6_tell 34 = .ok (.iload_n 3, 1) := by decide +kernel
theorem dX6_tell_35 : decode cX6_tell 35 = .ok (.invokevirtual 98, 3) := by decide +kernel
theorem dX6_tell_38 : decode cX6_tell 38 = .ok (.ifCond .eq 36, 3) := by decide +kernel
theorem dX6_tell_41 : decode cX6_tell 41 = .ok (.aload_n 0, 1) := by decide +kernel
theorem dX6_tell_42 : decode cX6_tell 42 = .ok (.getfield 34, 3) := by decide +kernel
theorem dX6_tell_45 : decode cX6_tell 45 = .ok (.iload_n 3, 1) := by decide +kernel
theorem dX6_tell_46 : decode cX6_tell 46 = .ok (.invokevirtual 102, 3) := by decide +kernel
theorem dX6_tell_49 : decode cX6_tell 49 = .ok (.ifCond .ne 5, 3) := by decide +kernel
theorem dX6_tell_52 : decode cX6_tell 52 = .ok (.iconst 0, 1) := by decide +kernel
theorem dX6_tell_53 : decode cX6_tell 53 = .ok (.ireturn, 1) := by decide +kernel
theorem dX6_tell_54 : decode cX6_tell 54 = .ok (.aload_n 0, 1) := by decide +kernel
theorem dX6_tell_55 : decode cX6_tell 55 = .ok (.getfield 18, 3) := by decide +kernel
theorem dX6_tell_58 : decode cX6_tell 58 = .ok (.aload_n 0, 1) := by decide +kernel
theorem dX6_tell_59 : decode cX6_tell 59 = .ok (.getfield 92, 3) := by decide +kernel
theorem dX6_tell_62 : decode cX6_tell 62 = .ok (.iload_n 3, 1) := by decide +kernel
theorem dX6_tell_63 : decode cX6_tell 63 = .ok (.iastore, 1) := by decide +kernel
theorem dX6_tell_64 : decode cX6_tell 64 = .ok (.aload_n 0, 1) := by decide +kernel
theorem dX6_tell_65 : decode cX6_tell 65 = .ok (.dup, 1) := by decide +kernel
theorem dX6_tell_66 : decode cX6_tell 66 = .ok (.getfield 92, 3) := by decide +kernel
theorem dX6_tell_69 : decode cX6_tell 69 = .ok (.iconst 1, 1) := by decide +kernel
theorem dX6_tell_70 : decode cX6_tell 70 = .ok (.iadd, 1) := by decide +kernel
theorem dX6_tell_71 : decode cX6_tell 71 = .ok (.putfield 92, 3) := by decide +kernel
theorem dX6_tell_74 : decode cX6_tell 74 = .ok (.iinc 3 1, 3) := by decide +kernel
theorem dX6_tell_77 : decode cX6_tell 77 = .ok (.goto (-65), 3) := by decide +kernel
theorem dX6_tell_80 : decode cX6_tell 80 = .ok (.iconst 0, 1) := by decide +kernel
theorem dX6_tell_81 : decode cX6_tell 81 = .ok (.istore_n 3, 1) := by decide +kernel
theorem dX6_tell_82 : decode cX6_tell 82 = .ok (.iload_n 3, 1) := by decide +kernel
theorem dX6_tell_83 : decode cX6_tell 83 = .ok (.aload_n 0, 1) := by decide +kernel
theorem dX6_tell_84 : decode cX6_tell 84 = .ok (.getfield 92, 3) := by decide +kernel
theorem dX6_tell_87 : decode cX6_tell 87 = .ok (.if_icmp .ge 63, 3) := by decide +kernel
theorem dX6_tell_90 : decode cX6_tell 90 = .ok (.aload_n 2, 1) := by decide +kernel
theorem dX6_tell_91 : decode cX6_tell 91 = .ok (.iload_n 3, 1) := by decide +kernel
theorem dX6_tell_92 : decode cX6_tell 92 = .ok (.invokevirtual 105, 3) := by decide +kernel
theorem dX6_tell_95 : decode cX6_tell 95 = .ok (.istore 4, 2) := by decide +kernel
theorem dX6_tell_97 : decode cX6_tell 97 = .ok (.aload_n 0, 1) := by decide +kernel
theorem dX6_tell_98 : decode cX6_tell 98 = .ok (.getfield 34, 3) := by decide +kernel
theorem dX6_tell_101 : decode cX6_tell 101 = .ok (.iload 4, 2) := by decide +kernel
theorem dX6_tell_103 : decode cX6_tell 103 = .ok (.invokevirtual 78, 3) := by decide +kernel
theorem dX6_tell_106 : decode cX6_tell 106 = .ok (.istore 5, 2) := by decide +kernel
theorem dX6_tell_108 : decode cX6_tell 108 = .ok (.iload 4, 2) := by decide +kernel
theorem dX6_tell_110 : decode cX6_tell 110 = .ok (.invokestatic 110, 3) := by decide +kernel
theorem dX6_tell_113 : decode cX6_tell 113 = .ok (.ifCond .eq 29, 3) := by decide +kernel
theorem dX6_tell_116 : decode cX6_tell 116 = .ok (.iload 5, 2) := by decide +kernel
theorem dX6_tell_118 : decode cX6_tell 118 = .ok (.iconst (-1), 1) := by decide +kernel
theorem dX6_tell_119 : decode cX6_tell 119 = .ok (.if_icmp .eq 13, 3) := by decide +kernel
theorem dX6_tell_122 : decode cX6_tell 122 = .ok (.aload_n 0, 1) := by decide +kernel
theorem dX6_tell_123 : decode cX6_tell 123 = .ok (.iload_n 1, 1) := by decide +kernel
theorem dX6_tell_124 : decode cX6_tell 124 = .ok (.iload 5, 2) := by decide +kernel
theorem dX6_tell_126 : decode cX6_tell 126 = .ok (.invokevirtual 98, 3) := by decide +kernel
theorem dX6_tell_129 : decode cX6_tell 129 = .ok (.ifCond .eq 13, 3) := by decide +kernel
theorem dX6_tell_132 : decode cX6_tell 132 = .ok (.aload_n 0, 1) := by decide +kernel
theorem dX6_tell_133 : decode cX6_tell 133 = .ok (.iload_n 3, 1) := by decide +kernel
theorem dX6_tell_134 : decode cX6_tell 134 = .ok (.iload 4, 2) := by decide +kernel
theorem dX6_tell_136 : decode cX6_tell 136 = .ok (.invokevirtual 113, 3) := by decide +kernel
theorem dX6_tell_139 : decode cX6_tell 139 = .ok (.ifCond .ne 5, 3) := by decide +kernel
theorem dX6_tell_142 : decode cX6_tell 142 = .ok (.iconst 0, 1) := by decide +kernel
theorem dX6_tell_143 : decode cX6_tell 143 = .ok (.ireturn, 1) := by decide +kernel
theorem dX6_tell_144 : decode cX6_tell 144 = .ok (.iinc 3 1, 3) := by decide +kernel
theorem dX6_tell_147 : decode cX6_tell 147 = .ok (.goto (-65), 3) := by decide +kernel
theorem dX6_tell_150 : decode cX6_tell 150 = .ok (.iconst 1, 1) := by decide +kernel
theorem dX6_tell_151 : decode cX6_tell 151 = .ok (.ireturn, 1) := by decide +kernel
theorem dX6_insert_0 : decode cX6_insert 0 = .ok (.iload_n 1, 1) := by decide +kernel
theorem dX6_insert_1 : decode cX6_insert 1 = .ok (.istore_n 3, 1) := by decide +kernel
theorem dX6_insert_2 : decode cX6_insert 2 = .ok (.iload_n 3, 1) := by decide +kernel
theorem dX6_insert_3 : decode cX6_insert 3 = .ok (.ifCond .le 55, 3) := by decide +kernel
theorem dX6_insert_6 : decode cX6_insert 6 = .ok (.iload_n 3, 1) := by decide +kernel
theorem dX6_insert_7 : decode cX6_insert 7 = .ok (.bipush 7, 2) := by decide +kernel
theorem dX6_insert_9 : decode cX6_insert 9 = .ok (.if_icmp .ge 49, 3) := by decide +kernel
theorem dX6_insert_12 : decode cX6_insert 12 = .ok (.aload_n 0, 1) := by decide +kernel
theorem dX6_insert_13 : decode cX6_insert 13 = .ok (.getfield 22, 3) := by decide +kernel
theorem dX6_insert_16 : decode cX6_insert 16 = .ok (.iload_n 3, 1) := by decide +kernel
theorem dX6_insert_17 : decode cX6_insert 17 = .ok (.iconst 1, 1) := by decide +kernel
theorem dX6_insert_18 : decode cX6_insert 18 = .ok (.isub, 1) := by decide +kernel
theorem dX6_insert_19 : decode cX6_insert 19 = .ok (.iaload, 1) := by decide +kernel
theorem dX6_insert_20 : decode cX6_insert 20 = .ok (.iload_n 2, 1) := by decide +kernel
theorem dX6_insert_21 : decode cX6_insert 21 = .ok (.if_icmp .lt 37, 3) := by decide +kernel
theorem dX6_insert_24 : decode cX6_insert 24 = .ok (.aload_n 0, 1) := by decide +kernel
theorem dX6_insert_25 : decode cX6_insert 25 = .ok (.getfield 22, 3) := by decide +kernel
theorem dX6_insert_28 : decode cX6_insert 28 = .ok (.iload_n 3, 1) := by decide +kernel
theorem dX6_insert_29 : decode cX6_insert 29 = .ok (.iconst 1, 1) := by decide +kernel
theorem dX6_insert_30 : decode cX6_insert 30 = .ok (.isub, 1) := by decide +kernel
theorem dX6_insert_31 : decode cX6_insert 31 = .ok (.iaload, 1) := by decide +kernel
theorem dX6_insert_32 : decode cX6_insert 32 = .ok (.iload_n 2, 1) := by decide +kernel
theorem dX6_insert_33 : decode cX6_insert 33 = .ok (.if_icmp .ne 5, 3) := by decide +kernel
theorem dX6_insert_36 : decode cX6_insert 36 = .ok (.iconst 0, 1) := by decide +kernel
theorem dX6_insert_37 : decode cX6_insert 37 = .ok (.ireturn, 1) := by decide +kernel
theorem dX6_insert_38 : decode cX6_insert 38 = .ok (.aload_n 0, 1) := by decide +kernel
theorem dX6_insert_39 : decode cX6_insert 39 = .ok (.getfield 22, 3) := by decide +kernel
theorem dX6_insert_42 : decode cX6_insert 42 = .ok (.iload_n 3, 1) := by decide +kernel
theorem dX6_insert_43 : decode cX6_insert 43 = .ok (.aload_n 0, 1) := by decide +kernel
theorem dX6_insert_44 : decode cX6_insert 44 = .ok (.getfield 22, 3) := by decide +kernel
theorem dX6_insert_47 : decode cX6_insert 47 = .ok (.iload_n 3, 1) := by decide +kernel
theorem dX6_insert_48 : decode cX6_insert 48 = .ok (.iconst 1, 1) := by decide +kernel
theorem dX6_insert_49 : decode cX6_insert 49 = .ok (.isub, 1) := by decide +kernel
theorem dX6_insert_50 : decode cX6_insert 50 = .ok (.iaload, 1) := by decide +kernel
theorem dX6_insert_51 : decode cX6_insert 51 = .ok (.iastore, 1) := by decide +kernel
theorem dX6_insert_52 : decode cX6_insert 52 = .ok (.iinc 3 (-1), 3) := by decide +kernel
theorem dX6_insert_55 : decode cX6_insert 55 = .ok (.goto (-53), 3) := by decide +kernel
theorem dX6_insert_58 : decode cX6_insert 58 = .ok (.iload_n 3, 1) := by decide +kernel
theorem dX6_insert_59 : decode cX6_insert 59 = .ok (.ifCond .lt 16, 3) := by decide +kernel
theorem dX6_insert_62 : decode cX6_insert 62 = .ok (.iload_n 3, 1) := by decide +kernel
theorem dX6_insert_63 : decode cX6_insert 63 = .ok (.bipush 7, 2) := by decide +kernel
theorem dX6_insert_65 : decode cX6_insert 65 = .ok (.if_icmp .ge 10, 3) := by decide +kernel
theorem dX6_insert_68 : decode cX6_insert 68 = .ok (.aload_n 0, 1) := by decide +kernel
theorem dX6_insert_69 : decode cX6_insert 69 = .ok (.getfield 22, 3) := by decide +kernel
theorem dX6_insert_72 : decode cX6_insert 72 = .ok (.iload_n 3, 1) := by decide +kernel
theorem dX6_insert_73 : decode cX6_insert 73 = .ok (.iload_n 2, 1) := by decide +kernel
theorem dX6_insert_74 : decode cX6_insert 74 = .ok (.iastore, 1) := by decide +kernel
theorem dX6_insert_75 : decode cX6_insert 75 = .ok (.iconst 1, 1) := by decide +kernel
theorem dX6_insert_76 : decode cX6_insert 76 = .ok (.ireturn, 1) := by decide +kernel
theorem dX6_seatBest_0 : decode cX6_seatBest 0 = .ok (.iconst 0, 1) := by decide +kernel
theorem dX6_seatBest_1 : decode cX6_seatBest 1 = .ok (.istore_n 1, 1) := by decide +kernel
theorem dX6_seatBest_2 : decode cX6_seatBest 2 = .ok (.iload_n 1, 1) := by decide +kernel
theorem dX6_seatBest_3 : decode cX6_seatBest 3 = .ok (.aload_n 0, 1) := by decide +kernel
theorem dX6_seatBest_4 : decode cX6_seatBest 4 = .ok (.getfield 92, 3) := by decide +kernel
theorem dX6_seatBest_7 : decode cX6_seatBest 7 = .ok (.if_icmp .ge 68, 3) := by decide +kernel
theorem dX6_seatBest_10 : decode cX6_seatBest 10 = .ok (.iload_n 1, 1) := by decide +kernel
theorem dX6_seatBest_11 : decode cX6_seatBest 11 = .ok (.bipush 7, 2) := by decide +kernel
theorem dX6_seatBest_13 : decode cX6_seatBest 13 = .ok (.if_icmp .ge 62, 3) := by decide +kernel
theorem dX6_seatBest_16 : decode cX6_seatBest 16 = .ok (.iconst 0, 1) := by decide +kernel
theorem dX6_seatBest_17 : decode cX6_seatBest 17 = .ok (.istore_n 2, 1) := by decide +kernel
theorem dX6_seatBest_18 : decode cX6_seatBest 18 = .ok (.iload_n 2, 1) := by decide +kernel
theorem dX6_seatBest_19 : decode cX6_seatBest 19 = .ok (.aload_n 0, 1) := by decide +kernel
theorem dX6_seatBest_20 : decode cX6_seatBest 20 = .ok (.getfield 92, 3) := by decide +kernel
theorem dX6_seatBest_23 : decode cX6_seatBest 23 = .ok (.if_icmp .ge 46, 3) := by decide +kernel
theorem dX6_seatBest_26 : decode cX6_seatBest 26 = .ok (.iload_n 2, 1) := by decide +kernel
theorem dX6_seatBest_27 : decode cX6_seatBest 27 = .ok (.bipush 7, 2) := by decide +kernel
theorem dX6_seatBest_29 : decode cX6_seatBest 29 = .ok (.if_icmp .ge 40, 3) := by decide +kernel
theorem dX6_seatBest_32 : decode cX6_seatBest 32 = .ok (.aload_n 0, 1) := by decide +kernel
theorem dX6_seatBest_33 : decode cX6_seatBest 33 = .ok (.getfield 25, 3) := by decide +kernel
theorem dX6_seatBest_36 : decode cX6_seatBest 36 = .ok (.iload_n 1, 1) := by decide +kernel
theorem dX6_seatBest_37 : decode cX6_seatBest 37 = .ok (.bipush 7, 2) := by decide +kernel
theorem dX6_seatBest_39 : decode cX6_seatBest 39 = .ok (.imul, 1) := by decide +kernel
theorem dX6_seatBest_40 : decode cX6_seatBest 40 = .ok (.iload_n 2, 1) := by decide +kernel
theorem dX6_seatBest_41 : decode cX6_seatBest 41 = .ok (.iadd, 1) := by decide +kernel
theorem dX6_seatBest_42 : decode cX6_seatBest 42 = .ok (.aload_n 0, 1) := by decide +kernel
theorem dX6_seatBest_43 : decode cX6_seatBest 43 = .ok (.aload_n 0, 1) := by decide +kernel
theorem dX6_seatBest_44 : decode cX6_seatBest 44 = .ok (.getfield 18, 3) := by decide +kernel
theorem dX6_seatBest_47 : decode cX6_seatBest 47 = .ok (.iload_n 1, 1) := by decide +kernel
theorem dX6_seatBest_48 : decode cX6_seatBest 48 = .ok (.iaload, 1) := by decide +kernel
theorem dX6_seatBest_49 : decode cX6_seatBest 49 = .ok (.aload_n 0, 1) := by decide +kernel
theorem dX6_seatBest_50 : decode cX6_seatBest 50 = .ok (.getfield 22, 3) := by decide +kernel
theorem dX6_seatBest_53 : decode cX6_seatBest 53 = .ok (.iload_n 2, 1) := by decide +kernel
theorem dX6_seatBest_54 : decode cX6_seatBest 54 = .ok (.iaload, 1) := by decide +kernel
theorem dX6_seatBest_55 : decode cX6_seatBest 55 = .ok (.aload_n 0, 1) := by decide +kernel
theorem dX6_seatBest_56 : decode cX6_seatBest 56 = .ok (.getfield 95, 3) := by decide +kernel
theorem dX6_seatBest_59 : decode cX6_seatBest 59 = .ok (.invokevirtual 72, 3) := by decide +kernel
theorem dX6_seatBest_62 : decode cX6_seatBest 62 = .ok (.iastore, 1) := by decide +kernel
theorem dX6_seatBest_63 : decode cX6_seatBest 63 = .ok (.iinc 2 1, 3) := by decide +kernel
theorem dX6_seatBest_66 : decode cX6_seatBest 66 = .ok (.goto (-48), 3) := by decide +kernel
theorem dX6_seatBest_69 : decode cX6_seatBest 69 = .ok (.iinc 1 1, 3) := by decide +kernel
theorem dX6_seatBest_72 : decode cX6_seatBest 72 = .ok (.goto (-70), 3) := by decide +kernel
theorem dX6_seatBest_75 : decode cX6_seatBest 75 = .ok (.aload_n 0, 1) := by decide +kernel
theorem dX6_seatBest_76 : decode cX6_seatBest 76 = .ok (.iconst 0, 1) := by decide +kernel
theorem dX6_seatBest_77 : decode cX6_seatBest 77 = .ok (.putfield 116, 3) := by decide +kernel
theorem dX6_seatBest_80 : decode cX6_seatBest 80 = .ok (.aload_n 0, 1) := by decide +kernel
theorem dX6_seatBest_81 : decode cX6_seatBest 81 = .ok (.iconst 0, 1) := by decide +kernel
theorem dX6_seatBest_82 : decode cX6_seatBest 82 = .ok (.putfield 120, 3) := by decide +kernel
theorem dX6_seatBest_85 : decode cX6_seatBest 85 = .ok (.aload_n 0, 1) := by decide +kernel
theorem dX6_seatBest_86 : decode cX6_seatBest 86 = .ok (.iconst 0, 1) := by decide +kernel
theorem dX6_seatBest_87 : decode cX6_seatBest 87 = .ok (.iconst 0, 1) := by decide +kernel
theorem dX6_seatBest_88 : decode cX6_seatBest 88 = .ok (.iconst 0, 1) := by decide +kernel
theorem dX6_seatBest_89 : decode cX6_seatBest 89 = .ok (.invokevirtual 123, 3) := by decide +kernel
theorem dX6_seatBest_92 : decode cX6_seatBest 92 = .ok (.aload_n 0, 1) := by decide +kernel
theorem dX6_seatBest_93 : decode cX6_seatBest 93 = .ok (.aload_n 0, 1) := by decide +kernel
theorem dX6_seatBest_94 : decode cX6_seatBest 94 = .ok (.getfield 95, 3) := by decide +kernel
theorem dX6_seatBest_97 : decode cX6_seatBest 97 = .ok (.invokevirtual 62, 3) := by decide +kernel
theorem dX6_seatBest_100 : decode cX6_seatBest 100 = .ok (.aload_n 0, 1) := by decide +kernel
theorem dX6_seatBest_101 : decode cX6_seatBest 101 = .ok (.getfield 120, 3) := by decide +kernel
theorem dX6_seatBest_104 : decode cX6_seatBest 104 = .ok (.iadd, 1) := by decide +kernel
theorem dX6_seatBest_105 : decode cX6_seatBest 105 = .ok (.ireturn, 1) := by decide +kernel
theorem dX6_choose_0 : decode cX6_choose 0 = .ok (.iload_n 1, 1) := by decide +kernel
theorem dX6_choose_1 : decode cX6_choose 1 = .ok (.ifCond .lt 17, 3) := by decide +kernel
theorem dX6_choose_4 : decode cX6_choose 4 = .ok (.iload_n 1, 1) := by decide +kernel
theorem dX6_choose_5 : decode cX6_choose 5 = .ok (.aload_n 0, 1) := by decide +kernel
theorem dX6_choose_6 : decode cX6_choose 6 = .ok (.getfield 92, 3) := by decide +kernel
theorem dX6_choose_9 : decode cX6_choose 9 = .ok (.if_icmp .ge 9, 3) := by decide +kernel
theorem dX6_choose_12 : decode cX6_choose 12 = .ok (.iload_n 1, 1) := by decide +kernel
theorem dX6_choose_13 : decode cX6_choose 13 = .ok (.bipush 7, 2) := by decide +kernel
theorem dX6_choose_15 : decode cX6_choose 15 = .ok (.if_icmp .lt 9, 3) := by decide +kernel
theorem dX6_choose_18 : decode cX6_choose 18 = .ok (.aload_n 0, 1) := by decide +kernel
theorem dX6_choose_19 : decode cX6_choose 19 = .ok (.iload_n 2, 1) := by decide +kernel
theorem dX6_choose_20 : decode cX6_choose 20 = .ok (.invokevirtual 127, 3) := by decide +kernel
theorem dX6_choose_23 : decode cX6_choose 23 = .ok (.return_, 1) := by decide +kernel
theorem dX6_choose_24 : decode cX6_choose 24 = .ok (.iconst 0, 1) := by decide +kernel
theorem dX6_choose_25 : decode cX6_choose 25 = .ok (.istore 4, 2) := by decide +kernel
theorem dX6_choose_27 : decode cX6_choose 27 = .ok (.iload 4, 2) := by decide +kernel
theorem dX6_choose_29 : decode cX6_choose 29 = .ok (.aload_n 0, 1) := by decide +kernel
theorem dX6_choose_30 : decode cX6_choose 30 = .ok (.getfield 92, 3) := by decide +kernel
theorem dX6_choose_33 : decode cX6_choose 33 = .ok (.if_icmp .ge 63, 3) := by decide +kernel
theorem dX6_choose_36 : decode cX6_choose 36 = .ok (.iload 4, 2) := by decide +kernel
theorem dX6_choose_38 : decode cX6_choose 38 = .ok (.bipush 7, 2) := by decide +kernel
theorem dX6_choose_40 : decode cX6_choose 40 = .ok (.if_icmp .ge 56, 3) := by decide +kernel
theorem dX6_choose_43 : decode cX6_choose 43 = .ok (.iload_n 3, 1) := by decide +kernel
theorem dX6_choose_44 : decode cX6_choose 44 = .ok (.iload 4, 2) := by decide +kernel
theorem dX6_choose_46 : decode cX6_choose 46 = .ok (.ishr, 1) := by decide +kernel
theorem dX6_choose_47 : decode cX6_choose 47 = .ok (.iconst 1, 1) := by decide +kernel
theorem dX6_choose_48 : decode cX6_choose 48 = .ok (.iand, 1) := by decide +kernel
theorem dX6_choose_49 : decode cX6_choose 49 = .ok (.ifCond .ne 41, 3) := by decide +kernel
theorem dX6_choose_52 : decode cX6_choose 52 = .ok (.aload_n 0, 1) := by decide +kernel
theorem dX6_choose_53 : decode cX6_choose 53 = .ok (.getfield 28, 3) := by decide +kernel
theorem dX6_choose_56 : decode cX6_choose 56 = .ok (.iload_n 1, 1) := by decide +kernel
theorem dX6_choose_57 : decode cX6_choose 57 = .ok (.aload_n 0, 1) := by decide +kernel
theorem dX6_choose_58 : decode cX6_choose 58 = .ok (.getfield 22, 3) := by decide +kernel
theorem dX6_choose_61 : decode cX6_choose 61 = .ok (.iload 4, 2) := by decide +kernel
theorem dX6_choose_63 : decode cX6_choose 63 = .ok (.iaload, 1) := by decide +kernel
theorem dX6_choose_64 : decode cX6_choose 64 = .ok (.iastore, 1) := by decide +kernel
theorem dX6_choose_65 : decode cX6_choose 65 = .ok (.aload_n 0, 1) := by decide +kernel
theorem dX6_choose_66 : decode cX6_choose 66 = .ok (.iload_n 1, 1) := by decide +kernel
theorem dX6_choose_67 : decode cX6_choose 67 = .ok (.iload_n 2, 1) := by decide +kernel
theorem dX6_choose_68 : decode cX6_choose 68 = .ok (.aload_n 0, 1) := by decide +kernel
theorem dX6_choose_69 : decode cX6_choose 69 = .ok (.getfield 25, 3) := by decide +kernel
theorem dX6_choose_72 : decode cX6_choose 72 = .ok (.iload_n 1, 1) := by decide +kernel
theorem dX6_choose_73 : decode cX6_choose 73 = .ok (.bipush 7, 2) := by decide +kernel
theorem dX6_choose_75 : decode cX6_choose 75 = .ok (.imul, 1) := by decide +kernel
theorem dX6_choose_76 : decode cX6_choose 76 = .ok (.iload 4, 2) := by decide +kernel
theorem dX6_choose_78 : decode cX6_choose 78 = .ok (.iadd, 1) := by decide +kernel
theorem dX6_choose_79 : decode cX6_choose 79 = .ok (.iaload, 1) := by decide +kernel
theorem dX6_choose_80 : decode cX6_choose 80 = .ok (.iadd, 1) := by decide +kernel
theorem dX6_choose_81 : decode cX6_choose 81 = .ok (.iload_n 3, 1) := by decide +kernel
theorem dX6_choose_82 : decode cX6_choose 82 = .ok (.iconst 1, 1) := by decide +kernel
theorem dX6_choose_83 : decode cX6_choose 83 = .ok (.iload 4, 2) := by decide +kernel
theorem dX6_choose_85 : decode cX6_choose 85 = .ok (.ishl, 1) := by decide +kernel
theorem dX6_choose_86 : decode cX6_choose 86 = .ok (.ior, 1) := by decide +kernel
theorem dX6_choose_87 : decode cX6_choose 87 = .ok (.invokevirtual 131, 3) := by decide +kernel
theorem dX6_choose_90 : decode cX6_choose 90 = .ok (.iinc 4 1, 3) := by decide +kernel
theorem dX6_choose_93 : decode cX6_choose 93 = .ok (.goto (-66), 3) := by decide +kernel
theorem dX6_choose_96 : decode cX6_choose 96 = .ok (.return_, 1) := by decide +kernel
theorem dX6_seatOthers_0 : decode cX6_seatOthers 0 = .ok (.iload_n 2, 1) := by decide +kernel
theorem dX6_seatOthers_1 : decode cX6_seatOthers 1 = .ok (.istore 4, 2) := by decide +kernel
theorem dX6_seatOthers_3 : decode cX6_seatOthers 3 = .ok (.iconst 0, 1) := by decide +kernel
theorem dX6_seatOthers_4 : decode cX6_seatOthers 4 = .ok (.istore 5, 2) := by decide +kernel
theorem dX6_seatOthers_6 : decode cX6_seatOthers 6 = .ok (.iload 5, 2) := by decide +kernel
theorem dX6_seatOthers_8 : decode cX6_seatOthers 8 = .ok (.iload_n 1, 1) := by decide +kernel
theorem dX6_seatOthers_9 : decode cX6_seatOthers 9 = .ok (.if_icmp .ge 53, 3) := by decide +kernel
theorem dX6_seatOthers_12 : decode cX6_seatOthers 12 = .ok (.iload_n 1, 1) := by decide +kernel
theorem dX6_seatOthers_13 : decode cX6_seatOthers 13 = .ok (.bipush 7, 2) := by decide +kernel
theorem dX6_seatOthers_15 : decode cX6_seatOthers 15 = .ok (.if_icmp .ge 47, 3) := by decide +kernel
theorem dX6_seatOthers_18 : decode cX6_seatOthers 18 = .ok (.iload 4, 2) := by decide +kernel
theorem dX6_seatOthers_20 : decode cX6_seatOthers 20 = .ok (.aload_n 0, 1) := by decide +kernel
theorem dX6_seatOthers_21 : decode cX6_seatOthers 21 = .ok (.getfield 38, 3) := by decide +kernel
theorem dX6_seatOthers_24 : decode cX6_seatOthers 24 = .ok (.aload_n 0, 1) := by decide +kernel
theorem dX6_seatOthers_25 : decode cX6_seatOthers 25 = .ok (.getfield 18, 3) := by decide +kernel
theorem dX6_seatOthers_28 : decode cX6_seatOthers 28 = .ok (.iload 5, 2) := by decide +kernel
theorem dX6_seatOthers_30 : decode cX6_seatOthers 30 = .ok (.iaload, 1) := by decide +kernel
theorem dX6_seatOthers_31 : decode cX6_seatOthers 31 = .ok (.aload_n 0, 1) := by decide +kernel
theorem dX6_seatOthers_32 : decode cX6_seatOthers 32 = .ok (.getfield 28, 3) := by decide +kernel
theorem dX6_seatOthers_35 : decode cX6_seatOthers 35 = .ok (.iload 5, 2) := by decide +kernel
theorem dX6_seatOthers_37 : decode cX6_seatOthers 37 = .ok (.iaload, 1) := by decide +kernel
theorem dX6_seatOthers_38 : decode cX6_seatOthers 38 = .ok (.aload_n 0, 1) := by decide +kernel
theorem dX6_seatOthers_39 : decode cX6_seatOthers 39 = .ok (.getfield 18, 3) := by decide +kernel
theorem dX6_seatOthers_42 : decode cX6_seatOthers 42 = .ok (.iload_n 1, 1) := by decide +kernel
theorem dX6_seatOthers_43 : decode cX6_seatOthers 43 = .ok (.iaload, 1) := by decide +kernel
theorem dX6_seatOthers_44 : decode cX6_seatOthers 44 = .ok (.aload_n 0, 1) := by decide +kernel
theorem dX6_seatOthers_45 : decode cX6_seatOthers 45 = .ok (.getfield 28, 3) := by decide +kernel
theorem dX6_seatOthers_48 : decode cX6_seatOthers 48 = .ok (.iload_n 1, 1) := by decide +kernel
theorem dX6_seatOthers_49 : decode cX6_seatOthers 49 = .ok (.iaload, 1) := by decide +kernel
theorem dX6_seatOthers_50 : decode cX6_seatOthers 50 = .ok (.invokevirtual 58, 3) := by decide +kernel
theorem dX6_seatOthers_53 : decode cX6_seatOthers 53 = .ok (.iadd, 1) := by decide +kernel
theorem dX6_seatOthers_54 : decode cX6_seatOthers 54 = .ok (.istore 4, 2) := by decide +kernel
theorem dX6_seatOthers_56 : decode cX6_seatOthers 56 = .ok (.iinc 5 1, 3) := by decide +kernel
theorem dX6_seatOthers_59 : decode cX6_seatOthers 59 = .ok (.goto (-53), 3) := by decide +kernel
theorem dX6_seatOthers_62 : decode cX6_seatOthers 62 = .ok (.aload_n 0, 1) := by decide +kernel
theorem dX6_seatOthers_63 : decode cX6_seatOthers 63 = .ok (.iload_n 1, 1) := by decide +kernel
theorem dX6_seatOthers_64 : decode cX6_seatOthers 64 = .ok (.iconst 1, 1) := by decide +kernel
theorem dX6_seatOthers_65 : decode cX6_seatOthers 65 = .ok (.iadd, 1) := by decide +kernel
theorem dX6_seatOthers_66 : decode cX6_seatOthers 66 = .ok (.iload 4, 2) := by decide +kernel
theorem dX6_seatOthers_68 : decode cX6_seatOthers 68 = .ok (.iload_n 3, 1) := by decide +kernel
theorem dX6_seatOthers_69 : decode cX6_seatOthers 69 = .ok (.invokevirtual 123, 3) := by decide +kernel
theorem dX6_seatOthers_72 : decode cX6_seatOthers 72 = .ok (.return_, 1) := by decide +kernel
theorem dX6_noteIfLess_0 : decode cX6_noteIfLess 0 = .ok (.aload_n 0, 1) := by decide +kernel
theorem dX6_noteIfLess_1 : decode cX6_noteIfLess 1 = .ok (.getfield 116, 3) := by decide +kernel
theorem dX6_noteIfLess_4 : decode cX6_noteIfLess 4 = .ok (.ifCond .eq 11, 3) := by decide +kernel
theorem dX6_noteIfLess_7 : decode cX6_noteIfLess 7 = .ok (.iload_n 1, 1) := by decide +kernel
theorem dX6_noteIfLess_8 : decode cX6_noteIfLess 8 = .ok (.aload_n 0, 1) := by decide +kernel
theorem dX6_noteIfLess_9 : decode cX6_noteIfLess 9 = .ok (.getfield 120, 3) := by decide +kernel
theorem dX6_noteIfLess_12 : decode cX6_noteIfLess 12 = .ok (.if_icmp .ge 28, 3) := by decide +kernel
theorem dX6_noteIfLess_15 : decode cX6_noteIfLess 15 = .ok (.aload_n 0, 1) := by decide +kernel
theorem dX6_noteIfLess_16 : decode cX6_noteIfLess 16 = .ok (.iconst 1, 1) := by decide +kernel
theorem dX6_noteIfLess_17 : decode cX6_noteIfLess 17 = .ok (.putfield 116, 3) := by decide +kernel
theorem dX6_noteIfLess_20 : decode cX6_noteIfLess 20 = .ok (.aload_n 0, 1) := by decide +kernel
theorem dX6_noteIfLess_21 : decode cX6_noteIfLess 21 = .ok (.iload_n 1, 1) := by decide +kernel
theorem dX6_noteIfLess_22 : decode cX6_noteIfLess 22 = .ok (.putfield 120, 3) := by decide +kernel
theorem dX6_noteIfLess_25 : decode cX6_noteIfLess 25 = .ok (.aload_n 0, 1) := by decide +kernel
theorem dX6_noteIfLess_26 : decode cX6_noteIfLess 26 = .ok (.getfield 28, 3) := by decide +kernel
theorem dX6_noteIfLess_29 : decode cX6_noteIfLess 29 = .ok (.iconst 0, 1) := by decide +kernel
theorem dX6_noteIfLess_30 : decode cX6_noteIfLess 30 = .ok (.aload_n 0, 1) := by decide +kernel
theorem dX6_noteIfLess_31 : decode cX6_noteIfLess 31 = .ok (.getfield 31, 3) := by decide +kernel
theorem dX6_noteIfLess_34 : decode cX6_noteIfLess 34 = .ok (.iconst 0, 1) := by decide +kernel
theorem dX6_noteIfLess_35 : decode cX6_noteIfLess 35 = .ok (.bipush 7, 2) := by decide +kernel
theorem dX6_noteIfLess_37 : decode cX6_noteIfLess 37 = .ok (.invokestatic 134, 3) := by decide +kernel
theorem dX6_noteIfLess_40 : decode cX6_noteIfLess 40 = .ok (.return_, 1) := by decide +kernel
theorem dX6_seatFor_0 : decode cX6_seatFor 0 = .ok (.iconst 0, 1) := by decide +kernel
theorem dX6_seatFor_1 : decode cX6_seatFor 1 = .ok (.istore_n 2, 1) := by decide +kernel
theorem dX6_seatFor_2 : decode cX6_seatFor 2 = .ok (.iload_n 2, 1) := by decide +kernel
theorem dX6_seatFor_3 : decode cX6_seatFor 3 = .ok (.aload_n 0, 1) := by decide +kernel
theorem dX6_seatFor_4 : decode cX6_seatFor 4 = .ok (.getfield 92, 3) := by decide +kernel
theorem dX6_seatFor_7 : decode cX6_seatFor 7 = .ok (.if_icmp .ge 32, 3) := by decide +kernel
theorem dX6_seatFor_10 : decode cX6_seatFor 10 = .ok (.iload_n 2, 1) := by decide +kernel
theorem dX6_seatFor_11 : decode cX6_seatFor 11 = .ok (.bipush 7, 2) := by decide +kernel
theorem dX6_seatFor_13 : decode cX6_seatFor 13 = .ok (.if_icmp .ge 26, 3) := by decide +kernel
theorem dX6_seatFor_16 : decode cX6_seatFor 16 = .ok (.aload_n 0, 1) := by decide +kernel
theorem dX6_seatFor_17 : decode cX6_seatFor 17 = .ok (.getfield 18, 3) := by decide +kernel
theorem dX6_seatFor_20 : decode cX6_seatFor 20 = .ok (.iload_n 2, 1) := by decide +kernel
theorem dX6_seatFor_21 : decode cX6_seatFor 21 = .ok (.iaload, 1) := by decide +kernel
theorem dX6_seatFor_22 : decode cX6_seatFor 22 = .ok (.iload_n 1, 1) := by decide +kernel
theorem dX6_seatFor_23 : decode cX6_seatFor 23 = .ok (.if_icmp .ne 10, 3) := by decide +kernel
theorem dX6_seatFor_26 : decode cX6_seatFor 26 = .ok (.aload_n 0, 1) := by decide +kernel
theorem dX6_seatFor_27 : decode cX6_seatFor 27 = .ok (.getfield 31, 3) := by decide +kernel
theorem dX6_seatFor_30 : decode cX6_seatFor 30 = .ok (.iload_n 2, 1) := by decide +kernel
theorem dX6_seatFor_31 : decode cX6_seatFor 31 = .ok (.iaload, 1) := by decide +kernel
theorem dX6_seatFor_32 : decode cX6_seatFor 32 = .ok (.ireturn, 1) := by decide +kernel
theorem dX6_seatFor_33 : decode cX6_seatFor 33 = .ok (.iinc 2 1, 3) := by decide +kernel
theorem dX6_seatFor_36 : decode cX6_seatFor 36 = .ok (.goto (-34), 3) := by decide +kernel
theorem dX6_seatFor_39 : decode cX6_seatFor 39 = .ok (.iconst (-1), 1) := by decide +kernel
theorem dX6_seatFor_40 : decode cX6_seatFor 40 = .ok (.ireturn, 1) := by decide +kernel
theorem dX6_moveAll_0 : decode cX6_moveAll 0 = .ok (.iconst 0, 1) := by decide +kernel
theorem dX6_moveAll_1 : decode cX6_moveAll 1 = .ok (.istore_n 1, 1) := by decide +kernel
theorem dX6_moveAll_2 : decode cX6_moveAll 2 = .ok (.iload_n 1, 1) := by decide +kernel
theorem dX6_moveAll_3 : decode cX6_moveAll 3 = .ok (.aload_n 0, 1) := by decide +kernel
theorem dX6_moveAll_4 : decode cX6_moveAll 4 = .ok (.getfield 92, 3) := by decide +kernel
theorem dX6_moveAll_7 : decode cX6_moveAll 7 = .ok (.if_icmp .ge 29, 3) := by decide +kernel
theorem dX6_moveAll_10 : decode cX6_moveAll 10 = .ok (.iload_n 1, 1) := by decide +kernel
theorem dX6_moveAll_11 : decode cX6_moveAll 11 = .ok (.bipush 7, 2) := by decide +kernel
theorem dX6_moveAll_13 : decode cX6_moveAll 13 = .ok (.if_icmp .ge 23, 3) := by decide +kernel
theorem dX6_moveAll_16 : decode cX6_moveAll 16 = .ok (.aload_n 0, 1) := by decide +kernel
theorem dX6_moveAll_17 : decode cX6_moveAll 17 = .ok (.getfield 34, 3) := by decide +kernel
theorem dX6_moveAll_20 : decode cX6_moveAll 20 = .ok (.aload_n 0, 1) := by decide +kernel
theorem dX6_moveAll_21 : decode cX6_moveAll 21 = .ok (.getfield 18, 3) := by decide +kernel
theorem dX6_moveAll_24 : decode cX6_moveAll 24 = .ok (.iload_n 1, 1) := by decide +kernel
theorem dX6_moveAll_25 : decode cX6_moveAll 25 = .ok (.iaload, 1) := by decide +kernel
theorem dX6_moveAll_26 : decode cX6_moveAll 26 = .ok (.iconst (-1), 1) := by decide +kernel
theorem dX6_moveAll_27 : decode cX6_moveAll 27 = .ok (.invokevirtual 140, 3) := by decide +kernel
theorem dX6_moveAll_30 : decode cX6_moveAll 30 = .ok (.iinc 1 1, 3) := by decide +kernel
theorem dX6_moveAll_33 : decode cX6_moveAll 33 = .ok (.goto (-31), 3) := by decide +kernel
theorem dX6_moveAll_36 : decode cX6_moveAll 36 = .ok (.iconst 0, 1) := by decide +kernel
theorem dX6_moveAll_37 : decode cX6_moveAll 37 = .ok (.istore_n 1, 1) := by decide +kernel
theorem dX6_moveAll_38 : decode cX6_moveAll 38 = .ok (.iload_n 1, 1) := by decide +kernel
theorem dX6_moveAll_39 : decode cX6_moveAll 39 = .ok (.aload_n 0, 1) := by decide +kernel
theorem dX6_moveAll_40 : decode cX6_moveAll 40 = .ok (.getfield 92, 3) := by decide +kernel
theorem dX6_moveAll_43 : decode cX6_moveAll 43 = .ok (.if_icmp .ge 34, 3) := by decide +kernel
theorem dX6_moveAll_46 : decode cX6_moveAll 46 = .ok (.iload_n 1, 1) := by decide +kernel
theorem dX6_moveAll_47 : decode cX6_moveAll 47 = .ok (.bipush 7, 2) := by decide +kernel
theorem dX6_moveAll_49 : decode cX6_moveAll 49 = .ok (.if_icmp .ge 28, 3) := by decide +kernel
theorem dX6_moveAll_52 : decode cX6_moveAll 52 = .ok (.aload_n 0, 1) := by decide +kernel
theorem dX6_moveAll_53 : decode cX6_moveAll 53 = .ok (.getfield 34, 3) := by decide +kernel
theorem dX6_moveAll_56 : decode cX6_moveAll 56 = .ok (.aload_n 0, 1) := by decide +kernel
theorem dX6_moveAll_57 : decode cX6_moveAll 57 = .ok (.getfield 18, 3) := by decide +kernel
theorem dX6_moveAll_60 : decode cX6_moveAll 60 = .ok (.iload_n 1, 1) := by decide +kernel
theorem dX6_moveAll_61 : decode cX6_moveAll 61 = .ok (.iaload, 1) := by decide +kernel
theorem dX6_moveAll_62 : decode cX6_moveAll 62 = .ok (.aload_n 0, 1) := by decide +kernel
theorem dX6_moveAll_63 : decode cX6_moveAll 63 = .ok (.getfield 31, 3) := by decide +kernel
theorem dX6_moveAll_66 : decode cX6_moveAll 66 = .ok (.iload_n 1, 1) := by decide +kernel
theorem dX6_moveAll_67 : decode cX6_moveAll 67 = .ok (.iaload, 1) := by decide +kernel
theorem dX6_moveAll_68 : decode cX6_moveAll 68 = .ok (.invokevirtual 140, 3) := by decide +kernel
theorem dX6_moveAll_71 : decode cX6_moveAll 71 = .ok (.iinc 1 1, 3) := by decide +kernel
theorem dX6_moveAll_74 : decode cX6_moveAll 74 = .ok (.goto (-36), 3) := by decide +kernel
theorem dX6_moveAll_77 : decode cX6_moveAll 77 = .ok (.return_, 1) := by decide +kernel
theorem dX7_init_0 : decode cX7_init 0 = .ok (.aload_n 0, 1) := by decide +kernel
theorem dX7_init_1 : decode cX7_init 1 = .ok (.invokespecial 5, 3) := by decide +kernel
theorem dX7_init_4 : decode cX7_init 4 = .ok (.aload_n 0, 1) := by decide +kernel
theorem dX7_init_5 : decode cX7_init 5 = .ok (.bipush 16, 2) := by decide +kernel
theorem dX7_init_7 : decode cX7_init 7 = .ok (.newarray .int, 2) := by decide +kernel
theorem dX7_init_9 : decode cX7_init 9 = .ok (.putfield 11, 3) := by decide +kernel
theorem dX7_init_12 : decode cX7_init 12 = .ok (.aload_n 0, 1) := by decide +kernel
theorem dX7_init_13 : decode cX7_init 13 = .ok (.bipush 16, 2) := by decide +kernel
theorem dX7_init_15 : decode cX7_init 15 = .ok (.newarray .int, 2) := by decide +kernel
theorem dX7_init_17 : decode cX7_init 17 = .ok (.putfield 17, 3) := by decide +kernel
theorem dX7_init_20 : decode cX7_init 20 = .ok (.aload_n 0, 1) := by decide +kernel
theorem dX7_init_21 : decode cX7_init 21 = .ok (.bipush 16, 2) := by decide +kernel
theorem dX7_init_23 : decode cX7_init 23 = .ok (.newarray .int, 2) := by decide +kernel
theorem dX7_init_25 : decode cX7_init 25 = .ok (.putfield 20, 3) := by decide +kernel
theorem dX7_init_28 : decode cX7_init 28 = .ok (.aload_n 0, 1) := by decide +kernel
theorem dX7_init_29 : decode cX7_init 29 = .ok (.sipush 256, 3) := by decide +kernel
theorem dX7_init_32 : decode cX7_init 32 = .ok (.newarray .int, 2) := by decide +kernel
theorem dX7_init_34 : decode cX7_init 34 = .ok (.putfield 23, 3) := by decide +kernel
theorem dX7_init_37 : decode cX7_init 37 = .ok (.aload_n 0, 1) := by decide +kernel
theorem dX7_init_38 : decode cX7_init 38 = .ok (.bipush 16, 2) := by decide +kernel
theorem dX7_init_40 : decode cX7_init 40 = .ok (.newarray .int, 2) := by decide +kernel
theorem dX7_init_42 : decode cX7_init 42 = .ok (.putfield 26, 3) := by decide +kernel
theorem dX7_init_45 : decode cX7_init 45 = .ok (.aload_n 0, 1) := by decide +kernel
theorem dX7_init_46 : decode cX7_init 46 = .ok (.bipush 16, 2) := by decide +kernel
theorem dX7_init_48 : decode cX7_init 48 = .ok (.newarray .int, 2) := by decide +kernel
theorem dX7_init_50 : decode cX7_init 50 = .ok (.putfield 29, 3) := by decide +kernel
theorem dX7_init_53 : decode cX7_init 53 = .ok (.aload_n 0, 1) := by decide +kernel
theorem dX7_init_54 : decode cX7_init 54 = .ok (.bipush 16, 2) := by decide +kernel
theorem dX7_init_56 : decode cX7_init 56 = .ok (.newarray .int, 2) := by decide +kernel
theorem dX7_init_58 : decode cX7_init 58 = .ok (.putfield 32, 3) := by decide +kernel
theorem dX7_init_61 : decode cX7_init 61 = .ok (.aload_n 0, 1) := by decide +kernel
theorem dX7_init_62 : decode cX7_init 62 = .ok (.sipush 256, 3) := by decide +kernel
theorem dX7_init_65 : decode cX7_init 65 = .ok (.newarray .int, 2) := by decide +kernel
theorem dX7_init_67 : decode cX7_init 67 = .ok (.putfield 35, 3) := by decide +kernel
theorem dX7_init_70 : decode cX7_init 70 = .ok (.return_, 1) := by decide +kernel
theorem dX7_isHandful_0 : decode cX7_isHandful 0 = .ok (.iload_n 0, 1) := by decide +kernel
theorem dX7_isHandful_1 : decode cX7_isHandful 1 = .ok (.iconst 1, 1) := by decide +kernel
theorem dX7_isHandful_2 : decode cX7_isHandful 2 = .ok (.if_icmp .lt 13, 3) := by decide +kernel
theorem dX7_isHandful_5 : decode cX7_isHandful 5 = .ok (.iload_n 0, 1) := by decide +kernel
theorem dX7_isHandful_6 : decode cX7_isHandful 6 = .ok (.bipush 99, 2) := by decide +kernel
theorem dX7_isHandful_8 : decode cX7_isHandful 8 = .ok (.if_icmp .gt 7, 3) := by decide +kernel
theorem dX7_isHandful_11 : decode cX7_isHandful 11 = .ok (.iconst 1, 1) := by decide +kernel
theorem dX7_isHandful_12 : decode cX7_isHandful 12 = .ok (.goto 4, 3) := by decide +kernel
theorem dX7_isHandful_15 : decode cX7_isHandful 15 = .ok (.iconst 0, 1) := by decide +kernel
theorem dX7_isHandful_16 : decode cX7_isHandful 16 = .ok (.ireturn, 1) := by decide +kernel
theorem dX7_isGuest_0 : decode cX7_isGuest 0 = .ok (.iload_n 0, 1) := by decide +kernel
theorem dX7_isGuest_1 : decode cX7_isGuest 1 = .ok (.ifCond .lt 13, 3) := by decide +kernel
theorem dX7_isGuest_4 : decode cX7_isGuest 4 = .ok (.iload_n 0, 1) := by decide +kernel
theorem dX7_isGuest_5 : decode cX7_isGuest 5 = .ok (.bipush 16, 2) := by decide +kernel
theorem dX7_isGuest_7 : decode cX7_isGuest 7 = .ok (.if_icmp .ge 7, 3) := by decide +kernel
theorem dX7_isGuest_10 : decode cX7_isGuest 10 = .ok (.iconst 1, 1) := by decide +kernel
theorem dX7_isGuest_11 : decode cX7_isGuest 11 = .ok (.goto 4, 3) := by decide +kernel
theorem dX7_isGuest_14 : decode cX7_isGuest 14 = .ok (.iconst 0, 1) := by decide +kernel
theorem dX7_isGuest_15 : decode cX7_isGuest 15 = .ok (.ireturn, 1) := by decide +kernel
theorem dX7_had_0 : decode cX7_had 0 = .ok (.iload_n 1, 1) := by decide +kernel
theorem dX7_had_1 : decode cX7_had 1 = .ok (.invokestatic 38, 3) := by decide +kernel
theorem dX7_had_4 : decode cX7_had 4 = .ok (.ifCond .eq 12, 3) := by decide +kernel
theorem dX7_had_7 : decode cX7_had 7 = .ok (.aload_n 0, 1) := by decide +kernel
theorem dX7_had_8 : decode cX7_had 8 = .ok (.getfield 11, 3) := by decide +kernel
theorem dX7_had_11 : decode cX7_had 11 = .ok (.iload_n 1, 1) := by decide +kernel
theorem dX7_had_12 : decode cX7_had 12 = .ok (.iaload, 1) := by decide +kernel
theorem dX7_had_13 : decode cX7_had 13 = .ok (.goto 4, 3) := by decide +kernel
theorem dX7_had_16 : decode cX7_had 16 = .ok (.iconst 0, 1) := by decide +kernel
theorem dX7_had_17 : decode cX7_had 17 = .ok (.ireturn, 1) := by decide +kernel
theorem dX7_hasRoom_0 : decode cX7_hasRoom 0 = .ok (.aload_n 0, 1) := by decide +kernel
theorem dX7_hasRoom_1 : decode cX7_hasRoom 1 = .ok (.iload_n 1, 1) := by decide +kernel
theorem dX7_hasRoom_2 : decode cX7_hasRoom 2 = .ok (.invokevirtual 42, 3) := by decide +kernel
theorem dX7_hasRoom_5 : decode cX7_hasRoom 5 = .ok (.iload_n 2, 1) := by decide +kernel
theorem dX7_hasRoom_6 : decode cX7_hasRoom 6 = .ok (.iadd, 1) := by decide +kernel
theorem dX7_hasRoom_7 : decode cX7_hasRoom 7 = .ok (.sipush 9999, 3) := by decide +kernel
theorem dX7_hasRoom_10 : decode cX7_hasRoom 10 = .ok (.if_icmp .gt 7, 3) := by decide +kernel
theorem dX7_hasRoom_13 : decode cX7_hasRoom 13 = .ok (.iconst 1, 1) := by decide +kernel
theorem dX7_hasRoom_14 : decode cX7_hasRoom 14 = .ok (.goto 4, 3) := by decide +kernel
theorem dX7_hasRoom_17 : decode cX7_hasRoom 17 = .ok (.iconst 0, 1) := by decide +kernel
theorem dX7_hasRoom_18 : decode cX7_hasRoom 18 = .ok (.ireturn, 1) := by decide +kernel
theorem dX7_handed_0 : decode cX7_handed 0 = .ok (.iload_n 1, 1) := by decide +kernel
theorem dX7_handed_1 : decode cX7_handed 1 = .ok (.invokestatic 38, 3) := by decide +kernel
theorem dX7_handed_4 : decode cX7_handed 4 = .ok (.ifCond .eq 24, 3) := by decide +kernel
theorem dX7_handed_7 : decode cX7_handed 7 = .ok (.iload_n 2, 1) := by decide +kernel
theorem dX7_handed_8 : decode cX7_handed 8 = .ok (.invokestatic 38, 3) := by decide +kernel
theorem dX7_handed_11 : decode cX7_handed 11 = .ok (.ifCond .eq 17, 3) := by decide +kernel
theorem dX7_handed_14 : decode cX7_handed 14 = .ok (.aload_n 0, 1) := by decide +kernel
theorem dX7_handed_15 : decode cX7_handed 15 = .ok (.getfield 23, 3) := by decide +kernel
theorem dX7_handed_18 : decode cX7_handed 18 = .ok (.iload_n 1, 1) := by decide +kernel
theorem dX7_handed_19 : decode cX7_handed 19 = .ok (.bipush 16, 2) := by decide +kernel
theorem dX7_handed_21 : decode cX7_handed 21 = .ok (.imul, 1) := by decide +kernel
theorem dX7_handed_22 : decode cX7_handed 22 = .ok (.iload_n 2, 1) := by decide +kernel
theorem dX7_handed_23 : decode cX7_handed 23 = .ok (.iadd, 1) := by decide +kernel
theorem dX7_handed_24 : decode cX7_handed 24 = .ok (.iaload, 1) := by decide +kernel
theorem dX7_handed_25 : decode cX7_handed 25 = .ok (.goto 4, 3) := by decide +kernel
theorem dX7_handed_28 : decode cX7_handed 28 = .ok (.iconst 0, 1) := by decide +kernel
theorem dX7_handed_29 : decode cX7_handed 29 = .ok (.ireturn, 1) := by decide +kernel
theorem dX7_serve_0 : decode cX7_serve 0 = .ok (.iload_n 1, 1) := by decide +kernel
theorem dX7_serve_1 : decode cX7_serve 1 = .ok (.invokestatic 38, 3) := by decide +kernel
theorem dX7_serve_4 : decode cX7_serve 4 = .ok (.ifCond .eq 23, 3) := by decide +kernel
theorem dX7_serve_7 : decode cX7_serve 7 = .ok (.aload_n 0, 1) := by decide +kernel
theorem dX7_serve_8 : decode cX7_serve 8 = .ok (.getfield 11, 3) := by decide +kernel
theorem dX7_serve_11 : decode cX7_serve 11 = .ok (.iload_n 1, 1) := by decide +kernel
theorem dX7_serve_12 : decode cX7_serve 12 = .ok (.dup2, 1) := by decide +kernel
theorem dX7_serve_13 : decode cX7_serve 13 = .ok (.iaload, 1) := by decide +kernel
theorem dX7_serve_14 : decode cX7_serve 14 = .ok (.iload_n 2, 1) := by decide +kernel
theorem dX7_serve_15 : decode cX7_serve 15 = .ok (.iadd, 1) := by decide +kernel
theorem dX7_serve_16 : decode cX7_serve 16 = .ok (.iastore, 1) := by decide +kernel
theorem dX7_serve_17 : decode cX7_serve 17 = .ok (.aload_n 0, 1) := by decide +kernel
theorem dX7_serve_18 : decode cX7_serve 18 = .ok (.getfield 20, 3) := by decide +kernel
theorem dX7_serve_21 : decode cX7_serve 21 = .ok (.iload_n 1, 1) := by decide +kernel
theorem dX7_serve_22 : decode cX7_serve 22 = .ok (.dup2, 1) := by decide +kernel
theorem dX7_serve_23 : decode cX7_serve 23 = .ok (.iaload, 1) := by decide +kernel
theorem dX7_serve_24 : decode cX7_serve 24 = .ok (.iload_n 2, 1) := by decide +kernel
theorem dX7_serve_25 : decode cX7_serve 25 = .ok (.iadd, 1) := by decide +kernel
theorem dX7_serve_26 : decode cX7_serve 26 = .ok (.iastore, 1) := by decide +kernel
theorem dX7_serve_27 : decode cX7_serve 27 = .ok (.return_, 1) := by decide +kernel
theorem dX7_eat_0 : decode cX7_eat 0 = .ok (.iload_n 1, 1) := by decide +kernel
theorem dX7_eat_1 : decode cX7_eat 1 = .ok (.invokestatic 38, 3) := by decide +kernel
theorem dX7_eat_4 : decode cX7_eat 4 = .ok (.ifCond .eq 23, 3) := by decide +kernel
theorem dX7_eat_7 : decode cX7_eat 7 = .ok (.aload_n 0, 1) := by decide +kernel
theorem dX7_eat_8 : decode cX7_eat 8 = .ok (.getfield 11, 3) := by decide +kernel
theorem dX7_eat_11 : decode cX7_eat 11 = .ok (.iload_n 1, 1) := by decide +kernel
theorem dX7_eat_12 : decode cX7_eat 12 = .ok (.dup2, 1) := by decide +kernel
theorem dX7_eat_13 : decode cX7_eat 13 = .ok (.iaload, 1) := by decide +kernel
theorem dX7_eat_14 : decode cX7_eat 14 = .ok (.iload_n 2, 1) := by decide +kernel
theorem dX7_eat_15 : decode cX7_eat 15 = .ok (.isub, 1) := by decide +kernel
theorem dX7_eat_16 : decode cX7_eat 16 = .ok (.iastore, 1) := by decide +kernel
theorem dX7_eat_17 : decode cX7_eat 17 = .ok (.aload_n 0, 1) := by decide +kernel
theorem dX7_eat_18 : decode cX7_eat 18 = .ok (.getfield 17, 3) := by decide +kernel
theorem dX7_eat_21 : decode cX7_eat 21 = .ok (.iload_n 1, 1) := by decide +kernel
theorem dX7_eat_22 : decode cX7_eat 22 = .ok (.dup2, 1) := by decide +kernel
theorem dX7_eat_23 : decode cX7_eat 23 = .ok (.iaload, 1) := by decide +kernel
theorem dX7_eat_24 : decode cX7_eat 24 = .ok (.iload_n 2, 1) := by decide +kernel
theorem dX7_eat_25 : decode cX7_eat 25 = .ok (.iadd, 1) := by decide +kernel
theorem dX7_eat_26 : decode cX7_eat 26 = .ok (.iastore, 1) := by decide +kernel
theorem dX7_eat_27 : decode cX7_eat 27 = .ok (.return_, 1) := by decide +kernel
theorem dX7_hand_0 : decode cX7_hand 0 = .ok (.iload_n 1, 1) := by decide +kernel
theorem dX7_hand_1 : decode cX7_hand 1 = .ok (.invokestatic 38, 3) := by decide +kernel
theorem dX7_hand_4 : decode cX7_hand 4 = .ok (.ifCond .eq 45, 3) := by decide +kernel
theorem dX7_hand_7 : decode cX7_hand 7 = .ok (.iload_n 2, 1) := by decide +kernel
theorem dX7_hand_8 : decode cX7_hand 8 = .ok (.invokestatic 38, 3) := by decide +kernel
theorem dX7_hand_11 : decode cX7_hand 11 = .ok (.ifCond .eq 38, 3) := by decide +kernel
theorem dX7_hand_14 : decode cX7_hand 14 = .ok (.aload_n 0, 1) := by decide +kernel
theorem dX7_hand_15 : decode cX7_hand 15 = .ok (.getfield 11, 3) := by decide +kernel
theorem dX7_hand_18 : decode cX7_hand 18 = .ok (.iload_n 1, 1) := by decide +kernel
theorem dX7_hand_19 : decode cX7_hand 19 = .ok (.dup2, 1) := by decide +kernel
theorem dX7_hand_20 : decode cX7_hand 20 = .ok (.iaload, 1) := by decide +kernel
theorem dX7_hand_21 : decode cX7_hand 21 = .ok (.iload_n 3, 1) := by decide +kernel
theorem dX7_hand_22 : decode cX7_hand 22 = .ok (.isub, 1) := by decide +kernel
theorem dX7_hand_23 : decode cX7_hand 23 = .ok (.iastore, 1) := by decide +kernel
theorem dX7_hand_24 : decode cX7_hand 24 = .ok (.aload_n 0, 1) := by decide +kernel
theorem dX7_hand_25 : decode cX7_hand 25 = .ok (.getfield 11, 3) := by decide +kernel
theorem dX7_hand_28 : decode cX7_hand 28 = .ok (.iload_n 2, 1) := by decide +kernel
theorem dX7_hand_29 : decode cX7_hand 29 = .ok (.dup2, 1) := by decide +kernel
theorem dX7_hand_30 : decode cX7_hand 30 = .ok (.iaload, 1) := by decide +kernel
theorem dX7_hand_31 : decode cX7_hand 31 = .ok (.iload_n 3, 1) := by decide +kernel
theorem dX7_hand_32 : decode cX7_hand 32 = .ok (.iadd, 1) := by decide +kernel
theorem dX7_hand_33 : decode cX7_hand 33 = .ok (.iastore, 1) := by decide +kernel
theorem dX7_hand_34 : decode cX7_hand 34 = .ok (.aload_n 0, 1) := by decide +kernel
theorem dX7_hand_35 : decode cX7_hand 35 = .ok (.getfield 23, 3) := by decide +kernel
theorem dX7_hand_38 : decode cX7_hand 38 = .ok (.iload_n 1, 1) := by decide +kernel
theorem dX7_hand_39 : decode cX7_hand 39 = .ok (.bipush 16, 2) := by decide +kernel
theorem dX7_hand_41 : decode cX7_hand 41 = .ok (.imul, 1) := by decide +kernel
theorem dX7_hand_42 : decode cX7_hand 42 = .ok (.iload_n 2, 1) := by decide +kernel
theorem dX7_hand_43 : decode cX7_hand 43 = .ok (.iadd, 1) := by decide +kernel
theorem dX7_hand_44 : decode cX7_hand 44 = .ok (.dup2, 1) := by decide +kernel
theorem dX7_hand_45 : decode cX7_hand 45 = .ok (.iaload, 1) := by decide +kernel
theorem dX7_hand_46 : decode cX7_hand 46 = .ok (.iload_n 3, 1) := by decide +kernel
theorem dX7_hand_47 : decode cX7_hand 47 = .ok (.iadd, 1) := by decide +kernel
theorem dX7_hand_48 : decode cX7_hand 48 = .ok (.iastore, 1) := by decide +kernel
theorem dX7_hand_49 : decode cX7_hand 49 = .ok (.return_, 1) := by decide +kernel
theorem dX7_told_0 : decode cX7_told 0 = .ok (.iload_n 1, 1) := by decide +kernel
theorem dX7_told_1 : decode cX7_told 1 = .ok (.invokestatic 38, 3) := by decide +kernel
theorem dX7_told_4 : decode cX7_told 4 = .ok (.ifCond .eq 12, 3) := by decide +kernel
theorem dX7_told_7 : decode cX7_told 7 = .ok (.iload_n 2, 1) := by decide +kernel
theorem dX7_told_8 : decode cX7_told 8 = .ok (.ifCond .lt 8, 3) := by decide +kernel
theorem dX7_told_11 : decode cX7_told 11 = .ok (.iload_n 2, 1) := by decide +kernel
theorem dX7_told_12 : decode cX7_told 12 = .ok (.iconst 4, 1) := by decide +kernel
theorem dX7_told_13 : decode cX7_told 13 = .ok (.if_icmp .le 5, 3) := by decide +kernel
theorem dX7_told_16 : decode cX7_told 16 = .ok (.iconst (-1), 1) := by decide +kernel
theorem dX7_told_17 : decode cX7_told 17 = .ok (.ireturn, 1) := by decide +kernel
theorem dX7_told_18 : decode cX7_told 18 = .ok (.iload_n 2, 1) := by decide +kernel
theorem dX7_told_19 : decode cX7_told 19 = .ok (.ifCond .ne 10, 3) := by decide +kernel
theorem dX7_told_22 : decode cX7_told 22 = .ok (.aload_n 0, 1) := by decide +kernel
theorem dX7_told_23 : decode cX7_told 23 = .ok (.getfield 11, 3) := by decide +kernel
theorem dX7_told_26 : decode cX7_told 26 = .ok (.iload_n 1, 1) := by decide +kernel
theorem dX7_told_27 : decode cX7_told 27 = .ok (.iaload, 1) := by decide +kernel
theorem dX7_told_28 : decode cX7_told 28 = .ok (.ireturn, 1) := by decide +kernel
theorem dX7_told_29 : decode cX7_told 29 = .ok (.iload_n 2, 1) := by decide +kernel
theorem dX7_told_30 : decode cX7_told 30 = .ok (.iconst 2, 1) := by decide +kernel
theorem dX7_told_31 : decode cX7_told 31 = .ok (.if_icmp .gt 24, 3) := by decide +kernel
theorem dX7_told_34 : decode cX7_told 34 = .ok (.iload_n 2, 1) := by decide +kernel
theorem dX7_told_35 : decode cX7_told 35 = .ok (.iconst 1, 1) := by decide +kernel
theorem dX7_told_36 : decode cX7_told 36 = .ok (.if_icmp .ne 12, 3) := by decide +kernel
theorem dX7_told_39 : decode cX7_told 39 = .ok (.aload_n 0, 1) := by decide +kernel
theorem dX7_told_40 : decode cX7_told 40 = .ok (.getfield 17, 3) := by decide +kernel
theorem dX7_told_43 : decode cX7_told 43 = .ok (.iload_n 1, 1) := by decide +kernel
theorem dX7_told_44 : decode cX7_told 44 = .ok (.iaload, 1) := by decide +kernel
theorem dX7_told_45 : decode cX7_told 45 = .ok (.goto 9, 3) := by decide +kernel
theorem dX7_told_48 : decode cX7_told 48 = .ok (.aload_n 0, 1) := by decide +kernel
theorem dX7_told_49 : decode cX7_told 49 = .ok (.getfield 20, 3) := by decide +kernel
theorem dX7_told_52 : decode cX7_told 52 = .ok (.iload_n 1, 1) := by decide +kernel
theorem dX7_told_53 : decode cX7_told 53 = .ok (.iaload, 1) := by decide +kernel
theorem dX7_told_54 : decode cX7_told 54 = .ok (.ireturn, 1) := by decide +kernel
theorem dX7_told_55 : decode cX7_told 55 = .ok (.iconst 0, 1) := by decide +kernel
theorem dX7_told_56 : decode cX7_told 56 = .ok (.istore_n 3, 1) := by decide +kernel
theorem dX7_told_57 : decode cX7_told 57 = .ok (.iconst 0, 1) := by decide +kernel
theorem dX7_told_58 : decode cX7_told 58 = .ok (.istore 4, 2) := by decide +kernel
theorem dX7_told_60 : decode cX7_told 60 = .ok (.iload 4, 2) := by decide +kernel
theorem dX7_told_62 : decode cX7_told 62 = .ok (.bipush 16, 2) := by decide +kernel
theorem dX7_told_64 : decode cX7_told 64 = .ok (.if_icmp .ge 34, 3) := by decide +kernel
theorem dX7_told_67 : decode cX7_told 67 = .ok (.iload_n 3, 1) := by decide +kernel
theorem dX7_told_68 : decode cX7_told 68 = .ok (.iload_n 2, 1) := by decide +kernel
theorem dX7_told_69 : decode cX7_told 69 = .ok (.iconst 3, 1) := by decide +kernel
theorem dX7_told_70 : decode cX7_told 70 = .ok (.if_icmp .ne 13, 3) := by decide +kernel
theorem dX7_told_73 : decode cX7_told 73 = .ok (.aload_n 0, 1) := by decide +kernel
theorem dX7_told_74 : decode cX7_told 74 = .ok (.iload 4, 2) := by decide +kernel
theorem dX7_told_76 : decode cX7_told 76 = .ok (.iload_n 1, 1) := by decide +kernel
theorem dX7_told_77 : decode cX7_told 77 = .ok (.invokevirtual 46, 3) := by decide +kernel
theorem dX7_told_80 : decode cX7_told 80 = .ok (.goto 10, 3) := by decide +kernel
theorem dX7_told_83 : decode cX7_told 83 = .ok (.aload_n 0, 1) := by decide +kernel
theorem dX7_told_84 : decode cX7_told 84 = .ok (.iload_n 1, 1) := by decide +kernel
theorem dX7_told_85 : decode cX7_told 85 = .ok (.iload 4, 2) := by decide +kernel
theorem dX7_told_87 : decode cX7_told 87 = .ok (.invokevirtual 46, 3) := by decide +kernel
theorem dX7_told_90 : decode cX7_told 90 = .ok (.iadd, 1) := by decide +kernel
theorem dX7_told_91 : decode cX7_told 91 = .ok (.istore_n 3, 1) := by decide +kernel
theorem dX7_told_92 : decode cX7_told 92 = .ok (.iinc 4 1, 3) := by decide +kernel
theorem dX7_told_95 : decode cX7_told 95 = .ok (.goto (-35), 3) := by decide +kernel
theorem dX7_told_98 : decode cX7_told 98 = .ok (.iload_n 3, 1) := by decide +kernel
theorem dX7_told_99 : decode cX7_told 99 = .ok (.ireturn, 1) := by decide +kernel
theorem dX7_store_0 : decode cX7_store 0 = .ok (.aload_n 0, 1) := by decide +kernel
theorem dX7_store_1 : decode cX7_store 1 = .ok (.getfield 11, 3) := by decide +kernel
theorem dX7_store_4 : decode cX7_store 4 = .ok (.iconst 0, 1) := by decide +kernel
theorem dX7_store_5 : decode cX7_store 5 = .ok (.aload_n 0, 1) := by decide +kernel
theorem dX7_store_6 : decode cX7_store 6 = .ok (.getfield 26, 3) := by decide +kernel
theorem dX7_store_9 : decode cX7_store 9 = .ok (.iconst 0, 1) := by decide +kernel
theorem dX7_store_10 : decode cX7_store 10 = .ok (.bipush 16, 2) := by decide +kernel
theorem dX7_store_12 : decode cX7_store 12 = .ok (.invokestatic 49, 3) := by decide +kernel
theorem dX7_store_15 : decode cX7_store 15 = .ok (.aload_n 0, 1) := by decide +kernel
theorem dX7_store_16 : decode cX7_store 16 = .ok (.getfield 17, 3) := by decide +kernel
theorem dX7_store_19 : decode cX7_store 19 = .ok (.iconst 0, 1) := by decide +kernel
theorem dX7_store_20 : decode cX7_store 20 = .ok (.aload_n 0, 1) := by decide +kernel
theorem dX7_store_21 : decode cX7_store 21 = .ok (.getfield 29, 3) := by decide +kernel
theorem dX7_store_24 : decode cX7_store 24 = .ok (.iconst 0, 1) := by decide +kernel
theorem dX7_store_25 : decode cX7_store 25 = .ok (.bipush 16, 2) := by decide +kernel
theorem dX7_store_27 : decode cX7_store 27 = .ok (.invokestatic 49, 3) := by decide +kernel
theorem dX7_store_30 : decode cX7_store 30 = .ok (.aload_n 0, 1) := by decide +kernel
theorem dX7_store_31 : decode cX7_store 31 = .ok (.getfield 20, 3) := by decide +kernel
theorem dX7_store_34 : decode cX7_store 34 = .ok (.iconst 0, 1) := by decide +kernel
theorem dX7_store_35 : decode cX7_store 35 = .ok (.aload_n 0, 1) := by decide +kernel
theorem dX7_store_36 : decode cX7_store 36 = .ok (.getfield 32, 3) := by decide +kernel
theorem dX7_store_39 : decode cX7_store 39 = .ok (.iconst 0, 1) := by decide +kernel
theorem dX7_store_40 : decode cX7_store 40 = .ok (.bipush 16, 2) := by decide +kernel
theorem dX7_store_42 : decode cX7_store 42 = .ok (.invokestatic 49, 3) := by decide +kernel
theorem dX7_store_45 : decode cX7_store 45 = .ok (.aload_n 0, 1) := by decide +kernel
theorem dX7_store_46 : decode cX7_store 46 = .ok (.getfield 23, 3) := by decide +kernel
theorem dX7_store_49 : decode cX7_store 49 = .ok (.iconst 0, 1) := by decide +kernel
theorem dX7_store_50 : decode cX7_store 50 = .ok (.aload_n 0, 1) := by decide +kernel
theorem dX7_store_51 : decode cX7_store 51 = .ok (.getfield 35, 3) := by decide +kernel
theorem dX7_store_54 : decode cX7_store 54 = .ok (.iconst 0, 1) := by decide +kernel
theorem dX7_store_55 : decode cX7_store 55 = .ok (.sipush 256, 3) := by decide +kernel
theorem dX7_store_58 : decode cX7_store 58 = .ok (.invokestatic 49, 3) := by decide +kernel
theorem dX7_store_61 : decode cX7_store 61 = .ok (.return_, 1) := by decide +kernel
theorem dX7_restore_0 : decode cX7_restore 0 = .ok (.aload_n 0, 1) := by decide +kernel
theorem dX7_restore_1 : decode cX7_restore 1 = .ok (.getfield 26, 3) := by decide +kernel
theorem dX7_restore_4 : decode cX7_restore 4 = .ok (.iconst 0, 1) := by decide +kernel
theorem dX7_restore_5 : decode cX7_restore 5 = .ok (.aload_n 0, 1) := by decide +kernel
theorem dX7_restore_6 : decode cX7_restore 6 = .ok (.getfield 11, 3) := by decide +kernel
theorem dX7_restore_9 : decode cX7_restore 9 = .ok (.iconst 0, 1) := by decide +kernel
theorem dX7_restore_10 : decode cX7_restore 10 = .ok (.bipush 16, 2) := by decide +kernel
theorem dX7_restore_12 : decode cX7_restore 12 = .ok (.invokestatic 49, 3) := by decide +kernel
theorem dX7_restore_15 : decode cX7_restore 15 = .ok (.aload_n 0, 1) := by decide +kernel
theorem dX7_restore_16 : decode cX7_restore 16 = .ok (.getfield 29, 3) := by decide +kernel
theorem dX7_restore_19 : decode cX7_restore 19 = .ok (.iconst 0, 1) := by decide +kernel
theorem dX7_restore_20 : decode cX7_restore 20 = .ok (.aload_n 0, 1) := by decide +kernel
theorem dX7_restore_21 : decode cX7_restore 21 = .ok (.getfield 17, 3) := by decide +kernel
theorem dX7_restore_24 : decode cX7_restore 24 = .ok (.iconst 0, 1) := by decide +kernel
theorem dX7_restore_25 : decode cX7_restore 25 = .ok (.bipush 16, 2) := by decide +kernel
theorem dX7_restore_27 : decode cX7_restore 27 = .ok (.invokestatic 49, 3) := by decide +kernel
theorem dX7_restore_30 : decode cX7_restore 30 = .ok (.aload_n 0, 1) := by decide +kernel
theorem dX7_restore_31 : decode cX7_restore 31 = .ok (.getfield 32, 3) := by decide +kernel
theorem dX7_restore_34 : decode cX7_restore 34 = .ok (.iconst 0, 1) := by decide +kernel
theorem dX7_restore_35 : decode cX7_restore 35 = .ok (.aload_n 0, 1) := by decide +kernel
theorem dX7_restore_36 : decode cX7_restore 36 = .ok (.getfield 20, 3) := by decide +kernel
theorem dX7_restore_39 : decode cX7_restore 39 = .ok (.iconst 0, 1) := by decide +kernel
theorem dX7_restore_40 : decode cX7_restore 40 = .ok (.bipush 16, 2) := by decide +kernel
theorem dX7_restore_42 : decode cX7_restore 42 = .ok (.invokestatic 49, 3) := by decide +kernel
theorem dX7_restore_45 : decode cX7_restore 45 = .ok (.aload_n 0, 1) := by decide +kernel
theorem dX7_restore_46 : decode cX7_restore 46 = .ok (.getfield 35, 3) := by decide +kernel
theorem dX7_restore_49 : decode cX7_restore 49 = .ok (.iconst 0, 1) := by decide +kernel
theorem dX7_restore_50 : decode cX7_restore 50 = .ok (.aload_n 0, 1) := by decide +kernel
theorem dX7_restore_51 : decode cX7_restore 51 = .ok (.getfield 23, 3) := by decide +kernel
theorem dX7_restore_54 : decode cX7_restore 54 = .ok (.iconst 0, 1) := by decide +kernel
theorem dX7_restore_55 : decode cX7_restore 55 = .ok (.sipush 256, 3) := by decide +kernel
theorem dX7_restore_58 : decode cX7_restore 58 = .ok (.invokestatic 49, 3) := by decide +kernel
theorem dX7_restore_61 : decode cX7_restore 61 = .ok (.return_, 1) := by decide +kernel
theorem dX8_isSeat_0 : decode cX8_isSeat 0 = .ok (.iload_n 0, 1) := by decide +kernel
theorem dX8_isSeat_1 : decode cX8_isSeat 1 = .ok (.ifCond .lt 13, 3) := by decide +kernel
theorem dX8_isSeat_4 : decode cX8_isSeat 4 = .ok (.iload_n 0, 1) := by decide +kernel
theorem dX8_isSeat_5 : decode cX8_isSeat 5 = .ok (.bipush 40, 2) := by decide +kernel
theorem dX8_isSeat_7 : decode cX8_isSeat 7 = .ok (.if_icmp .ge 7, 3) := by decide +kernel
theorem dX8_isSeat_10 : decode cX8_isSeat 10 = .ok (.iconst 1, 1) := by decide +kernel
theorem dX8_isSeat_11 : decode cX8_isSeat 11 = .ok (.goto 4, 3) := by decide +kernel
theorem dX8_isSeat_14 : decode cX8_isSeat 14 = .ok (.iconst 0, 1) := by decide +kernel
theorem dX8_isSeat_15 : decode cX8_isSeat 15 = .ok (.ireturn, 1) := by decide +kernel
theorem dX8_isPlace_0 : decode cX8_isPlace 0 = .ok (.iload_n 0, 1) := by decide +kernel
theorem dX8_isPlace_1 : decode cX8_isPlace 1 = .ok (.ifCond .lt 13, 3) := by decide +kernel
theorem dX8_isPlace_4 : decode cX8_isPlace 4 = .ok (.iload_n 0, 1) := by decide +kernel
theorem dX8_isPlace_5 : decode cX8_isPlace 5 = .ok (.bipush 20, 2) := by decide +kernel
theorem dX8_isPlace_7 : decode cX8_isPlace 7 = .ok (.if_icmp .ge 7, 3) := by decide +kernel
theorem dX8_isPlace_10 : decode cX8_isPlace 10 = .ok (.iconst 1, 1) := by decide +kernel
theorem dX8_isPlace_11 : decode cX8_isPlace 11 = .ok (.goto 4, 3) := by decide +kernel
theorem dX8_isPlace_14 : decode cX8_isPlace 14 = .ok (.iconst 0, 1) := by decide +kernel
theorem dX8_isPlace_15 : decode cX8_isPlace 15 = .ok (.ireturn, 1) := by decide +kernel
theorem dX8_isRow_0 : decode cX8_isRow 0 = .ok (.iload_n 0, 1) := by decide +kernel
theorem dX8_isRow_1 : decode cX8_isRow 1 = .ok (.invokestatic 11, 3) := by decide +kernel
theorem dX8_isRow_4 : decode cX8_isRow 4 = .ok (.ifCond .eq 19, 3) := by decide +kernel
theorem dX8_isRow_7 : decode cX8_isRow 7 = .ok (.iload_n 1, 1) := by decide +kernel
theorem dX8_isRow_8 : decode cX8_isRow 8 = .ok (.invokestatic 11, 3) := by decide +kernel
theorem dX8_isRow_11 : decode cX8_isRow 11 = .ok (.ifCond .eq 12, 3) := by decide +kernel
theorem dX8_isRow_14 : decode cX8_isRow 14 = .ok (.iload_n 0, 1) := by decide +kernel
theorem dX8_isRow_15 : decode cX8_isRow 15 = .ok (.iload_n 1, 1) := by decide +kernel
theorem dX8_isRow_16 : decode cX8_isRow 16 = .ok (.if_icmp .gt 7, 3) := by decide +kernel
theorem dX8_isRow_19 : decode cX8_isRow 19 = .ok (.iconst 1, 1) := by decide +kernel
theorem dX8_isRow_20 : decode cX8_isRow 20 = .ok (.goto 4, 3) := by decide +kernel
theorem dX8_isRow_23 : decode cX8_isRow 23 = .ok (.iconst 0, 1) := by decide +kernel
theorem dX8_isRow_24 : decode cX8_isRow 24 = .ok (.ireturn, 1) := by decide +kernel
theorem dX8_apart_0 : decode cX8_apart 0 = .ok (.iload_n 0, 1) := by decide +kernel
theorem dX8_apart_1 : decode cX8_apart 1 = .ok (.iconst 1, 1) := by decide +kernel
theorem dX8_apart_2 : decode cX8_apart 2 = .ok (.ishr, 1) := by decide +kernel
theorem dX8_apart_3 : decode cX8_apart 3 = .ok (.iload_n 1, 1) := by decide +kernel
theorem dX8_apart_4 : decode cX8_apart 4 = .ok (.iconst 1, 1) := by decide +kernel
theorem dX8_apart_5 : decode cX8_apart 5 = .ok (.ishr, 1) := by decide +kernel
theorem dX8_apart_6 : decode cX8_apart 6 = .ok (.isub, 1) := by decide +kernel
theorem dX8_apart_7 : decode cX8_apart 7 = .ok (.invokestatic 15, 3) := by decide +kernel
theorem dX8_apart_10 : decode cX8_apart 10 = .ok (.ireturn, 1) := by decide +kernel
theorem dX8_areNext_0 : decode cX8_areNext 0 = .ok (.iload_n 0, 1) := by decide +kernel
theorem dX8_areNext_1 : decode cX8_areNext 1 = .ok (.iload_n 1, 1) := by decide +kernel
theorem dX8_areNext_2 : decode cX8_areNext 2 = .ok (.invokestatic 21, 3) := by decide +kernel
theorem dX8_areNext_5 : decode cX8_areNext 5 = .ok (.iload_n 0, 1) := by decide +kernel
theorem dX8_areNext_6 : decode cX8_areNext 6 = .ok (.iload_n 1, 1) := by decide +kernel
theorem dX8_areNext_7 : decode cX8_areNext 7 = .ok (.ixor, 1) := by decide +kernel
theorem dX8_areNext_8 : decode cX8_areNext 8 = .ok (.iconst 1, 1) := by decide +kernel
theorem dX8_areNext_9 : decode cX8_areNext 9 = .ok (.iand, 1) := by decide +kernel
theorem dX8_areNext_10 : decode cX8_areNext 10 = .ok (.iadd, 1) := by decide +kernel
theorem dX8_areNext_11 : decode cX8_areNext 11 = .ok (.iconst 1, 1) := by decide +kernel
theorem dX8_areNext_12 : decode cX8_areNext 12 = .ok (.if_icmp .ne 7, 3) := by decide +kernel
theorem dX8_areNext_15 : decode cX8_areNext 15 = .ok (.iconst 1, 1) := by decide +kernel
theorem dX8_areNext_16 : decode cX8_areNext 16 = .ok (.goto 4, 3) := by decide +kernel
theorem dX8_areNext_19 : decode cX8_areNext 19 = .ok (.iconst 0, 1) := by decide +kernel
theorem dX8_areNext_20 : decode cX8_areNext 20 = .ok (.ireturn, 1) := by decide +kernel
theorem dX8_beside_0 : decode cX8_beside 0 = .ok (.iload_n 0, 1) := by decide +kernel
theorem dX8_beside_1 : decode cX8_beside 1 = .ok (.invokestatic 25, 3) := by decide +kernel
theorem dX8_beside_4 : decode cX8_beside 4 = .ok (.ifCond .ne 5, 3) := by decide +kernel
theorem dX8_beside_7 : decode cX8_beside 7 = .ok (.iconst (-1), 1) := by decide +kernel
theorem dX8_beside_8 : decode cX8_beside 8 = .ok (.ireturn, 1) := by decide +kernel
theorem dX8_beside_9 : decode cX8_beside 9 = .ok (.iload_n 1, 1) := by decide +kernel
theorem dX8_beside_10 : decode cX8_beside 10 = .ok (.ifCond .ne 9, 3) := by decide +kernel
theorem dX8_beside_13 : decode cX8_beside 13 = .ok (.iload_n 0, 1) := by decide +kernel
theorem dX8_beside_14 : decode cX8_beside 14 = .ok (.iconst 2, 1) := by decide +kernel
theorem dX8_beside_15 : decode cX8_beside 15 = .ok (.isub, 1) := by decide +kernel
theorem dX8_beside_16 : decode cX8_beside 16 = .ok (.goto 17, 3) := by decide +kernel
theorem dX8_beside_19 : decode cX8_beside 19 = .ok (.iload_n 1, 1) := by decide +kernel
theorem dX8_beside_20 : decode cX8_beside 20 = .ok (.iconst 1, 1) := by decide +kernel
theorem dX8_beside_21 : decode cX8_beside 21 = .ok (.if_icmp .ne 9, 3) := by decide +kernel
theorem dX8_beside_24 : decode cX8_beside 24 = .ok (.iload_n 0, 1) := by decide +kernel
theorem dX8_beside_25 : decode cX8_beside 25 = .ok (.iconst 2, 1) := by decide +kernel
theorem dX8_beside_26 : decode cX8_beside 26 = .ok (.iadd, 1) := by decide +kernel
theorem dX8_beside_27 : decode cX8_beside 27 = .ok (.goto 6, 3) := by decide +kernel
theorem dX8_beside_30 : decode cX8_beside 30 = .ok (.iload_n 0, 1) := by decide +kernel
theorem dX8_beside_31 : decode cX8_beside 31 = .ok (.iconst 1, 1) := by decide +kernel
theorem dX8_beside_32 : decode cX8_beside 32 = .ok (.ixor, 1) := by decide +kernel
theorem dX8_beside_33 : decode cX8_beside 33 = .ok (.istore_n 2, 1) := by decide +kernel
theorem dX8_beside_34 : decode cX8_beside 34 = .ok (.iload_n 2, 1) := by decide +kernel
theorem dX8_beside_35 : decode cX8_beside 35 = .ok (.invokestatic 25, 3) := by decide +kernel
theorem dX8_beside_38 : decode cX8_beside 38 = .ok (.ifCond .eq 7, 3) := by decide +kernel
theorem dX8_beside_41 : decode cX8_beside 41 = .ok (.iload_n 2, 1) := by decide +kernel
theorem dX8_beside_42 : decode cX8_beside 42 = .ok (.goto 4, 3) := by decide +kernel
theorem dX8_beside_45 : decode cX8_beside 45 = .ok (.iconst (-1), 1) := by decide +kernel
theorem dX8_beside_46 : decode cX8_beside 46 = .ok (.ireturn, 1) := by decide +kernel
theorem dX9_init_0 : decode cX9_init 0 = .ok (.aload_n 0, 1) := by decide +kernel
theorem dX9_init_1 : decode cX9_init 1 = .ok (.invokespecial 3, 3) := by decide +kernel
theorem dX9_init_4 : decode cX9_init 4 = .ok (.aload_n 0, 1) := by decide +kernel
theorem dX9_init_5 : decode cX9_init 5 = .ok (.bipush 7, 2) := by decide +kernel
theorem dX9_init_7 : decode cX9_init 7 = .ok (.newarray .int, 2) := by decide +kernel
theorem dX9_init_9 : decode cX9_init 9 = .ok (.putfield 11, 3) := by decide +kernel
theorem dX9_init_12 : decode cX9_init 12 = .ok (.aload_n 0, 1) := by decide +kernel
theorem dX9_init_13 : decode cX9_init 13 = .ok (.bipush 7, 2) := by decide +kernel
theorem dX9_init_15 : decode cX9_init 15 = .ok (.newarray .int, 2) := by decide +kernel
theorem dX9_init_17 : decode cX9_init 17 = .ok (.putfield 15, 3) := by decide +kernel
theorem dX9_init_20 : decode cX9_init 20 = .ok (.aload_n 0, 1) := by decide +kernel
theorem dX9_init_21 : decode cX9_init 21 = .ok (.aload_n 1, 1) := by decide +kernel
theorem dX9_init_22 : decode cX9_init 22 = .ok (.putfield 18, 3) := by decide +kernel
theorem dX9_init_25 : decode cX9_init 25 = .ok (.aload_n 0, 1) := by decide +kernel
theorem dX9_init_26 : decode cX9_init 26 = .ok (.aload_n 2, 1) := by decide +kernel
theorem dX9_init_27 : decode cX9_init 27 = .ok (.putfield 22, 3) := by decide +kernel
theorem dX9_init_30 : decode cX9_init 30 = .ok (.return_, 1) := by decide +kernel
theorem dX9_find_0 : decode cX9_find 0 = .ok (.aload_n 0, 1) := by decide +kernel
theorem dX9_find_1 : decode cX9_find 1 = .ok (.iload_n 2, 1) := by decide +kernel
theorem dX9_find_2 : decode cX9_find 2 = .ok (.putfield 26, 3) := by decide +kernel
theorem dX9_find_5 : decode cX9_find 5 = .ok (.aload_n 0, 1) := by decide +kernel
theorem dX9_find_6 : decode cX9_find 6 = .ok (.iconst (-1), 1) := by decide +kernel
theorem dX9_find_7 : decode cX9_find 7 = .ok (.putfield 30, 3) := by decide +kernel
theorem dX9_find_10 : decode cX9_find 10 = .ok (.aload_n 0, 1) := by decide +kernel
theorem dX9_find_11 : decode cX9_find 11 = .ok (.ldc2_w 33, 3) := by decide +kernel
theorem dX9_find_14 : decode cX9_find 14 = .ok (.putfield 35, 3) := by decide +kernel
theorem dX9_find_17 : decode cX9_find 17 = .ok (.aload_n 0, 1) := by decide +kernel
theorem dX9_find_18 : decode cX9_find 18 = .ok (.getfield 11, 3) := by decide +kernel
theorem dX9_find_21 : decode cX9_find 21 = .ok (.iconst 0, 1) := by decide +kernel
theorem dX9_find_22 : decode cX9_find 22 = .ok (.iload_n 1, 1) := by decide +kernel
theorem dX9_find_23 : decode cX9_find 23 = .ok (.iastore, 1) := by decide +kernel
theorem dX9_find_24 : decode cX9_find 24 = .ok (.aload_n 0, 1) := by decide +kernel
theorem dX9_find_25 : decode cX9_find 25 = .ok (.iconst 0, 1) := by decide +kernel
theorem dX9_find_26 : decode cX9_find 26 = .ok (.ldc2_w 39, 3) := by decide +kernel
theorem dX9_find_29 : decode cX9_find 29 = .ok (.iconst 1, 1) := by decide +kernel
theorem dX9_find_30 : decode cX9_find 30 = .ok (.iload_n 1, 1) := by decide +kernel
theorem dX9_find_31 : decode cX9_find 31 = .ok (.ishl, 1) := by decide +kernel
theorem dX9_find_32 : decode cX9_find 32 = .ok (.invokevirtual 41, 3) := by decide +kernel
theorem dX9_find_35 : decode cX9_find 35 = .ok (.aload_n 0, 1) := by decide +kernel
theorem dX9_find_36 : decode cX9_find 36 = .ok (.getfield 30, 3) := by decide +kernel
theorem dX9_find_39 : decode cX9_find 39 = .ok (.iconst (-1), 1) := by decide +kernel
theorem dX9_find_40 : decode cX9_find 40 = .ok (.if_icmp .eq 7, 3) := by decide +kernel
theorem dX9_find_43 : decode cX9_find 43 = .ok (.iconst 1, 1) := by decide +kernel
theorem dX9_find_44 : decode cX9_find 44 = .ok (.goto 4, 3) := by decide +kernel
theorem dX9_find_47 : decode cX9_find 47 = .ok (.iconst 0, 1) := by decide +kernel
theorem dX9_find_48 : decode cX9_find 48 = .ok (.ireturn, 1) := by decide +kernel
theorem dX9_goOn_0 : decode cX9_goOn 0 = .ok (.iload_n 1, 1) := by decide +kernel
theorem dX9_goOn_1 : decode cX9_goOn 1 = .ok (.ifCond .lt 9, 3) := by decide +kernel
theorem dX9_goOn_4 : decode cX9_goOn 4 = .ok (.iload_n 1, 1) := by decide +kernel
theorem dX9_goOn_5 : decode cX9_goOn 5 = .ok (.bipush 6, 2) := by decide +kernel
theorem dX9_goOn_7 : decode cX9_goOn 7 = .ok (.if_icmp .le 4, 3) := by decide +kernel
theorem dX9_goOn_10 : decode cX9_goOn 10 = .ok (.return_, 1) := by decide +kernel
theorem dX9_goOn_11 : decode cX9_goOn 11 = .ok (.aload_n 0, 1) := by decide +kernel
theorem dX9_goOn_12 : decode cX9_goOn 12 = .ok (.getfield 11, 3) := by decide +kernel
theorem dX9_goOn_15 : decode cX9_goOn 15 = .ok (.iload_n 1, 1) := by decide +kernel
theorem dX9_goOn_16 : decode cX9_goOn 16 = .ok (.iaload, 1) := by decide +kernel
theorem dX9_goOn_17 : decode cX9_goOn 17 = .ok (.aload_n 0, 1) := by decide +kernel
theorem dX9_goOn_18 : decode cX9_goOn 18 = .ok (.getfield 26, 3) := by decide +kernel
theorem dX9_goOn_21 : decode cX9_goOn 21 = .ok (.if_icmp .ne 12, 3) := by decide +kernel
theorem dX9_goOn_24 : decode cX9_goOn 24 = .ok (.aload_n 0, 1) := by decide +kernel
theorem dX9_goOn_25 : decode cX9_goOn 25 = .ok (.iload_n 1, 1) := by decide +kernel
theorem dX9_goOn_26 : decode cX9_goOn 26 = .ok (.lload_n 2, 1) := by decide +kernel
theorem dX9_goOn_27 : decode cX9_goOn 27 = .ok (.invokevirtual 45, 3) := by decide +kernel
theorem dX9_goOn_30 : decode cX9_goOn 30 = .ok (.goto 17, 3) := by decide +kernel
theorem dX9_goOn_33 : decode cX9_goOn 33 = .ok (.iload_n 1, 1) := by decide +kernel
theorem dX9_goOn_34 : decode cX9_goOn 34 = .ok (.bipush 6, 2) := by decide +kernel
theorem dX9_goOn_36 : decode cX9_goOn 36 = .ok (.if_icmp .ge 11, 3) := by decide +kernel
theorem dX9_goOn_39 : decode cX9_goOn 39 = .ok (.aload_n 0, 1) := by decide +kernel
theorem dX9_goOn_40 : decode cX9_goOn 40 = .ok (.iload_n 1, 1) := by decide +kernel
theorem dX9_goOn_41 : decode cX9_goOn 41 = .ok (.lload_n 2, 1) := by decide +kernel
theorem dX9_goOn_42 : decode cX9_goOn 42 = .ok (.iload 4, 2) := by decide +kernel
theorem dX9_goOn_44 : decode cX9_goOn 44 = .ok (.invokevirtual 49, 3) := by decide +kernel
theorem dX9_goOn_47 : decode cX9_goOn 47 = .ok (.return_, 1) := by decide +kernel
theorem dX9_tryNext_0 : decode cX9_tryNext 0 = .ok (.iload_n 1, 1) := by decide +kernel
theorem dX9_tryNext_1 : decode cX9_tryNext 1 = .ok (.ifCond .lt 9, 3) := by decide +kernel
theorem dX9_tryNext_4 : decode cX9_tryNext 4 = .ok (.iload_n 1, 1) := by decide +kernel
theorem dX9_tryNext_5 : decode cX9_tryNext 5 = .ok (.bipush 6, 2) := by decide +kernel
theorem dX9_tryNext_7 : decode cX9_tryNext 7 = .ok (.if_icmp .lt 4, 3) := by decide +kernel
theorem dX9_tryNext_10 : decode cX9_tryNext 10 = .ok (.return_, 1) := by decide +kernel
theorem dX9_tryNext_11 : decode cX9_tryNext 11 = .ok (.aload_n 0, 1) := by decide +kernel
theorem dX9_tryNext_12 : decode cX9_tryNext 12 = .ok (.getfield 11, 3) := by decide +kernel
theorem dX9_tryNext_15 : decode cX9_tryNext 15 = .ok (.iload_n 1, 1) := by decide +kernel
theorem dX9_tryNext_16 : decode cX9_tryNext 16 = .ok (.iaload, 1) := by decide +kernel
theorem dX9_tryNext_17 : decode cX9_tryNext 17 = .ok (.istore 5, 2) := by decide +kernel
theorem dX9_tryNext_19 : decode cX9_tryNext 19 = .ok (.iconst 0, 1) := by decide +kernel
theorem dX9_tryNext_20 : decode cX9_tryNext 20 = .ok (.istore 6, 2) := by decide +kernel
theorem dX9_tryNext_22 : decode cX9_tryNext 22 = .ok (.iload 6, 2) := by decide +kernel
theorem dX9_tryNext_24 : decode cX9_tryNext 24 = .ok (.aload_n 0, 1) := by decide +kernel
theorem dX9_tryNext_25 : decode cX9_tryNext 25 = .ok (.getfield 18, 3) := by decide +kernel
theorem dX9_tryNext_28 : decode cX9_tryNext 28 = .ok (.invokevirtual 52, 3) := by decide +kernel
theorem dX9_tryNext_31 : decode cX9_tryNext 31 = .ok (.if_icmp .ge 101, 3) := by decide +kernel
theorem dX9_tryNext_34 : decode cX9_tryNext 34 = .ok (.iload 4, 2) := by decide +kernel
theorem dX9_tryNext_36 : decode cX9_tryNext 36 = .ok (.iload 6, 2) := by decide +kernel
theorem dX9_tryNext_38 : decode cX9_tryNext 38 = .ok (.ishr, 1) := by decide +kernel
theorem dX9_tryNext_39 : decode cX9_tryNext 39 = .ok (.iconst 1, 1) := by decide +kernel
theorem dX9_tryNext_40 : decode cX9_tryNext 40 = .ok (.iand, 1) := by decide +kernel
theorem dX9_tryNext_41 : decode cX9_tryNext 41 = .ok (.ifCond .ne 85, 3) := by decide +kernel
theorem dX9_tryNext_44 : decode cX9_tryNext 44 = .ok (.aload_n 0, 1) := by decide +kernel
theorem dX9_tryNext_45 : decode cX9_tryNext 45 = .ok (.getfield 18, 3) := by decide +kernel
theorem dX9_tryNext_48 : decode cX9_tryNext 48 = .ok (.iload 6, 2) := by decide +kernel
theorem dX9_tryNext_50 : decode cX9_tryNext 50 = .ok (.invokevirtual 58, 3) := by decide +kernel
theorem dX9_tryNext_53 : decode cX9_tryNext 53 = .ok (.ifCond .eq 73, 3) := by decide +kernel
theorem dX9_tryNext_56 : decode cX9_tryNext 56 = .ok (.aload_n 0, 1) := by decide +kernel
theorem dX9_tryNext_57 : decode cX9_tryNext 57 = .ok (.getfield 18, 3) := by decide +kernel
theorem dX9_tryNext_60 : decode cX9_tryNext 60 = .ok (.iload 5, 2) := by decide +kernel
theorem dX9_tryNext_62 : decode cX9_tryNext 62 = .ok (.invokevirtual 62, 3) := by decide +kernel
theorem dX9_tryNext_65 : decode cX9_tryNext 65 = .ok (.aload_n 0, 1) := by decide +kernel
theorem dX9_tryNext_66 : decode cX9_tryNext 66 = .ok (.getfield 18, 3) := by decide +kernel
theorem dX9_tryNext_69 : decode cX9_tryNext 69 = .ok (.iload 6, 2) := by decide +kernel
theorem dX9_tryNext_71 : decode cX9_tryNext 71 = .ok (.invokevirtual 62, 3) := by decide +kernel
theorem dX9_tryNext_74 : decode cX9_tryNext 74 = .ok (.invokestatic 66, 3) := by decide +kernel
theorem dX9_tryNext_77 : decode cX9_tryNext 77 = .ok (.ifCond .eq 49, 3) := by decide +kernel
theorem dX9_tryNext_80 : decode cX9_tryNext 80 = .ok (.aload_n 0, 1) := by decide +kernel
theorem dX9_tryNext_81 : decode cX9_tryNext 81 = .ok (.getfield 11, 3) := by decide +kernel
theorem dX9_tryNext_84 : decode cX9_tryNext 84 = .ok (.iload_n 1, 1) := by decide +kernel
theorem dX9_tryNext_85 : decode cX9_tryNext 85 = .ok (.iconst 1, 1) := by decide +kernel
theorem dX9_tryNext_86 : decode cX9_tryNext 86 = .ok (.iadd, 1) := by decide +kernel
theorem dX9_tryNext_87 : decode cX9_tryNext 87 = .ok (.iload 6, 2) := by decide +kernel
theorem dX9_tryNext_89 : decode cX9_tryNext 89 = .ok (.iastore, 1) := by decide +kernel
theorem dX9_tryNext_90 : decode cX9_tryNext 90 = .ok (.aload_n 0, 1) := by decide +kernel
theorem dX9_tryNext_91 : decode cX9_tryNext 91 = .ok (.iload_n 1, 1) := by decide +kernel
theorem dX9_tryNext_92 : decode cX9_tryNext 92 = .ok (.iconst 1, 1) := by decide +kernel
theorem dX9_tryNext_93 : decode cX9_tryNext 93 = .ok (.iadd, 1) := by decide +kernel
theorem dX9_tryNext_94 : decode cX9_tryNext 94 = .ok (.lload_n 2, 1) := by decide +kernel
theorem dX9_tryNext_95 : decode cX9_tryNext 95 = .ok (.ldc2_w 72, 3) := by decide +kernel
theorem dX9_tryNext_98 : decode cX9_tryNext 98 = .ok (.ldiv, 1) := by decide +kernel
theorem dX9_tryNext_99 : decode cX9_tryNext 99 = .ok (.sipush 1000, 3) := by decide +kernel
theorem dX9_tryNext_102 : decode cX9_tryNext 102 = .ok (.aload_n 0, 1) := by decide +kernel
theorem dX9_tryNext_103 : decode cX9_tryNext 103 = .ok (.getfield 22, 3) := by decide +kernel
theorem dX9_tryNext_106 : decode cX9_tryNext 106 = .ok (.iload 5, 2) := by decide +kernel
theorem dX9_tryNext_108 : decode cX9_tryNext 108 = .ok (.iload 6, 2) := by decide +kernel
theorem dX9_tryNext_110 : decode cX9_tryNext 110 = .ok (.invokevirtual 74, 3) := by decide +kernel
theorem dX9_tryNext_113 : decode cX9_tryNext 113 = .ok (.isub, 1) := by decide +kernel
theorem dX9_tryNext_114 : decode cX9_tryNext 114 = .ok (.i2l, 1) := by decide +kernel
theorem dX9_tryNext_115 : decode cX9_tryNext 115 = .ok (.lmul, 1) := by decide +kernel
theorem dX9_tryNext_116 : decode cX9_tryNext 116 = .ok (.iload 4, 2) := by decide +kernel
theorem dX9_tryNext_118 : decode cX9_tryNext 118 = .ok (.iconst 1, 1) := by decide +kernel
theorem dX9_tryNext_119 : decode cX9_tryNext 119 = .ok (.iload 6, 2) := by decide +kernel
theorem dX9_tryNext_121 : decode cX9_tryNext 121 = .ok (.ishl, 1) := by decide +kernel
theorem dX9_tryNext_122 : decode cX9_tryNext 122 = .ok (.ior, 1) := by decide +kernel
theorem dX9_tryNext_123 : decode cX9_tryNext 123 = .ok (.invokevirtual 41, 3) := by decide +kernel
theorem dX9_tryNext_126 : decode cX9_tryNext 126 = .ok (.iinc 6 1, 3) := by decide +kernel
theorem dX9_tryNext_129 : decode cX9_tryNext 129 = .ok (.goto (-107), 3) := by decide +kernel
theorem dX9_tryNext_132 : decode cX9_tryNext 132 = .ok (.return_, 1) := by decide +kernel
theorem dX9_noteIfBetter_0 : decode cX9_noteIfBetter 0 = .ok (.lload_n 2, 1) := by decide +kernel
theorem dX9_noteIfBetter_1 : decode cX9_noteIfBetter 1 = .ok (.aload_n 0, 1) := by decide +kernel
theorem dX9_noteIfBetter_2 : decode cX9_noteIfBetter 2 = .ok (.getfield 35, 3) := by decide +kernel
theorem dX9_noteIfBetter_5 : decode cX9_noteIfBetter 5 = .ok (.lcmp, 1) := by decide +kernel
theorem dX9_noteIfBetter_6 : decode cX9_noteIfBetter 6 = .ok (.ifCond .gt 20, 3) := by decide +kernel
theorem dX9_noteIfBetter_9 : decode cX9_noteIfBetter 9 = .ok (.lload_n 2, 1) := by decide +kernel
theorem dX9_noteIfBetter_10 : decode cX9_noteIfBetter 10 = .ok (.aload_n 0, 1) := by decide +kernel
theorem dX9_noteIfBetter_11 : decode cX9_noteIfBetter 11 = .ok (.getfield 35, 3) := by decide +kernel
theorem dX9_noteIfBetter_14 : decode cX9_noteIfBetter 14 = .ok (.lcmp, 1) := by decide +kernel
theorem dX9_noteIfBetter_15 : decode cX9_noteIfBetter 15 = .ok (.ifCond .ne 36, 3) := by decide +kernel
theorem dX9_noteIfBetter_18 : decode cX9_noteIfBetter 18 = .ok (.iload_n 1, 1) := by decide +kernel
theorem dX9_noteIfBetter_19 : decode cX9_noteIfBetter 19 = .ok (.aload_n 0, 1) := by decide +kernel
theorem dX9_noteIfBetter_20 : decode cX9_noteIfBetter 20 = .ok (.getfield 30, 3) := by decide +kernel
theorem dX9_noteIfBetter_23 : decode cX9_noteIfBetter 23 = .ok (.if_icmp .ge 28, 3) := by decide +kernel
theorem dX9_noteIfBetter_26 : decode cX9_noteIfBetter 26 = .ok (.aload_n 0, 1) := by decide +kernel
theorem dX9_noteIfBetter_27 : decode cX9_noteIfBetter 27 = .ok (.lload_n 2, 1) := by decide +kernel
theorem dX9_noteIfBetter_28 : decode cX9_noteIfBetter 28 = .ok (.putfield 35, 3) := by decide +kernel
theorem dX9_noteIfBetter_31 : decode cX9_noteIfBetter 31 = .ok (.aload_n 0, 1) := by decide +kernel
theorem dX9_noteIfBetter_32 : decode cX9_noteIfBetter 32 = .ok (.iload_n 1, 1) := by decide +kernel
theorem dX9_noteIfBetter_33 : decode cX9_noteIfBetter 33 = .ok (.putfield 30, 3) := by decide +kernel
theorem dX9_noteIfBetter_36 : decode cX9_noteIfBetter 36 = .ok (.aload_n 0, 1) := by decide +kernel
theorem dX9_noteIfBetter_37 : decode cX9_noteIfBetter 37 = .ok (.getfield 11, 3) := by decide +kernel
theorem dX9_noteIfBetter_40 : decode cX9_noteIfBetter 40 = .ok (.iconst 0, 1) := by decide +kernel
theorem dX9_noteIfBetter_41 : decode cX9_noteIfBetter 41 = .ok (.aload_n 0, 1) := by decide +kernel
theorem dX9_noteIfBetter_42 : decode cX9_noteIfBetter 42 = .ok (.getfield 15, 3) := by decide +kernel
theorem dX9_noteIfBetter_45 : decode cX9_noteIfBetter 45 = .ok (.iconst 0, 1) := by decide +kernel
theorem dX9_noteIfBetter_46 : decode cX9_noteIfBetter 46 = .ok (.bipush 7, 2) := by decide +kernel
theorem dX9_noteIfBetter_48 : decode cX9_noteIfBetter 48 = .ok (.invokestatic 80, 3) := by decide +kernel
theorem dX9_noteIfBetter_51 : decode cX9_noteIfBetter 51 = .ok (.return_, 1) := by decide +kernel
theorem dX9_passings_0 : decode cX9_passings 0 = .ok (.aload_n 0, 1) := by decide +kernel
theorem dX9_passings_1 : decode cX9_passings 1 = .ok (.getfield 30, 3) := by decide +kernel
theorem dX9_passings_4 : decode cX9_passings 4 = .ok (.ireturn, 1) := by decide +kernel
theorem dX9_guestAt_0 : decode cX9_guestAt 0 = .ok (.iload_n 1, 1) := by decide +kernel
theorem dX9_guestAt_1 : decode cX9_guestAt 1 = .ok (.ifCond .lt 26, 3) := by decide +kernel
theorem dX9_guestAt_4 : decode cX9_guestAt 4 = .ok (.iload_n 1, 1) := by decide +kernel
theorem dX9_guestAt_5 : decode cX9_guestAt 5 = .ok (.aload_n 0, 1) := by decide +kernel
theorem dX9_guestAt_6 : decode cX9_guestAt 6 = .ok (.getfield 30, 3) := by decide +kernel
theorem dX9_guestAt_9 : decode cX9_guestAt 9 = .ok (.if_icmp .gt 18, 3) := by decide +kernel
theorem dX9_guestAt_12 : decode cX9_guestAt 12 = .ok (.iload_n 1, 1) := by decide +kernel
theorem dX9_guestAt_13 : decode cX9_guestAt 13 = .ok (.bipush 6, 2) := by decide +kernel
theorem dX9_guestAt_15 : decode cX9_guestAt 15 = .ok (.if_icmp .gt 12, 3) := by decide +kernel
theorem dX9_guestAt_18 : decode cX9_guestAt 18 = .ok (.aload_n 0, 1) := by decide +kernel
theorem dX9_guestAt_19 : decode cX9_guestAt 19 = .ok (.getfield 15, 3) := by decide +kernel
theorem dX9_guestAt_22 : decode cX9_guestAt 22 = .ok (.iload_n 1, 1) := by decide +kernel
theorem dX9_guestAt_23 : decode cX9_guestAt 23 = .ok (.iaload, 1) := by decide +kernel
theorem dX9_guestAt_24 : decode cX9_guestAt 24 = .ok (.goto 4, 3) := by decide +kernel
theorem dX9_guestAt_27 : decode cX9_guestAt 27 = .ok (.iconst (-1), 1) := by decide +kernel
theorem dX9_guestAt_28 : decode cX9_guestAt 28 = .ok (.ireturn, 1) := by decide +kernel
theorem dX9_above_0 : decode cX9_above 0 = .ok (.aload_n 0, 1) := by decide +kernel
theorem dX9_above_1 : decode cX9_above 1 = .ok (.getfield 35, 3) := by decide +kernel
theorem dX9_above_4 : decode cX9_above 4 = .ok (.aload_n 0, 1) := by decide +kernel
theorem dX9_above_5 : decode cX9_above 5 = .ok (.invokevirtual 86, 3) := by decide +kernel
theorem dX9_above_8 : decode cX9_above 8 = .ok (.ldiv, 1) := by decide +kernel
theorem dX9_above_9 : decode cX9_above 9 = .ok (.lreturn, 1) := by decide +kernel
theorem dX9_below_0 : decode cX9_below 0 = .ok (.ldc2_w 39, 3) := by decide +kernel
theorem dX9_below_3 : decode cX9_below 3 = .ok (.aload_n 0, 1) := by decide +kernel
theorem dX9_below_4 : decode cX9_below 4 = .ok (.invokevirtual 86, 3) := by decide +kernel
theorem dX9_below_7 : decode cX9_below 7 = .ok (.ldiv, 1) := by decide +kernel
theorem dX9_below_8 : decode cX9_below 8 = .ok (.lreturn, 1) := by decide +kernel
theorem dX9_divisor_0 : decode cX9_divisor 0 = .ok (.ldc2_w 39, 3) := by decide +kernel
theorem dX9_divisor_3 : decode cX9_divisor 3 = .ok (.lstore_n 1, 1) := by decide +kernel
theorem dX9_divisor_4 : decode cX9_divisor 4 = .ok (.aload_n 0, 1) := by decide +kernel
theorem dX9_divisor_5 : decode cX9_divisor 5 = .ok (.getfield 35, 3) := by decide +kernel
theorem dX9_divisor_8 : decode cX9_divisor 8 = .ok (.lstore_n 3, 1) := by decide +kernel
theorem dX9_divisor_9 : decode cX9_divisor 9 = .ok (.iconst 0, 1) := by decide +kernel
theorem dX9_divisor_10 : decode cX9_divisor 10 = .ok (.istore 5, 2) := by decide +kernel
theorem dX9_divisor_12 : decode cX9_divisor 12 = .ok (.iload 5, 2) := by decide +kernel
theorem dX9_divisor_14 : decode cX9_divisor 14 = .ok (.sipush 200, 3) := by decide +kernel
theorem dX9_divisor_17 : decode cX9_divisor 17 = .ok (.if_icmp .ge 25, 3) := by decide +kernel
theorem dX9_divisor_20 : decode cX9_divisor 20 = .ok (.lload_n 3, 1) := by decide +kernel
theorem dX9_divisor_21 : decode cX9_divisor 21 = .ok (.lconst 0, 1) := by decide +kernel
theorem dX9_divisor_22 : decode cX9_divisor 22 = .ok (.lcmp, 1) := by decide +kernel
theorem dX9_divisor_23 : decode cX9_divisor 23 = .ok (.ifCond .le 19, 3) := by decide +kernel
theorem dX9_divisor_26 : decode cX9_divisor 26 = .ok (.lload_n 1, 1) := by decide +kernel
theorem dX9_divisor_27 : decode cX9_divisor 27 = .ok (.lload_n 3, 1) := by decide +kernel
theorem dX9_divisor_28 : decode cX9_divisor 28 = .ok (.lrem, 1) := by decide +kernel
theorem dX9_divisor_29 : decode cX9_divisor 29 = .ok (.lstore 6, 2) := by decide +kernel
theorem dX9_divisor_31 : decode cX9_divisor 31 = .ok (.lload_n 3, 1) := by decide +kernel
theorem dX9_divisor_32 : decode cX9_divisor 32 = .ok (.lstore_n 1, 1) := by decide +kernel
theorem dX9_divisor_33 : decode cX9_divisor 33 = .ok (.lload 6, 2) := by decide +kernel
theorem dX9_divisor_35 : decode cX9_divisor 35 = .ok (.lstore_n 3, 1) := by decide +kernel
theorem dX9_divisor_36 : decode cX9_divisor 36 = .ok (.iinc 5 1, 3) := by decide +kernel
theorem dX9_divisor_39 : decode cX9_divisor 39 = .ok (.goto (-27), 3) := by decide +kernel
theorem dX9_divisor_42 : decode cX9_divisor 42 = .ok (.lload_n 1, 1) := by decide +kernel
theorem dX9_divisor_43 : decode cX9_divisor 43 = .ok (.lconst 1, 1) := by decide +kernel
theorem dX9_divisor_44 : decode cX9_divisor 44 = .ok (.lcmp, 1) := by decide +kernel
theorem dX9_divisor_45 : decode cX9_divisor 45 = .ok (.ifCond .ge 7, 3) := by decide +kernel
theorem dX9_divisor_48 : decode cX9_divisor 48 = .ok (.lconst 1, 1) := by decide +kernel
theorem dX9_divisor_49 : decode cX9_divisor 49 = .ok (.goto 4, 3) := by decide +kernel
theorem dX9_divisor_52 : decode cX9_divisor 52 = .ok (.lload_n 1, 1) := by decide +kernel
theorem dX9_divisor_53 : decode cX9_divisor 53 = .ok (.lreturn, 1) := by decide +kernel
theorem dX10_init_0 : decode cX10_init 0 = .ok (.aload_n 0, 1) := by decide +kernel
theorem dX10_init_1 : decode cX10_init 1 = .ok (.invokespecial 3, 3) := by decide +kernel
theorem dX10_init_4 : decode cX10_init 4 = .ok (.aload_n 0, 1) := by decide +kernel
theorem dX10_init_5 : decode cX10_init 5 = .ok (.sipush 220, 3) := by decide +kernel
theorem dX10_init_8 : decode cX10_init 8 = .ok (.newarray .int, 2) := by decide +kernel
theorem dX10_init_10 : decode cX10_init 10 = .ok (.putfield 11, 3) := by decide +kernel
theorem dX10_init_13 : decode cX10_init 13 = .ok (.return_, 1) := by decide +kernel
theorem dX10_length_0 : decode cX10_length 0 = .ok (.aload_n 0, 1) := by decide +kernel
theorem dX10_length_1 : decode cX10_length 1 = .ok (.getfield 15, 3) := by decide +kernel
theorem dX10_length_4 : decode cX10_length 4 = .ok (.ireturn, 1) := by decide +kernel
theorem dX10_hasRoom_0 : decode cX10_hasRoom 0 = .ok (.aload_n 0, 1) := by decide +kernel
theorem dX10_hasRoom_1 : decode cX10_hasRoom 1 = .ok (.getfield 15, 3) := by decide +kernel
theorem dX10_hasRoom_4 : decode cX10_hasRoom 4 = .ok (.bipush 20, 2) := by decide +kernel
theorem dX10_hasRoom_6 : decode cX10_hasRoom 6 = .ok (.iadd, 1) := by decide +kernel
theorem dX10_hasRoom_7 : decode cX10_hasRoom 7 = .ok (.sipush 220, 3) := by decide +kernel
theorem dX10_hasRoom_10 : decode cX10_hasRoom 10 = .ok (.if_icmp .gt 7, 3) := by decide +kernel
theorem dX10_hasRoom_13 : decode cX10_hasRoom 13 = .ok (.iconst 1, 1) := by decide +kernel
theorem dX10_hasRoom_14 : decode cX10_hasRoom 14 = .ok (.goto 4, 3) := by decide +kernel
theorem dX10_hasRoom_17 : decode cX10_hasRoom 17 = .ok (.iconst 0, 1) := by decide +kernel
theorem dX10_hasRoom_18 : decode cX10_hasRoom 18 = .ok (.ireturn, 1) := by decide +kernel
theorem dX10_add_0 : decode cX10_add 0 = .ok (.bipush 24, 2) := by decide +kernel
theorem dX10_add_2 : decode cX10_add 2 = .ok (.istore_n 2, 1) := by decide +kernel
theorem dX10_add_3 : decode cX10_add 3 = .ok (.iload_n 2, 1) := by decide +kernel
theorem dX10_add_4 : decode cX10_add 4 = .ok (.ifCond .lt 45, 3) := by decide +kernel
theorem dX10_add_7 : decode cX10_add 7 = .ok (.aload_n 0, 1) := by decide +kernel
theorem dX10_add_8 : decode cX10_add 8 = .ok (.getfield 15, 3) := by decide +kernel
theorem dX10_add_11 : decode cX10_add 11 = .ok (.sipush 220, 3) := by decide +kernel
theorem dX10_add_14 : decode cX10_add 14 = .ok (.if_icmp .ge 35, 3) := by decide +kernel
theorem dX10_add_17 : decode cX10_add 17 = .ok (.aload_n 0, 1) := by decide +kernel
theorem dX10_add_18 : decode cX10_add 18 = .ok (.getfield 11, 3) := by decide +kernel
theorem dX10_add_21 : decode cX10_add 21 = .ok (.aload_n 0, 1) := by decide +kernel
theorem dX10_add_22 : decode cX10_add 22 = .ok (.getfield 15, 3) := by decide +kernel
theorem dX10_add_25 : decode cX10_add 25 = .ok (.iload_n 1, 1) := by decide +kernel
theorem dX10_add_26 : decode cX10_add 26 = .ok (.iload_n 2, 1) := by decide +kernel
theorem dX10_add_27 : decode cX10_add 27 = .ok (.ishr, 1) := by decide +kernel
theorem dX10_add_28 : decode cX10_add 28 = .ok (.sipush 255, 3) := by decide +kernel
theorem dX10_add_31 : decode cX10_add 31 = .ok (.iand, 1) := by decide +kernel
theorem dX10_add_32 : decode cX10_add 32 = .ok (.iastore, 1) := by decide +kernel
theorem dX10_add_33 : decode cX10_add 33 = .ok (.aload_n 0, 1) := by decide +kernel
theorem dX10_add_34 : decode cX10_add 34 = .ok (.dup, 1) := by decide +kernel
theorem dX10_add_35 : decode cX10_add 35 = .ok (.getfield 15, 3) := by decide +kernel
theorem dX10_add_38 : decode cX10_add 38 = .ok (.iconst 1, 1) := by decide +kernel
theorem dX10_add_39 : decode cX10_add 39 = .ok (.iadd, 1) := by decide +kernel
theorem dX10_add_40 : decode cX10_add 40 = .ok (.putfield 15, 3) := by decide +kernel
theorem dX10_add_43 : decode cX10_add 43 = .ok (.iinc 2 (-8), 3) := by decide +kernel
theorem dX10_add_46 : decode cX10_add 46 = .ok (.goto (-43), 3) := by decide +kernel
theorem dX10_add_49 : decode cX10_add 49 = .ok (.return_, 1) := by decide +kernel
theorem dX10_byteAt_0 : decode cX10_byteAt 0 = .ok (.iload_n 1, 1) := by decide +kernel
theorem dX10_byteAt_1 : decode cX10_byteAt 1 = .ok (.ifCond .lt 20, 3) := by decide +kernel
theorem dX10_byteAt_4 : decode cX10_byteAt 4 = .ok (.iload_n 1, 1) := by decide +kernel
theorem dX10_byteAt_5 : decode cX10_byteAt 5 = .ok (.aload_n 0, 1) := by decide +kernel
theorem dX10_byteAt_6 : decode cX10_byteAt 6 = .ok (.getfield 15, 3) := by decide +kernel
theorem dX10_byteAt_9 : decode cX10_byteAt 9 = .ok (.if_icmp .ge 12, 3) := by decide +kernel
theorem dX10_byteAt_12 : decode cX10_byteAt 12 = .ok (.aload_n 0, 1) := by decide +kernel
theorem dX10_byteAt_13 : decode cX10_byteAt 13 = .ok (.getfield 11, 3) := by decide +kernel
theorem dX10_byteAt_16 : decode cX10_byteAt 16 = .ok (.iload_n 1, 1) := by decide +kernel
theorem dX10_byteAt_17 : decode cX10_byteAt 17 = .ok (.iaload, 1) := by decide +kernel
theorem dX10_byteAt_18 : decode cX10_byteAt 18 = .ok (.goto 4, 3) := by decide +kernel
theorem dX10_byteAt_21 : decode cX10_byteAt 21 = .ok (.iconst (-1), 1) := by decide +kernel
theorem dX10_byteAt_22 : decode cX10_byteAt 22 = .ok (.ireturn, 1) := by decide +kernel
theorem dX10_numberAt_0 : decode cX10_numberAt 0 = .ok (.iconst 0, 1) := by decide +kernel
theorem dX10_numberAt_1 : decode cX10_numberAt 1 = .ok (.istore_n 2, 1) := by decide +kernel
theorem dX10_numberAt_2 : decode cX10_numberAt 2 = .ok (.iconst 0, 1) := by decide +kernel
theorem dX10_numberAt_3 : decode cX10_numberAt 3 = .ok (.istore_n 3, 1) := by decide +kernel
theorem dX10_numberAt_4 : decode cX10_numberAt 4 = .ok (.iload_n 3, 1) := by decide +kernel
theorem dX10_numberAt_5 : decode cX10_numberAt 5 = .ok (.iconst 4, 1) := by decide +kernel
theorem dX10_numberAt_6 : decode cX10_numberAt 6 = .ok (.if_icmp .ge 26, 3) := by decide +kernel
theorem dX10_numberAt_9 : decode cX10_numberAt 9 = .ok (.iload_n 2, 1) := by decide +kernel
theorem dX10_numberAt_10 : decode cX10_numberAt 10 = .ok (.bipush 8, 2) := by decide +kernel
theorem dX10_numberAt_12 : decode cX10_numberAt 12 = .ok (.ishl, 1) := by decide +kernel
theorem dX10_numberAt_13 : decode cX10_numberAt 13 = .ok (.aload_n 0, 1) := by decide +kernel
theorem dX10_numberAt_14 : decode cX10_numberAt 14 = .ok (.iload_n 1, 1) := by decide +kernel
theorem dX10_numberAt_15 : decode cX10_numberAt 15 = .ok (.iload_n 3, 1) := by decide +kernel
theorem dX10_numberAt_16 : decode cX10_numberAt 16 = .ok (.iadd, 1) := by decide +kernel
theorem dX10_numberAt_17 : decode cX10_numberAt 17 = .ok (.invokevirtual 19, 3) := by decide +kernel
theorem dX10_numberAt_20 : decode cX10_numberAt 20 = .ok (.sipush 255, 3) := by decide +kernel
theorem dX10_numberAt_23 : decode cX10_numberAt 23 = .ok (.iand, 1) := by decide +kernel
theorem dX10_numberAt_24 : decode cX10_numberAt 24 = .ok (.ior, 1) := by decide +kernel
theorem dX10_numberAt_25 : decode cX10_numberAt 25 = .ok (.istore_n 2, 1) := by decide +kernel
theorem dX10_numberAt_26 : decode cX10_numberAt 26 = .ok (.iinc 3 1, 3) := by decide +kernel
theorem dX10_numberAt_29 : decode cX10_numberAt 29 = .ok (.goto (-25), 3) := by decide +kernel
theorem dX10_numberAt_32 : decode cX10_numberAt 32 = .ok (.iload_n 2, 1) := by decide +kernel
theorem dX10_numberAt_33 : decode cX10_numberAt 33 = .ok (.ireturn, 1) := by decide +kernel
theorem dX10_clear_0 : decode cX10_clear 0 = .ok (.aload_n 0, 1) := by decide +kernel
theorem dX10_clear_1 : decode cX10_clear 1 = .ok (.iconst 0, 1) := by decide +kernel
theorem dX10_clear_2 : decode cX10_clear 2 = .ok (.putfield 15, 3) := by decide +kernel
theorem dX10_clear_5 : decode cX10_clear 5 = .ok (.return_, 1) := by decide +kernel
theorem dX11_init_0 : decode cX11_init 0 = .ok (.aload_n 0, 1) := by decide +kernel
theorem dX11_init_1 : decode cX11_init 1 = .ok (.invokespecial 1, 3) := by decide +kernel
theorem dX11_init_4 : decode cX11_init 4 = .ok (.new 7, 3) := by decide +kernel
theorem dX11_init_7 : decode cX11_init 7 = .ok (.dup, 1) := by decide +kernel
theorem dX11_init_8 : decode cX11_init 8 = .ok (.invokespecial 9, 3) := by decide +kernel
theorem dX11_init_11 : decode cX11_init 11 = .ok (.astore_n 1, 1) := by decide +kernel
theorem dX11_init_12 : decode cX11_init 12 = .ok (.new 10, 3) := by decide +kernel
theorem dX11_init_15 : decode cX11_init 15 = .ok (.dup, 1) := by decide +kernel
theorem dX11_init_16 : decode cX11_init 16 = .ok (.invokespecial 12, 3) := by decide +kernel
theorem dX11_init_19 : decode cX11_init 19 = .ok (.astore_n 2, 1) := by decide +kernel
theorem dX11_init_20 : decode cX11_init 20 = .ok (.new 13, 3) := by decide +kernel
theorem dX11_init_23 : decode cX11_init 23 = .ok (.dup, 1) := by decide +kernel
theorem dX11_init_24 : decode cX11_init 24 = .ok (.aload_n 2, 1) := by decide +kernel
theorem dX11_init_25 : decode cX11_init 25 = .ok (.invokespecial 15, 3) := by decide +kernel
theorem dX11_init_28 : decode cX11_init 28 = .ok (.astore_n 3, 1) := by decide +kernel
theorem dX11_init_29 : decode cX11_init 29 = .ok (.aload_n 0, 1) := by decide +kernel
theorem dX11_init_30 : decode cX11_init 30 = .ok (.aload_n 1, 1) := by decide +kernel
theorem dX11_init_31 : decode cX11_init 31 = .ok (.putfield 18, 3) := by decide +kernel
theorem dX11_init_34 : decode cX11_init 34 = .ok (.aload_n 0, 1) := by decide +kernel
theorem dX11_init_35 : decode cX11_init 35 = .ok (.aload_n 2, 1) := by decide +kernel
theorem dX11_init_36 : decode cX11_init 36 = .ok (.putfield 24, 3) := by decide +kernel
theorem dX11_init_39 : decode cX11_init 39 = .ok (.aload_n 0, 1) := by decide +kernel
theorem dX11_init_40 : decode cX11_init 40 = .ok (.new 28, 3) := by decide +kernel
theorem dX11_init_43 : decode cX11_init 43 = .ok (.dup, 1) := by decide +kernel
theorem dX11_init_44 : decode cX11_init 44 = .ok (.aload_n 1, 1) := by decide +kernel
theorem dX11_init_45 : decode cX11_init 45 = .ok (.invokespecial 30, 3) := by decide +kernel
theorem dX11_init_48 : decode cX11_init 48 = .ok (.putfield 33, 3) := by decide +kernel
theorem dX11_init_51 : decode cX11_init 51 = .ok (.aload_n 0, 1) := by decide +kernel
theorem dX11_init_52 : decode cX11_init 52 = .ok (.aload_n 3, 1) := by decide +kernel
theorem dX11_init_53 : decode cX11_init 53 = .ok (.putfield 37, 3) := by decide +kernel
theorem dX11_init_56 : decode cX11_init 56 = .ok (.aload_n 0, 1) := by decide +kernel
theorem dX11_init_57 : decode cX11_init 57 = .ok (.new 41, 3) := by decide +kernel
theorem dX11_init_60 : decode cX11_init 60 = .ok (.dup, 1) := by decide +kernel
theorem dX11_init_61 : decode cX11_init 61 = .ok (.aload_n 2, 1) := by decide +kernel
theorem dX11_init_62 : decode cX11_init 62 = .ok (.aload_n 3, 1) := by decide +kernel
theorem dX11_init_63 : decode cX11_init 63 = .ok (.invokespecial 43, 3) := by decide +kernel
theorem dX11_init_66 : decode cX11_init 66 = .ok (.putfield 46, 3) := by decide +kernel
theorem dX11_init_69 : decode cX11_init 69 = .ok (.aload_n 0, 1) := by decide +kernel
theorem dX11_init_70 : decode cX11_init 70 = .ok (.new 50, 3) := by decide +kernel
theorem dX11_init_73 : decode cX11_init 73 = .ok (.dup, 1) := by decide +kernel
theorem dX11_init_74 : decode cX11_init 74 = .ok (.aload_n 2, 1) := by decide +kernel
theorem dX11_init_75 : decode cX11_init 75 = .ok (.aload_n 3, 1) := by decide +kernel
theorem dX11_init_76 : decode cX11_init 76 = .ok (.invokespecial 52, 3) := by decide +kernel
theorem dX11_init_79 : decode cX11_init 79 = .ok (.putfield 53, 3) := by decide +kernel
theorem dX11_init_82 : decode cX11_init 82 = .ok (.aload_n 0, 1) := by decide +kernel
theorem dX11_init_83 : decode cX11_init 83 = .ok (.new 57, 3) := by decide +kernel
theorem dX11_init_86 : decode cX11_init 86 = .ok (.dup, 1) := by decide +kernel
theorem dX11_init_87 : decode cX11_init 87 = .ok (.aload_n 2, 1) := by decide +kernel
theorem dX11_init_88 : decode cX11_init 88 = .ok (.aload_n 3, 1) := by decide +kernel
theorem dX11_init_89 : decode cX11_init 89 = .ok (.invokespecial 59, 3) := by decide +kernel
theorem dX11_init_92 : decode cX11_init 92 = .ok (.putfield 60, 3) := by decide +kernel
theorem dX11_init_95 : decode cX11_init 95 = .ok (.aload_n 0, 1) := by decide +kernel
theorem dX11_init_96 : decode cX11_init 96 = .ok (.new 64, 3) := by decide +kernel
theorem dX11_init_99 : decode cX11_init 99 = .ok (.dup, 1) := by decide +kernel
theorem dX11_init_100 : decode cX11_init 100 = .ok (.invokespecial 66, 3) := by decide +kernel
theorem dX11_init_103 : decode cX11_init 103 = .ok (.putfield 67, 3) := by decide +kernel
theorem dX11_init_106 : decode cX11_init 106 = .ok (.aload_n 0, 1) := by decide +kernel
theorem dX11_init_107 : decode cX11_init 107 = .ok (.new 71, 3) := by decide +kernel
theorem dX11_init_110 : decode cX11_init 110 = .ok (.dup, 1) := by decide +kernel
theorem dX11_init_111 : decode cX11_init 111 = .ok (.invokespecial 73, 3) := by decide +kernel
theorem dX11_init_114 : decode cX11_init 114 = .ok (.putfield 74, 3) := by decide +kernel
theorem dX11_init_117 : decode cX11_init 117 = .ok (.aload_n 0, 1) := by decide +kernel
theorem dX11_init_118 : decode cX11_init 118 = .ok (.iconst 1, 1) := by decide +kernel
theorem dX11_init_119 : decode cX11_init 119 = .ok (.putfield 78, 3) := by decide +kernel
theorem dX11_init_122 : decode cX11_init 122 = .ok (.aload_n 0, 1) := by decide +kernel
theorem dX11_init_123 : decode cX11_init 123 = .ok (.iconst 1, 1) := by decide +kernel
theorem dX11_init_124 : decode cX11_init 124 = .ok (.putfield 82, 3) := by decide +kernel
theorem dX11_init_127 : decode cX11_init 127 = .ok (.aload_n 0, 1) := by decide +kernel
theorem dX11_init_128 : decode cX11_init 128 = .ok (.iconst (-1), 1) := by decide +kernel
theorem dX11_init_129 : decode cX11_init 129 = .ok (.putfield 85, 3) := by decide +kernel
theorem dX11_init_132 : decode cX11_init 132 = .ok (.return_, 1) := by decide +kernel
theorem dX11_guest_0 : decode cX11_guest 0 = .ok (.iload_n 1, 1) := by decide +kernel
theorem dX11_guest_1 : decode cX11_guest 1 = .ok (.ifCond .lt 30, 3) := by decide +kernel
theorem dX11_guest_4 : decode cX11_guest 4 = .ok (.iload_n 1, 1) := by decide +kernel
theorem dX11_guest_5 : decode cX11_guest 5 = .ok (.iconst 1, 1) := by decide +kernel
theorem dX11_guest_6 : decode cX11_guest 6 = .ok (.if_icmp .gt 25, 3) := by decide +kernel
theorem dX11_guest_9 : decode cX11_guest 9 = .ok (.iload_n 2, 1) := by decide +kernel
theorem dX11_guest_10 : decode cX11_guest 10 = .ok (.iconst (-1), 1) := by decide +kernel
theorem dX11_guest_11 : decode cX11_guest 11 = .ok (.if_icmp .eq 10, 3) := by decide +kernel
theorem dX11_guest_14 : decode cX11_guest 14 = .ok (.iload_n 2, 1) := by decide +kernel
theorem dX11_guest_15 : decode cX11_guest 15 = .ok (.invokestatic 88, 3) := by decide +kernel
theorem dX11_guest_18 : decode cX11_guest 18 = .ok (.ifCond .eq 13, 3) := by decide +kernel
theorem dX11_guest_21 : decode cX11_guest 21 = .ok (.aload_n 0, 1) := by decide +kernel
theorem dX11_guest_22 : decode cX11_guest 22 = .ok (.getfield 24, 3) := by decide +kernel
theorem dX11_guest_25 : decode cX11_guest 25 = .ok (.invokevirtual 94, 3) := by decide +kernel
theorem dX11_guest_28 : decode cX11_guest 28 = .ok (.ifCond .eq 5, 3) := by decide +kernel
theorem dX11_guest_31 : decode cX11_guest 31 = .ok (.iconst (-1), 1) := by decide +kernel
theorem dX11_guest_32 : decode cX11_guest 32 = .ok (.ireturn, 1) := by decide +kernel
theorem dX11_guest_33 : decode cX11_guest 33 = .ok (.iload_n 2, 1) := by decide +kernel
theorem dX11_guest_34 : decode cX11_guest 34 = .ok (.iconst (-1), 1) := by decide +kernel
theorem dX11_guest_35 : decode cX11_guest 35 = .ok (.if_icmp .eq 18, 3) := by decide +kernel
theorem dX11_guest_38 : decode cX11_guest 38 = .ok (.aload_n 0, 1) := by decide +kernel
theorem dX11_guest_39 : decode cX11_guest 39 = .ok (.getfield 24, 3) := by decide +kernel
theorem dX11_guest_42 : decode cX11_guest 42 = .ok (.iload_n 2, 1) := by decide +kernel
theorem dX11_guest_43 : decode cX11_guest 43 = .ok (.invokevirtual 98, 3) := by decide +kernel
theorem dX11_guest_46 : decode cX11_guest 46 = .ok (.iconst (-1), 1) := by decide +kernel
theorem dX11_guest_47 : decode cX11_guest 47 = .ok (.if_icmp .eq 6, 3) := by decide +kernel
theorem dX11_guest_50 : decode cX11_guest 50 = .ok (.bipush (-2), 2) := by decide +kernel
theorem dX11_guest_52 : decode cX11_guest 52 = .ok (.ireturn, 1) := by decide +kernel
theorem dX11_guest_53 : decode cX11_guest 53 = .ok (.aload_n 0, 1) := by decide +kernel
theorem dX11_guest_54 : decode cX11_guest 54 = .ok (.getfield 24, 3) := by decide +kernel
theorem dX11_guest_57 : decode cX11_guest 57 = .ok (.iload_n 1, 1) := by decide +kernel
theorem dX11_guest_58 : decode cX11_guest 58 = .ok (.iload_n 2, 1) := by decide +kernel
theorem dX11_guest_59 : decode cX11_guest 59 = .ok (.invokevirtual 102, 3) := by decide +kernel
theorem dX11_guest_62 : decode cX11_guest 62 = .ok (.ireturn, 1) := by decide +kernel
theorem dX11_liking_0 : decode cX11_liking 0 = .ok (.aload_n 0, 1) := by decide +kernel
theorem dX11_liking_1 : decode cX11_liking 1 = .ok (.iload_n 1, 1) := by decide +kernel
theorem dX11_liking_2 : decode cX11_liking 2 = .ok (.iload_n 2, 1) := by decide +kernel
theorem dX11_liking_3 : decode cX11_liking 3 = .ok (.invokevirtual 106, 3) := by decide +kernel
theorem dX11_liking_6 : decode cX11_liking 6 = .ok (.ifCond .eq 15, 3) := by decide +kernel
theorem dX11_liking_9 : decode cX11_liking 9 = .ok (.iload_n 3, 1) := by decide +kernel
theorem dX11_liking_10 : decode cX11_liking 10 = .ok (.bipush (-9), 2) := by decide +kernel
theorem dX11_liking_12 : decode cX11_liking 12 = .ok (.if_icmp .lt 9, 3) := by decide +kernel
theorem dX11_liking_15 : decode cX11_liking 15 = .ok (.iload_n 3, 1) := by decide +kernel
theorem dX11_liking_16 : decode cX11_liking 16 = .ok (.bipush 9, 2) := by decide +kernel
theorem dX11_liking_18 : decode cX11_liking 18 = .ok (.if_icmp .le 5, 3) := by decide +kernel
theorem dX11_liking_21 : decode cX11_liking 21 = .ok (.iconst 0, 1) := by decide +kernel
theorem dX11_liking_22 : decode cX11_liking 22 = .ok (.ireturn, 1) := by decide +kernel
theorem dX11_liking_23 : decode cX11_liking 23 = .ok (.aload_n 0, 1) := by decide +kernel
theorem dX11_liking_24 : decode cX11_liking 24 = .ok (.getfield 24, 3) := by decide +kernel
theorem dX11_liking_27 : decode cX11_liking 27 = .ok (.iload_n 1, 1) := by decide +kernel
theorem dX11_liking_28 : decode cX11_liking 28 = .ok (.iload_n 2, 1) := by decide +kernel
theorem dX11_liking_29 : decode cX11_liking 29 = .ok (.iload_n 3, 1) := by decide +kernel
theorem dX11_liking_30 : decode cX11_liking 30 = .ok (.invokevirtual 110, 3) := by decide +kernel
theorem dX11_liking_33 : decode cX11_liking 33 = .ok (.aload_n 0, 1) := by decide +kernel
theorem dX11_liking_34 : decode cX11_liking 34 = .ok (.getfield 37, 3) := by decide +kernel
theorem dX11_liking_37 : decode cX11_liking 37 = .ok (.invokevirtual 114, 3) := by decide +kernel
theorem dX11_liking_40 : decode cX11_liking 40 = .ok (.iconst 1, 1) := by decide +kernel
theorem dX11_liking_41 : decode cX11_liking 41 = .ok (.ireturn, 1) := by decide +kernel
theorem dX11_sit_0 : decode cX11_sit 0 = .ok (.aload_n 0, 1) := by decide +kernel
theorem dX11_sit_1 : decode cX11_sit 1 = .ok (.getfield 24, 3) := by decide +kernel
theorem dX11_sit_4 : decode cX11_sit 4 = .ok (.iload_n 1, 1) := by decide +kernel
theorem dX11_sit_5 : decode cX11_sit 5 = .ok (.invokevirtual 117, 3) := by decide +kernel
theorem dX11_sit_8 : decode cX11_sit 8 = .ok (.ifCond .ne 5, 3) := by decide +kernel
theorem dX11_sit_11 : decode cX11_sit 11 = .ok (.iconst 0, 1) := by decide +kernel
theorem dX11_sit_12 : decode cX11_sit 12 = .ok (.ireturn, 1) := by decide +kernel
theorem dX11_sit_13 : decode cX11_sit 13 = .ok (.iload_n 2, 1) := by decide +kernel
theorem dX11_sit_14 : decode cX11_sit 14 = .ok (.iconst (-1), 1) := by decide +kernel
theorem dX11_sit_15 : decode cX11_sit 15 = .ok (.if_icmp .eq 24, 3) := by decide +kernel
theorem dX11_sit_18 : decode cX11_sit 18 = .ok (.iload_n 2, 1) := by decide +kernel
theorem dX11_sit_19 : decode cX11_sit 19 = .ok (.invokestatic 88, 3) := by decide +kernel
theorem dX11_sit_22 : decode cX11_sit 22 = .ok (.ifCond .eq 15, 3) := by decide +kernel
theorem dX11_sit_25 : decode cX11_sit 25 = .ok (.aload_n 0, 1) := by decide +kernel
theorem dX11_sit_26 : decode cX11_sit 26 = .ok (.getfield 24, 3) := by decide +kernel
theorem dX11_sit_29 : decode cX11_sit 29 = .ok (.iload_n 2, 1) := by decide +kernel
theorem dX11_sit_30 : decode cX11_sit 30 = .ok (.invokevirtual 98, 3) := by decide +kernel
theorem dX11_sit_33 : decode cX11_sit 33 = .ok (.iconst (-1), 1) := by decide +kernel
theorem dX11_sit_34 : decode cX11_sit 34 = .ok (.if_icmp .eq 5, 3) := by decide +kernel
theorem dX11_sit_37 : decode cX11_sit 37 = .ok (.iconst 0, 1) := by decide +kernel
theorem dX11_sit_38 : decode cX11_sit 38 = .ok (.ireturn, 1) := by decide +kernel
theorem dX11_sit_39 : decode cX11_sit 39 = .ok (.aload_n 0, 1) := by decide +kernel
theorem dX11_sit_40 : decode cX11_sit 40 = .ok (.getfield 24, 3) := by decide +kernel
theorem dX11_sit_43 : decode cX11_sit 43 = .ok (.iload_n 1, 1) := by decide +kernel
theorem dX11_sit_44 : decode cX11_sit 44 = .ok (.iload_n 2, 1) := by decide +kernel
theorem dX11_sit_45 : decode cX11_sit 45 = .ok (.invokevirtual 120, 3) := by decide +kernel
theorem dX11_sit_48 : decode cX11_sit 48 = .ok (.iconst 1, 1) := by decide +kernel
theorem dX11_sit_49 : decode cX11_sit 49 = .ok (.ireturn, 1) := by decide +kernel
theorem dX11_feed_0 : decode cX11_feed 0 = .ok (.aload_n 0, 1) := by decide +kernel
theorem dX11_feed_1 : decode cX11_feed 1 = .ok (.getfield 18, 3) := by decide +kernel
theorem dX11_feed_4 : decode cX11_feed 4 = .ok (.invokevirtual 124, 3) := by decide +kernel
theorem dX11_feed_7 : decode cX11_feed 7 = .ok (.ifCond .ne 5, 3) := by decide +kernel
theorem dX11_feed_10 : decode cX11_feed 10 = .ok (.iconst (-1), 1) := by decide +kernel
theorem dX11_feed_11 : decode cX11_feed 11 = .ok (.ireturn, 1) := by decide +kernel
theorem dX11_feed_12 : decode cX11_feed 12 = .ok (.aload_n 0, 1) := by decide +kernel
theorem dX11_feed_13 : decode cX11_feed 13 = .ok (.getfield 18, 3) := by decide +kernel
theorem dX11_feed_16 : decode cX11_feed 16 = .ok (.iload_n 1, 1) := by decide +kernel
theorem dX11_feed_17 : decode cX11_feed 17 = .ok (.invokevirtual 127, 3) := by decide +kernel
theorem dX11_feed_20 : decode cX11_feed 20 = .ok (.aload_n 0, 1) := by decide +kernel
theorem dX11_feed_21 : decode cX11_feed 21 = .ok (.getfield 18, 3) := by decide +kernel
theorem dX11_feed_24 : decode cX11_feed 24 = .ok (.iload_n 2, 1) := by decide +kernel
theorem dX11_feed_25 : decode cX11_feed 25 = .ok (.invokevirtual 127, 3) := by decide +kernel
theorem dX11_feed_28 : decode cX11_feed 28 = .ok (.aload_n 0, 1) := by decide +kernel
theorem dX11_feed_29 : decode cX11_feed 29 = .ok (.getfield 18, 3) := by decide +kernel
theorem dX11_feed_32 : decode cX11_feed 32 = .ok (.iload_n 3, 1) := by decide +kernel
theorem dX11_feed_33 : decode cX11_feed 33 = .ok (.invokevirtual 127, 3) := by decide +kernel
theorem dX11_feed_36 : decode cX11_feed 36 = .ok (.aload_n 0, 1) := by decide +kernel
theorem dX11_feed_37 : decode cX11_feed 37 = .ok (.getfield 18, 3) := by decide +kernel
theorem dX11_feed_40 : decode cX11_feed 40 = .ok (.iload 4, 2) := by decide +kernel
theorem dX11_feed_42 : decode cX11_feed 42 = .ok (.invokevirtual 127, 3) := by decide +kernel
theorem dX11_feed_45 : decode cX11_feed 45 = .ok (.aload_n 0, 1) := by decide +kernel
theorem dX11_feed_46 : decode cX11_feed 46 = .ok (.getfield 18, 3) := by decide +kernel
theorem dX11_feed_49 : decode cX11_feed 49 = .ok (.iload 5, 2) := by decide +kernel
theorem dX11_feed_51 : decode cX11_feed 51 = .ok (.invokevirtual 127, 3) := by decide +kernel
theorem dX11_feed_54 : decode cX11_feed 54 = .ok (.aload_n 0, 1) := by decide +kernel
theorem dX11_feed_55 : decode cX11_feed 55 = .ok (.getfield 18, 3) := by decide +kernel
theorem dX11_feed_58 : decode cX11_feed 58 = .ok (.invokevirtual 130, 3) := by decide +kernel
theorem dX11_feed_61 : decode cX11_feed 61 = .ok (.ireturn, 1) := by decide +kernel
theorem dX11_law_0 : decode cX11_law 0 = .ok (.iload_n 1, 1) := by decide +kernel
theorem dX11_law_1 : decode cX11_law 1 = .ok (.iconst 1, 1) := by decide +kernel
theorem dX11_law_2 : decode cX11_law 2 = .ok (.if_icmp .lt 21, 3) := by decide +kernel
theorem dX11_law_5 : decode cX11_law 5 = .ok (.iload_n 1, 1) := by decide +kernel
theorem dX11_law_6 : decode cX11_law 6 = .ok (.sipush 200, 3) := by decide +kernel
theorem dX11_law_9 : decode cX11_law 9 = .ok (.if_icmp .gt 14, 3) := by decide +kernel
theorem dX11_law_12 : decode cX11_law 12 = .ok (.iload_n 1, 1) := by decide +kernel
theorem dX11_law_13 : decode cX11_law 13 = .ok (.aload_n 0, 1) := by decide +kernel
theorem dX11_law_14 : decode cX11_law 14 = .ok (.getfield 18, 3) := by decide +kernel
theorem dX11_law_17 : decode cX11_law 17 = .ok (.invokevirtual 130, 3) := by decide +kernel
theorem dX11_law_20 : decode cX11_law 20 = .ok (.if_icmp .le 5, 3) := by decide +kernel
theorem dX11_law_23 : decode cX11_law 23 = .ok (.iconst (-1), 1) := by decide +kernel
theorem dX11_law_24 : decode cX11_law 24 = .ok (.ireturn, 1) := by decide +kernel
theorem dX11_law_25 : decode cX11_law 25 = .ok (.aload_n 0, 1) := by decide +kernel
theorem dX11_law_26 : decode cX11_law 26 = .ok (.getfield 33, 3) := by decide +kernel
theorem dX11_law_29 : decode cX11_law 29 = .ok (.iload_n 1, 1) := by decide +kernel
theorem dX11_law_30 : decode cX11_law 30 = .ok (.invokevirtual 136, 3) := by decide +kernel
theorem dX11_law_33 : decode cX11_law 33 = .ok (.istore_n 2, 1) := by decide +kernel
theorem dX11_law_34 : decode cX11_law 34 = .ok (.aload_n 0, 1) := by decide +kernel
theorem dX11_law_35 : decode cX11_law 35 = .ok (.getfield 18, 3) := by decide +kernel
theorem dX11_law_38 : decode cX11_law 38 = .ok (.invokevirtual 139, 3) := by decide +kernel
theorem dX11_law_41 : decode cX11_law 41 = .ok (.iload_n 2, 1) := by decide +kernel
theorem dX11_law_42 : decode cX11_law 42 = .ok (.ifCond .le 24, 3) := by decide +kernel
theorem dX11_law_45 : decode cX11_law 45 = .ok (.aload_n 0, 1) := by decide +kernel
theorem dX11_law_46 : decode cX11_law 46 = .ok (.getfield 37, 3) := by decide +kernel
theorem dX11_law_49 : decode cX11_law 49 = .ok (.aload_n 0, 1) := by decide +kernel
theorem dX11_law_50 : decode cX11_law 50 = .ok (.getfield 33, 3) := by decide +kernel
theorem dX11_law_53 : decode cX11_law 53 = .ok (.aload_n 0, 1) := by decide +kernel
theorem dX11_law_54 : decode cX11_law 54 = .ok (.getfield 37, 3) := by decide +kernel
theorem dX11_law_57 : decode cX11_law 57 = .ok (.invokevirtual 142, 3) := by decide +kernel
theorem dX11_law_60 : decode cX11_law 60 = .ok (.invokevirtual 146, 3) := by decide +kernel
theorem dX11_law_63 : decode cX11_law 63 = .ok (.invokevirtual 150, 3) := by decide +kernel
theorem dX11_law_66 : decode cX11_law 66 = .ok (.iload_n 2, 1) := by decide +kernel
theorem dX11_law_67 : decode cX11_law 67 = .ok (.ireturn, 1) := by decide +kernel
theorem dX11_two_0 : decode cX11_two 0 = .ok (.iload_n 3, 1) := by decide +kernel
theorem dX11_two_1 : decode cX11_two 1 = .ok (.ifCond .lt 17, 3) := by decide +kernel
theorem dX11_two_4 : decode cX11_two 4 = .ok (.iload_n 3, 1) := by decide +kernel
theorem dX11_two_5 : decode cX11_two 5 = .ok (.iconst 2, 1) := by decide +kernel
theorem dX11_two_6 : decode cX11_two 6 = .ok (.if_icmp .gt 12, 3) := by decide +kernel
theorem dX11_two_9 : decode cX11_two 9 = .ok (.aload_n 0, 1) := by decide +kernel
theorem dX11_two_10 : decode cX11_two 10 = .ok (.iload_n 1, 1) := by decide +kernel
theorem dX11_two_11 : decode cX11_two 11 = .ok (.iload_n 2, 1) := by decide +kernel
theorem dX11_two_12 : decode cX11_two 12 = .ok (.invokevirtual 106, 3) := by decide +kernel
theorem dX11_two_15 : decode cX11_two 15 = .ok (.ifCond .ne 5, 3) := by decide +kernel
theorem dX11_two_18 : decode cX11_two 18 = .ok (.iconst (-1), 1) := by decide +kernel
theorem dX11_two_19 : decode cX11_two 19 = .ok (.ireturn, 1) := by decide +kernel
theorem dX11_two_20 : decode cX11_two 20 = .ok (.aload_n 0, 1) := by decide +kernel
theorem dX11_two_21 : decode cX11_two 21 = .ok (.getfield 24, 3) := by decide +kernel
theorem dX11_two_24 : decode cX11_two 24 = .ok (.iload_n 1, 1) := by decide +kernel
theorem dX11_two_25 : decode cX11_two 25 = .ok (.invokevirtual 154, 3) := by decide +kernel
theorem dX11_two_28 : decode cX11_two 28 = .ok (.istore 4, 2) := by decide +kernel
theorem dX11_two_30 : decode cX11_two 30 = .ok (.aload_n 0, 1) := by decide +kernel
theorem dX11_two_31 : decode cX11_two 31 = .ok (.getfield 24, 3) := by decide +kernel
theorem dX11_two_34 : decode cX11_two 34 = .ok (.iload_n 2, 1) := by decide +kernel
theorem dX11_two_35 : decode cX11_two 35 = .ok (.invokevirtual 154, 3) := by decide +kernel
theorem dX11_two_38 : decode cX11_two 38 = .ok (.istore 5, 2) := by decide +kernel
theorem dX11_two_40 : decode cX11_two 40 = .ok (.iload 4, 2) := by decide +kernel
theorem dX11_two_42 : decode cX11_two 42 = .ok (.iconst (-1), 1) := by decide +kernel
theorem dX11_two_43 : decode cX11_two 43 = .ok (.if_icmp .eq 24, 3) := by decide +kernel
theorem dX11_two_46 : decode cX11_two 46 = .ok (.iload 5, 2) := by decide +kernel
theorem dX11_two_48 : decode cX11_two 48 = .ok (.iconst (-1), 1) := by decide +kernel
theorem dX11_two_49 : decode cX11_two 49 = .ok (.if_icmp .eq 18, 3) := by decide +kernel
theorem dX11_two_52 : decode cX11_two 52 = .ok (.iload_n 3, 1) := by decide +kernel
theorem dX11_two_53 : decode cX11_two 53 = .ok (.iconst 1, 1) := by decide +kernel
theorem dX11_two_54 : decode cX11_two 54 = .ok (.if_icmp .eq 16, 3) := by decide +kernel
theorem dX11_two_57 : decode cX11_two 57 = .ok (.iload 4, 2) := by decide +kernel
theorem dX11_two_59 : decode cX11_two 59 = .ok (.iload 5, 2) := by decide +kernel
theorem dX11_two_61 : decode cX11_two 61 = .ok (.invokestatic 157, 3) := by decide +kernel
theorem dX11_two_64 : decode cX11_two 64 = .ok (.ifCond .ne 6, 3) := by decide +kernel
theorem dX11_two_67 : decode cX11_two 67 = .ok (.bipush (-2), 2) := by decide +kernel
theorem dX11_two_69 : decode cX11_two 69 = .ok (.ireturn, 1) := by decide +kernel
theorem dX11_two_70 : decode cX11_two 70 = .ok (.iload_n 3, 1) := by decide +kernel
theorem dX11_two_71 : decode cX11_two 71 = .ok (.iconst 1, 1) := by decide +kernel
theorem dX11_two_72 : decode cX11_two 72 = .ok (.if_icmp .ne 13, 3) := by decide +kernel
theorem dX11_two_75 : decode cX11_two 75 = .ok (.aload_n 0, 1) := by decide +kernel
theorem dX11_two_76 : decode cX11_two 76 = .ok (.getfield 37, 3) := by decide +kernel
theorem dX11_two_79 : decode cX11_two 79 = .ok (.iload_n 1, 1) := by decide +kernel
theorem dX11_two_80 : decode cX11_two 80 = .ok (.iload_n 2, 1) := by decide +kernel
theorem dX11_two_81 : decode cX11_two 81 = .ok (.invokevirtual 160, 3) := by decide +kernel
theorem dX11_two_84 : decode cX11_two 84 = .ok (.ireturn, 1) := by decide +kernel
theorem dX11_two_85 : decode cX11_two 85 = .ok (.iload_n 3, 1) := by decide +kernel
theorem dX11_two_86 : decode cX11_two 86 = .ok (.iconst 2, 1) := by decide +kernel
theorem dX11_two_87 : decode cX11_two 87 = .ok (.if_icmp .ne 13, 3) := by decide +kernel
theorem dX11_two_90 : decode cX11_two 90 = .ok (.aload_n 0, 1) := by decide +kernel
theorem dX11_two_91 : decode cX11_two 91 = .ok (.getfield 37, 3) := by decide +kernel
theorem dX11_two_94 : decode cX11_two 94 = .ok (.iload_n 1, 1) := by decide +kernel
theorem dX11_two_95 : decode cX11_two 95 = .ok (.iload_n 2, 1) := by decide +kernel
theorem dX11_two_96 : decode cX11_two 96 = .ok (.invokevirtual 163, 3) := by decide +kernel
theorem dX11_two_99 : decode cX11_two 99 = .ok (.ireturn, 1) := by decide +kernel
theorem dX11_two_100 : decode cX11_two 100 = .ok (.aload_n 0, 1) := by decide +kernel
theorem dX11_two_101 : decode cX11_two 101 = .ok (.getfield 37, 3) := by decide +kernel
theorem dX11_two_104 : decode cX11_two 104 = .ok (.iload_n 1, 1) := by decide +kernel
theorem dX11_two_105 : decode cX11_two 105 = .ok (.iload_n 2, 1) := by decide +kernel
theorem dX11_two_106 : decode cX11_two 106 = .ok (.invokevirtual 166, 3) := by decide +kernel
theorem dX11_two_109 : decode cX11_two 109 = .ok (.ifCond .eq 7, 3) := by decide +kernel
theorem dX11_two_112 : decode cX11_two 112 = .ok (.iconst 1, 1) := by decide +kernel
theorem dX11_two_113 : decode cX11_two 113 = .ok (.goto 4, 3) := by decide +kernel
theorem dX11_two_116 : decode cX11_two 116 = .ok (.iconst 0, 1) := by decide +kernel
theorem dX11_two_117 : decode cX11_two 117 = .ok (.ireturn, 1) := by decide +kernel
theorem dX11_worth_0 : decode cX11_worth 0 = .ok (.aload_n 0, 1) := by decide +kernel
theorem dX11_worth_1 : decode cX11_worth 1 = .ok (.getfield 24, 3) := by decide +kernel
theorem dX11_worth_4 : decode cX11_worth 4 = .ok (.iload_n 1, 1) := by decide +kernel
theorem dX11_worth_5 : decode cX11_worth 5 = .ok (.invokevirtual 169, 3) := by decide +kernel
theorem dX11_worth_8 : decode cX11_worth 8 = .ok (.ifCond .eq 22, 3) := by decide +kernel
theorem dX11_worth_11 : decode cX11_worth 11 = .ok (.iload_n 2, 1) := by decide +kernel
theorem dX11_worth_12 : decode cX11_worth 12 = .ok (.invokestatic 88, 3) := by decide +kernel
theorem dX11_worth_15 : decode cX11_worth 15 = .ok (.ifCond .eq 15, 3) := by decide +kernel
theorem dX11_worth_18 : decode cX11_worth 18 = .ok (.aload_n 0, 1) := by decide +kernel
theorem dX11_worth_19 : decode cX11_worth 19 = .ok (.getfield 37, 3) := by decide +kernel
theorem dX11_worth_22 : decode cX11_worth 22 = .ok (.iload_n 1, 1) := by decide +kernel
theorem dX11_worth_23 : decode cX11_worth 23 = .ok (.iload_n 2, 1) := by decide +kernel
theorem dX11_worth_24 : decode cX11_worth 24 = .ok (.invokevirtual 172, 3) := by decide +kernel
theorem dX11_worth_27 : decode cX11_worth 27 = .ok (.goto 6, 3) := by decide +kernel
theorem dX11_worth_30 : decode cX11_worth 30 = .ok (.sipush (-1000), 3) := by decide +kernel
theorem dX11_worth_33 : decode cX11_worth 33 = .ok (.ireturn, 1) := by decide +kernel
theorem dX11_rain_0 : decode cX11_rain 0 = .ok (.iload_n 1, 1) := by decide +kernel
theorem dX11_rain_1 : decode cX11_rain 1 = .ok (.invokestatic 175, 3) := by decide +kernel
theorem dX11_rain_4 : decode cX11_rain 4 = .ok (.ifCond .eq 24, 3) := by decide +kernel
theorem dX11_rain_7 : decode cX11_rain 7 = .ok (.iload_n 2, 1) := by decide +kernel
theorem dX11_rain_8 : decode cX11_rain 8 = .ok (.iload_n 3, 1) := by decide +kernel
theorem dX11_rain_9 : decode cX11_rain 9 = .ok (.invokestatic 178, 3) := by decide +kernel
theorem dX11_rain_12 : decode cX11_rain 12 = .ok (.ifCond .eq 16, 3) := by decide +kernel
theorem dX11_rain_15 : decode cX11_rain 15 = .ok (.aload_n 0, 1) := by decide +kernel
theorem dX11_rain_16 : decode cX11_rain 16 = .ok (.getfield 46, 3) := by decide +kernel
theorem dX11_rain_19 : decode cX11_rain 19 = .ok (.iload_n 1, 1) := by decide +kernel
theorem dX11_rain_20 : decode cX11_rain 20 = .ok (.iload_n 2, 1) := by decide +kernel
theorem dX11_rain_21 : decode cX11_rain 21 = .ok (.iload_n 3, 1) := by decide +kernel
theorem dX11_rain_22 : decode cX11_rain 22 = .ok (.invokevirtual 181, 3) := by decide +kernel
theorem dX11_rain_25 : decode cX11_rain 25 = .ok (.goto 4, 3) := by decide +kernel
theorem dX11_rain_28 : decode cX11_rain 28 = .ok (.iconst (-1), 1) := by decide +kernel
theorem dX11_rain_29 : decode cX11_rain 29 = .ok (.ireturn, 1) := by decide +kernel
theorem dX11_soonest_0 : decode cX11_soonest 0 = .ok (.iload_n 3, 1) := by decide +kernel
theorem dX11_soonest_1 : decode cX11_soonest 1 = .ok (.invokestatic 185, 3) := by decide +kernel
theorem dX11_soonest_4 : decode cX11_soonest 4 = .ok (.ifCond .eq 25, 3) := by decide +kernel
theorem dX11_soonest_7 : decode cX11_soonest 7 = .ok (.aload_n 0, 1) := by decide +kernel
theorem dX11_soonest_8 : decode cX11_soonest 8 = .ok (.getfield 24, 3) := by decide +kernel
theorem dX11_soonest_11 : decode cX11_soonest 11 = .ok (.iload_n 1, 1) := by decide +kernel
theorem dX11_soonest_12 : decode cX11_soonest 12 = .ok (.invokevirtual 188, 3) := by decide +kernel
theorem dX11_soonest_15 : decode cX11_soonest 15 = .ok (.ifCond .eq 14, 3) := by decide +kernel
theorem dX11_soonest_18 : decode cX11_soonest 18 = .ok (.aload_n 0, 1) := by decide +kernel
theorem dX11_soonest_19 : decode cX11_soonest 19 = .ok (.getfield 24, 3) := by decide +kernel
theorem dX11_soonest_22 : decode cX11_soonest 22 = .ok (.iload_n 2, 1) := by decide +kernel
theorem dX11_soonest_23 : decode cX11_soonest 23 = .ok (.invokevirtual 188, 3) := by decide +kernel
theorem dX11_soonest_26 : decode cX11_soonest 26 = .ok (.ifCond .ne 5, 3) := by decide +kernel
theorem dX11_soonest_29 : decode cX11_soonest 29 = .ok (.iconst (-1), 1) := by decide +kernel
theorem dX11_soonest_30 : decode cX11_soonest 30 = .ok (.ireturn, 1) := by decide +kernel
theorem dX11_soonest_31 : decode cX11_soonest 31 = .ok (.aload_n 0, 1) := by decide +kernel
theorem dX11_soonest_32 : decode cX11_soonest 32 = .ok (.getfield 46, 3) := by decide +kernel
theorem dX11_soonest_35 : decode cX11_soonest 35 = .ok (.iload_n 1, 1) := by decide +kernel
theorem dX11_soonest_36 : decode cX11_soonest 36 = .ok (.iload_n 3, 1) := by decide +kernel
theorem dX11_soonest_37 : decode cX11_soonest 37 = .ok (.invokevirtual 191, 3) := by decide +kernel
theorem dX11_soonest_40 : decode cX11_soonest 40 = .ok (.aload_n 0, 1) := by decide +kernel
theorem dX11_soonest_41 : decode cX11_soonest 41 = .ok (.getfield 46, 3) := by decide +kernel
theorem dX11_soonest_44 : decode cX11_soonest 44 = .ok (.iload_n 2, 1) := by decide +kernel
theorem dX11_soonest_45 : decode cX11_soonest 45 = .ok (.invokevirtual 194, 3) := by decide +kernel
theorem dX11_soonest_48 : decode cX11_soonest 48 = .ok (.istore 4, 2) := by decide +kernel
theorem dX11_soonest_50 : decode cX11_soonest 50 = .ok (.iload 4, 2) := by decide +kernel
theorem dX11_soonest_52 : decode cX11_soonest 52 = .ok (.iconst (-1), 1) := by decide +kernel
theorem dX11_soonest_53 : decode cX11_soonest 53 = .ok (.if_icmp .ne 8, 3) := by decide +kernel
theorem dX11_soonest_56 : decode cX11_soonest 56 = .ok (.bipush (-2), 2) := by decide +kernel
theorem dX11_soonest_58 : decode cX11_soonest 58 = .ok (.goto 5, 3) := by decide +kernel
theorem dX11_soonest_61 : decode cX11_soonest 61 = .ok (.iload 4, 2) := by decide +kernel
theorem dX11_soonest_63 : decode cX11_soonest 63 = .ok (.ireturn, 1) := by decide +kernel
theorem dX11_rumour_0 : decode cX11_rumour 0 = .ok (.iload_n 3, 1) := by decide +kernel
theorem dX11_rumour_1 : decode cX11_rumour 1 = .ok (.iconst (-1), 1) := by decide +kernel
theorem dX11_rumour_2 : decode cX11_rumour 2 = .ok (.if_icmp .eq 20, 3) := by decide +kernel
theorem dX11_rumour_5 : decode cX11_rumour 5 = .ok (.iload_n 3, 1) := by decide +kernel
theorem dX11_rumour_6 : decode cX11_rumour 6 = .ok (.bipush 20, 2) := by decide +kernel
theorem dX11_rumour_8 : decode cX11_rumour 8 = .ok (.if_icmp .eq 14, 3) := by decide +kernel
theorem dX11_rumour_11 : decode cX11_rumour 11 = .ok (.aload_n 0, 1) := by decide +kernel
theorem dX11_rumour_12 : decode cX11_rumour 12 = .ok (.getfield 24, 3) := by decide +kernel
theorem dX11_rumour_15 : decode cX11_rumour 15 = .ok (.iload_n 3, 1) := by decide +kernel
theorem dX11_rumour_16 : decode cX11_rumour 16 = .ok (.invokevirtual 169, 3) := by decide +kernel
theorem dX11_rumour_19 : decode cX11_rumour 19 = .ok (.ifCond .eq 7, 3) := by decide +kernel
theorem dX11_rumour_22 : decode cX11_rumour 22 = .ok (.iconst 1, 1) := by decide +kernel
theorem dX11_rumour_23 : decode cX11_rumour 23 = .ok (.goto 4, 3) := by decide +kernel
theorem dX11_rumour_26 : decode cX11_rumour 26 = .ok (.iconst 0, 1) := by decide +kernel
theorem dX11_rumour_27 : decode cX11_rumour 27 = .ok (.istore 4, 2) := by decide +kernel
theorem dX11_rumour_29 : decode cX11_rumour 29 = .ok (.iload 4, 2) := by decide +kernel
theorem dX11_rumour_31 : decode cX11_rumour 31 = .ok (.ifCond .eq 21, 3) := by decide +kernel
theorem dX11_rumour_34 : decode cX11_rumour 34 = .ok (.iload_n 2, 1) := by decide +kernel
theorem dX11_rumour_35 : decode cX11_rumour 35 = .ok (.invokestatic 185, 3) := by decide +kernel
theorem dX11_rumour_38 : decode cX11_rumour 38 = .ok (.ifCond .eq 14, 3) := by decide +kernel
theorem dX11_rumour_41 : decode cX11_rumour 41 = .ok (.aload_n 0, 1) := by decide +kernel
theorem dX11_rumour_42 : decode cX11_rumour 42 = .ok (.getfield 24, 3) := by decide +kernel
theorem dX11_rumour_45 : decode cX11_rumour 45 = .ok (.iload_n 1, 1) := by decide +kernel
theorem dX11_rumour_46 : decode cX11_rumour 46 = .ok (.invokevirtual 188, 3) := by decide +kernel
theorem dX11_rumour_49 : decode cX11_rumour 49 = .ok (.ifCond .ne 6, 3) := by decide +kernel
theorem dX11_rumour_52 : decode cX11_rumour 52 = .ok (.bipush (-3), 2) := by decide +kernel
theorem dX11_rumour_54 : decode cX11_rumour 54 = .ok (.ireturn, 1) := by decide +kernel
theorem dX11_rumour_55 : decode cX11_rumour 55 = .ok (.aload_n 0, 1) := by decide +kernel
theorem dX11_rumour_56 : decode cX11_rumour 56 = .ok (.getfield 46, 3) := by decide +kernel
theorem dX11_rumour_59 : decode cX11_rumour 59 = .ok (.iload_n 1, 1) := by decide +kernel
theorem dX11_rumour_60 : decode cX11_rumour 60 = .ok (.iload_n 2, 1) := by decide +kernel
theorem dX11_rumour_61 : decode cX11_rumour 61 = .ok (.invokevirtual 191, 3) := by decide +kernel
theorem dX11_rumour_64 : decode cX11_rumour 64 = .ok (.iload_n 3, 1) := by decide +kernel
theorem dX11_rumour_65 : decode cX11_rumour 65 = .ok (.iconst (-1), 1) := by decide +kernel
theorem dX11_rumour_66 : decode cX11_rumour 66 = .ok (.if_icmp .ne 11, 3) := by decide +kernel
theorem dX11_rumour_69 : decode cX11_rumour 69 = .ok (.aload_n 0, 1) := by decide +kernel
theorem dX11_rumour_70 : decode cX11_rumour 70 = .ok (.getfield 46, 3) := by decide +kernel
theorem dX11_rumour_73 : decode cX11_rumour 73 = .ok (.invokevirtual 197, 3) := by decide +kernel
theorem dX11_rumour_76 : decode cX11_rumour 76 = .ok (.ireturn, 1) := by decide +kernel
theorem dX11_rumour_77 : decode cX11_rumour 77 = .ok (.iload_n 3, 1) := by decide +kernel
theorem dX11_rumour_78 : decode cX11_rumour 78 = .ok (.bipush 20, 2) := by decide +kernel
theorem dX11_rumour_80 : decode cX11_rumour 80 = .ok (.if_icmp .ne 11, 3) := by decide +kernel
theorem dX11_rumour_83 : decode cX11_rumour 83 = .ok (.aload_n 0, 1) := by decide +kernel
theorem dX11_rumour_84 : decode cX11_rumour 84 = .ok (.getfield 46, 3) := by decide +kernel
theorem dX11_rumour_87 : decode cX11_rumour 87 = .ok (.invokevirtual 200, 3) := by decide +kernel
theorem dX11_rumour_90 : decode cX11_rumour 90 = .ok (.ireturn, 1) := by decide +kernel
theorem dX11_rumour_91 : decode cX11_rumour 91 = .ok (.aload_n 0, 1) := by decide +kernel
theorem dX11_rumour_92 : decode cX11_rumour 92 = .ok (.getfield 46, 3) := by decide +kernel
theorem dX11_rumour_95 : decode cX11_rumour 95 = .ok (.iload_n 3, 1) := by decide +kernel
theorem dX11_rumour_96 : decode cX11_rumour 96 = .ok (.invokevirtual 194, 3) := by decide +kernel
theorem dX11_rumour_99 : decode cX11_rumour 99 = .ok (.iconst (-1), 1) := by decide +kernel
theorem dX11_rumour_100 : decode cX11_rumour 100 = .ok (.if_icmp .ne 8, 3) := by decide +kernel
theorem dX11_rumour_103 : decode cX11_rumour 103 = .ok (.bipush (-2), 2) := by decide +kernel
theorem dX11_rumour_105 : decode cX11_rumour 105 = .ok (.goto 11, 3) := by decide +kernel
theorem dX11_rumour_108 : decode cX11_rumour 108 = .ok (.aload_n 0, 1) := by decide +kernel
theorem dX11_rumour_109 : decode cX11_rumour 109 = .ok (.getfield 46, 3) := by decide +kernel
theorem dX11_rumour_112 : decode cX11_rumour 112 = .ok (.iload_n 3, 1) := by decide +kernel
theorem dX11_rumour_113 : decode cX11_rumour 113 = .ok (.invokevirtual 203, 3) := by decide +kernel
theorem dX11_rumour_116 : decode cX11_rumour 116 = .ok (.ireturn, 1) := by decide +kernel
theorem dX11_speech_0 : decode cX11_speech 0 = .ok (.iload_n 1, 1) := by decide +kernel
theorem dX11_speech_1 : decode cX11_speech 1 = .ok (.invokestatic 206, 3) := by decide +kernel
theorem dX11_speech_4 : decode cX11_speech 4 = .ok (.ifCond .eq 24, 3) := by decide +kernel
theorem dX11_speech_7 : decode cX11_speech 7 = .ok (.iload_n 2, 1) := by decide +kernel
theorem dX11_speech_8 : decode cX11_speech 8 = .ok (.invokestatic 175, 3) := by decide +kernel
theorem dX11_speech_11 : decode cX11_speech 11 = .ok (.ifCond .eq 17, 3) := by decide +kernel
theorem dX11_speech_14 : decode cX11_speech 14 = .ok (.iload_n 3, 1) := by decide +kernel
theorem dX11_speech_15 : decode cX11_speech 15 = .ok (.iconst 1, 1) := by decide +kernel
theorem dX11_speech_16 : decode cX11_speech 16 = .ok (.if_icmp .lt 12, 3) := by decide +kernel
theorem dX11_speech_19 : decode cX11_speech 19 = .ok (.iload_n 3, 1) := by decide +kernel
theorem dX11_speech_20 : decode cX11_speech 20 = .ok (.iconst 5, 1) := by decide +kernel
theorem dX11_speech_21 : decode cX11_speech 21 = .ok (.if_icmp .gt 7, 3) := by decide +kernel
theorem dX11_speech_24 : decode cX11_speech 24 = .ok (.iconst 1, 1) := by decide +kernel
theorem dX11_speech_25 : decode cX11_speech 25 = .ok (.goto 4, 3) := by decide +kernel
theorem dX11_speech_28 : decode cX11_speech 28 = .ok (.iconst 0, 1) := by decide +kernel
theorem dX11_speech_29 : decode cX11_speech 29 = .ok (.istore 4, 2) := by decide +kernel
theorem dX11_speech_31 : decode cX11_speech 31 = .ok (.iload 4, 2) := by decide +kernel
theorem dX11_speech_33 : decode cX11_speech 33 = .ok (.ifCond .eq 16, 3) := by decide +kernel
theorem dX11_speech_36 : decode cX11_speech 36 = .ok (.aload_n 0, 1) := by decide +kernel
theorem dX11_speech_37 : decode cX11_speech 37 = .ok (.getfield 46, 3) := by decide +kernel
theorem dX11_speech_40 : decode cX11_speech 40 = .ok (.iload_n 1, 1) := by decide +kernel
theorem dX11_speech_41 : decode cX11_speech 41 = .ok (.iload_n 2, 1) := by decide +kernel
theorem dX11_speech_42 : decode cX11_speech 42 = .ok (.iload_n 3, 1) := by decide +kernel
theorem dX11_speech_43 : decode cX11_speech 43 = .ok (.invokevirtual 209, 3) := by decide +kernel
theorem dX11_speech_46 : decode cX11_speech 46 = .ok (.goto 4, 3) := by decide +kernel
theorem dX11_speech_49 : decode cX11_speech 49 = .ok (.iconst (-1), 1) := by decide +kernel
theorem dX11_speech_50 : decode cX11_speech 50 = .ok (.ireturn, 1) := by decide +kernel
theorem dX11_heard_0 : decode cX11_heard 0 = .ok (.iload_n 1, 1) := by decide +kernel
theorem dX11_heard_1 : decode cX11_heard 1 = .ok (.invokestatic 88, 3) := by decide +kernel
theorem dX11_heard_4 : decode cX11_heard 4 = .ok (.ifCond .eq 22, 3) := by decide +kernel
theorem dX11_heard_7 : decode cX11_heard 7 = .ok (.iload_n 2, 1) := by decide +kernel
theorem dX11_heard_8 : decode cX11_heard 8 = .ok (.invokestatic 175, 3) := by decide +kernel
theorem dX11_heard_11 : decode cX11_heard 11 = .ok (.ifCond .eq 15, 3) := by decide +kernel
theorem dX11_heard_14 : decode cX11_heard 14 = .ok (.aload_n 0, 1) := by decide +kernel
theorem dX11_heard_15 : decode cX11_heard 15 = .ok (.getfield 46, 3) := by decide +kernel
theorem dX11_heard_18 : decode cX11_heard 18 = .ok (.iload_n 1, 1) := by decide +kernel
theorem dX11_heard_19 : decode cX11_heard 19 = .ok (.iload_n 2, 1) := by decide +kernel
theorem dX11_heard_20 : decode cX11_heard 20 = .ok (.invokevirtual 212, 3) := by decide +kernel
theorem dX11_heard_23 : decode cX11_heard 23 = .ok (.goto 4, 3) := by decide +kernel
theorem dX11_heard_26 : decode cX11_heard 26 = .ok (.iconst (-1), 1) := by decide +kernel
theorem dX11_heard_27 : decode cX11_heard 27 = .ok (.ireturn, 1) := by decide +kernel
theorem dX11_smuggled_0 : decode cX11_smuggled 0 = .ok (.iload_n 3, 1) := by decide +kernel
theorem dX11_smuggled_1 : decode cX11_smuggled 1 = .ok (.bipush 10, 2) := by decide +kernel
theorem dX11_smuggled_3 : decode cX11_smuggled 3 = .ok (.if_icmp .lt 13, 3) := by decide +kernel
theorem dX11_smuggled_6 : decode cX11_smuggled 6 = .ok (.iload_n 3, 1) := by decide +kernel
theorem dX11_smuggled_7 : decode cX11_smuggled 7 = .ok (.bipush 16, 2) := by decide +kernel
theorem dX11_smuggled_9 : decode cX11_smuggled 9 = .ok (.if_icmp .gt 7, 3) := by decide +kernel
theorem dX11_smuggled_12 : decode cX11_smuggled 12 = .ok (.iconst 1, 1) := by decide +kernel
theorem dX11_smuggled_13 : decode cX11_smuggled 13 = .ok (.goto 4, 3) := by decide +kernel
theorem dX11_smuggled_16 : decode cX11_smuggled 16 = .ok (.iconst 0, 1) := by decide +kernel
theorem dX11_smuggled_17 : decode cX11_smuggled 17 = .ok (.istore 4, 2) := by decide +kernel
theorem dX11_smuggled_19 : decode cX11_smuggled 19 = .ok (.iload 4, 2) := by decide +kernel
theorem dX11_smuggled_21 : decode cX11_smuggled 21 = .ok (.ifCond .ne 12, 3) := by decide +kernel
theorem dX11_smuggled_24 : decode cX11_smuggled 24 = .ok (.iload_n 3, 1) := by decide +kernel
theorem dX11_smuggled_25 : decode cX11_smuggled 25 = .ok (.ifCond .lt 12, 3) := by decide +kernel
theorem dX11_smuggled_28 : decode cX11_smuggled 28 = .ok (.iload_n 3, 1) := by decide +kernel
theorem dX11_smuggled_29 : decode cX11_smuggled 29 = .ok (.iconst 2, 1) := by decide +kernel
theorem dX11_smuggled_30 : decode cX11_smuggled 30 = .ok (.if_icmp .gt 7, 3) := by decide +kernel
theorem dX11_smuggled_33 : decode cX11_smuggled 33 = .ok (.iconst 1, 1) := by decide +kernel
theorem dX11_smuggled_34 : decode cX11_smuggled 34 = .ok (.goto 4, 3) := by decide +kernel
theorem dX11_smuggled_37 : decode cX11_smuggled 37 = .ok (.iconst 0, 1) := by decide +kernel
theorem dX11_smuggled_38 : decode cX11_smuggled 38 = .ok (.istore 5, 2) := by decide +kernel
theorem dX11_smuggled_40 : decode cX11_smuggled 40 = .ok (.iload 5, 2) := by decide +kernel
theorem dX11_smuggled_42 : decode cX11_smuggled 42 = .ok (.ifCond .eq 30, 3) := by decide +kernel
theorem dX11_smuggled_45 : decode cX11_smuggled 45 = .ok (.iload_n 1, 1) := by decide +kernel
theorem dX11_smuggled_46 : decode cX11_smuggled 46 = .ok (.iload_n 2, 1) := by decide +kernel
theorem dX11_smuggled_47 : decode cX11_smuggled 47 = .ok (.if_icmp .eq 25, 3) := by decide +kernel
theorem dX11_smuggled_50 : decode cX11_smuggled 50 = .ok (.aload_n 0, 1) := by decide +kernel
theorem dX11_smuggled_51 : decode cX11_smuggled 51 = .ok (.getfield 24, 3) := by decide +kernel
theorem dX11_smuggled_54 : decode cX11_smuggled 54 = .ok (.iload_n 1, 1) := by decide +kernel
theorem dX11_smuggled_55 : decode cX11_smuggled 55 = .ok (.invokevirtual 188, 3) := by decide +kernel
theorem dX11_smuggled_58 : decode cX11_smuggled 58 = .ok (.ifCond .eq 14, 3) := by decide +kernel
theorem dX11_smuggled_61 : decode cX11_smuggled 61 = .ok (.aload_n 0, 1) := by decide +kernel
theorem dX11_smuggled_62 : decode cX11_smuggled 62 = .ok (.getfield 24, 3) := by decide +kernel
theorem dX11_smuggled_65 : decode cX11_smuggled 65 = .ok (.iload_n 2, 1) := by decide +kernel
theorem dX11_smuggled_66 : decode cX11_smuggled 66 = .ok (.invokevirtual 188, 3) := by decide +kernel
theorem dX11_smuggled_69 : decode cX11_smuggled 69 = .ok (.ifCond .ne 7, 3) := by decide +kernel
theorem dX11_smuggled_72 : decode cX11_smuggled 72 = .ok (.ldc2_w 215, 3) := by decide +kernel
theorem dX11_smuggled_75 : decode cX11_smuggled 75 = .ok (.lreturn, 1) := by decide +kernel
theorem dX11_smuggled_76 : decode cX11_smuggled 76 = .ok (.aload_n 0, 1) := by decide +kernel
theorem dX11_smuggled_77 : decode cX11_smuggled 77 = .ok (.getfield 53, 3) := by decide +kernel
theorem dX11_smuggled_80 : decode cX11_smuggled 80 = .ok (.iload_n 1, 1) := by decide +kernel
theorem dX11_smuggled_81 : decode cX11_smuggled 81 = .ok (.iload_n 2, 1) := by decide +kernel
theorem dX11_smuggled_82 : decode cX11_smuggled 82 = .ok (.invokevirtual 217, 3) := by decide +kernel
theorem dX11_smuggled_85 : decode cX11_smuggled 85 = .ok (.ifCond .ne 7, 3) := by decide +kernel
theorem dX11_smuggled_88 : decode cX11_smuggled 88 = .ok (.ldc2_w 220, 3) := by decide +kernel
theorem dX11_smuggled_91 : decode cX11_smuggled 91 = .ok (.lreturn, 1) := by decide +kernel
theorem dX11_smuggled_92 : decode cX11_smuggled 92 = .ok (.iload 4, 2) := by decide +kernel
theorem dX11_smuggled_94 : decode cX11_smuggled 94 = .ok (.ifCond .eq 16, 3) := by decide +kernel
theorem dX11_smuggled_97 : decode cX11_smuggled 97 = .ok (.aload_n 0, 1) := by decide +kernel
theorem dX11_smuggled_98 : decode cX11_smuggled 98 = .ok (.getfield 53, 3) := by decide +kernel
theorem dX11_smuggled_101 : decode cX11_smuggled 101 = .ok (.iload_n 3, 1) := by decide +kernel
theorem dX11_smuggled_102 : decode cX11_smuggled 102 = .ok (.bipush 10, 2) := by decide +kernel
theorem dX11_smuggled_104 : decode cX11_smuggled 104 = .ok (.isub, 1) := by decide +kernel
theorem dX11_smuggled_105 : decode cX11_smuggled 105 = .ok (.invokevirtual 222, 3) := by decide +kernel
theorem dX11_smuggled_108 : decode cX11_smuggled 108 = .ok (.i2l, 1) := by decide +kernel
theorem dX11_smuggled_109 : decode cX11_smuggled 109 = .ok (.lreturn, 1) := by decide +kernel
theorem dX11_smuggled_110 : decode cX11_smuggled 110 = .ok (.iload_n 3, 1) := by decide +kernel
theorem dX11_smuggled_111 : decode cX11_smuggled 111 = .ok (.iconst 2, 1) := by decide +kernel
theorem dX11_smuggled_112 : decode cX11_smuggled 112 = .ok (.if_icmp .ne 12, 3) := by decide +kernel
theorem dX11_smuggled_115 : decode cX11_smuggled 115 = .ok (.aload_n 0, 1) := by decide +kernel
theorem dX11_smuggled_116 : decode cX11_smuggled 116 = .ok (.getfield 53, 3) := by decide +kernel
theorem dX11_smuggled_119 : decode cX11_smuggled 119 = .ok (.invokevirtual 225, 3) := by decide +kernel
theorem dX11_smuggled_122 : decode cX11_smuggled 122 = .ok (.i2l, 1) := by decide +kernel
theorem dX11_smuggled_123 : decode cX11_smuggled 123 = .ok (.lreturn, 1) := by decide +kernel
theorem dX11_smuggled_124 : decode cX11_smuggled 124 = .ok (.iload_n 3, 1) := by decide +kernel
theorem dX11_smuggled_125 : decode cX11_smuggled 125 = .ok (.ifCond .ne 13, 3) := by decide +kernel
theorem dX11_smuggled_128 : decode cX11_smuggled 128 = .ok (.aload_n 0, 1) := by decide +kernel
theorem dX11_smuggled_129 : decode cX11_smuggled 129 = .ok (.getfield 53, 3) := by decide +kernel
theorem dX11_smuggled_132 : decode cX11_smuggled 132 = .ok (.invokevirtual 228, 3) := by decide +kernel
theorem dX11_smuggled_135 : decode cX11_smuggled 135 = .ok (.goto 10, 3) := by decide +kernel
theorem dX11_smuggled_138 : decode cX11_smuggled 138 = .ok (.aload_n 0, 1) := by decide +kernel
theorem dX11_smuggled_139 : decode cX11_smuggled 139 = .ok (.getfield 53, 3) := by decide +kernel
theorem dX11_smuggled_142 : decode cX11_smuggled 142 = .ok (.invokevirtual 232, 3) := by decide +kernel
theorem dX11_smuggled_145 : decode cX11_smuggled 145 = .ok (.lreturn, 1) := by decide +kernel
theorem dX11_sum_0 : decode cX11_sum 0 = .ok (.aload_n 0, 1) := by decide +kernel
theorem dX11_sum_1 : decode cX11_sum 1 = .ok (.getfield 60, 3) := by decide +kernel
theorem dX11_sum_4 : decode cX11_sum 4 = .ok (.iconst 0, 1) := by decide +kernel
theorem dX11_sum_5 : decode cX11_sum 5 = .ok (.invokevirtual 235, 3) := by decide +kernel
theorem dX11_sum_8 : decode cX11_sum 8 = .ok (.ireturn, 1) := by decide +kernel
theorem dX11_seating_0 : decode cX11_seating 0 = .ok (.aload_n 0, 1) := by decide +kernel
theorem dX11_seating_1 : decode cX11_seating 1 = .ok (.getfield 60, 3) := by decide +kernel
theorem dX11_seating_4 : decode cX11_seating 4 = .ok (.iload_n 1, 1) := by decide +kernel
theorem dX11_seating_5 : decode cX11_seating 5 = .ok (.iload_n 2, 1) := by decide +kernel
theorem dX11_seating_6 : decode cX11_seating 6 = .ok (.invokevirtual 238, 3) := by decide +kernel
theorem dX11_seating_9 : decode cX11_seating 9 = .ok (.ifCond .eq 14, 3) := by decide +kernel
theorem dX11_seating_12 : decode cX11_seating 12 = .ok (.iload_n 2, 1) := by decide +kernel
theorem dX11_seating_13 : decode cX11_seating 13 = .ok (.aload_n 0, 1) := by decide +kernel
theorem dX11_seating_14 : decode cX11_seating 14 = .ok (.getfield 18, 3) := by decide +kernel
theorem dX11_seating_17 : decode cX11_seating 17 = .ok (.invokevirtual 130, 3) := by decide +kernel
theorem dX11_seating_20 : decode cX11_seating 20 = .ok (.if_icmp .le 6, 3) := by decide +kernel
theorem dX11_seating_23 : decode cX11_seating 23 = .ok (.ldc 241, 2) := by decide +kernel
theorem dX11_seating_25 : decode cX11_seating 25 = .ok (.ireturn, 1) := by decide +kernel
theorem dX11_seating_26 : decode cX11_seating 26 = .ok (.iload_n 3, 1) := by decide +kernel
theorem dX11_seating_27 : decode cX11_seating 27 = .ok (.iconst (-1), 1) := by decide +kernel
theorem dX11_seating_28 : decode cX11_seating 28 = .ok (.if_icmp .eq 24, 3) := by decide +kernel
theorem dX11_seating_31 : decode cX11_seating 31 = .ok (.iload_n 3, 1) := by decide +kernel
theorem dX11_seating_32 : decode cX11_seating 32 = .ok (.bipush 16, 2) := by decide +kernel
theorem dX11_seating_34 : decode cX11_seating 34 = .ok (.if_icmp .eq 18, 3) := by decide +kernel
theorem dX11_seating_37 : decode cX11_seating 37 = .ok (.aload_n 0, 1) := by decide +kernel
theorem dX11_seating_38 : decode cX11_seating 38 = .ok (.getfield 60, 3) := by decide +kernel
theorem dX11_seating_41 : decode cX11_seating 41 = .ok (.iload_n 1, 1) := by decide +kernel
theorem dX11_seating_42 : decode cX11_seating 42 = .ok (.iload_n 3, 1) := by decide +kernel
theorem dX11_seating_43 : decode cX11_seating 43 = .ok (.invokevirtual 242, 3) := by decide +kernel
theorem dX11_seating_46 : decode cX11_seating 46 = .ok (.ifCond .ne 6, 3) := by decide +kernel
theorem dX11_seating_49 : decode cX11_seating 49 = .ok (.ldc 241, 2) := by decide +kernel
theorem dX11_seating_51 : decode cX11_seating 51 = .ok (.ireturn, 1) := by decide +kernel
theorem dX11_seating_52 : decode cX11_seating 52 = .ok (.aload_n 0, 1) := by decide +kernel
theorem dX11_seating_53 : decode cX11_seating 53 = .ok (.getfield 60, 3) := by decide +kernel
theorem dX11_seating_56 : decode cX11_seating 56 = .ok (.iload_n 1, 1) := by decide +kernel
theorem dX11_seating_57 : decode cX11_seating 57 = .ok (.aload_n 0, 1) := by decide +kernel
theorem dX11_seating_58 : decode cX11_seating 58 = .ok (.getfield 18, 3) := by decide +kernel
theorem dX11_seating_61 : decode cX11_seating 61 = .ok (.invokevirtual 245, 3) := by decide +kernel
theorem dX11_seating_64 : decode cX11_seating 64 = .ok (.istore 4, 2) := by decide +kernel
theorem dX11_seating_66 : decode cX11_seating 66 = .ok (.aload_n 0, 1) := by decide +kernel
theorem dX11_seating_67 : decode cX11_seating 67 = .ok (.getfield 18, 3) := by decide +kernel
theorem dX11_seating_70 : decode cX11_seating 70 = .ok (.invokevirtual 139, 3) := by decide +kernel
theorem dX11_seating_73 : decode cX11_seating 73 = .ok (.iload 4, 2) := by decide +kernel
theorem dX11_seating_75 : decode cX11_seating 75 = .ok (.ifCond .ne 6, 3) := by decide +kernel
theorem dX11_seating_78 : decode cX11_seating 78 = .ok (.ldc 249, 2) := by decide +kernel
theorem dX11_seating_80 : decode cX11_seating 80 = .ok (.ireturn, 1) := by decide +kernel
theorem dX11_seating_81 : decode cX11_seating 81 = .ok (.aload_n 0, 1) := by decide +kernel
theorem dX11_seating_82 : decode cX11_seating 82 = .ok (.getfield 60, 3) := by decide +kernel
theorem dX11_seating_85 : decode cX11_seating 85 = .ok (.invokevirtual 250, 3) := by decide +kernel
theorem dX11_seating_88 : decode cX11_seating 88 = .ok (.istore 5, 2) := by decide +kernel
theorem dX11_seating_90 : decode cX11_seating 90 = .ok (.iload_n 3, 1) := by decide +kernel
theorem dX11_seating_91 : decode cX11_seating 91 = .ok (.bipush 16, 2) := by decide +kernel
theorem dX11_seating_93 : decode cX11_seating 93 = .ok (.if_icmp .ne 10, 3) := by decide +kernel
theorem dX11_seating_96 : decode cX11_seating 96 = .ok (.aload_n 0, 1) := by decide +kernel
theorem dX11_seating_97 : decode cX11_seating 97 = .ok (.getfield 60, 3) := by decide +kernel
theorem dX11_seating_100 : decode cX11_seating 100 = .ok (.invokevirtual 253, 3) := by decide +kernel
theorem dX11_seating_103 : decode cX11_seating 103 = .ok (.iload_n 3, 1) := by decide +kernel
theorem dX11_seating_104 : decode cX11_seating 104 = .ok (.iconst (-1), 1) := by decide +kernel
theorem dX11_seating_105 : decode cX11_seating 105 = .ok (.if_icmp .eq 9, 3) := by decide +kernel
theorem dX11_seating_108 : decode cX11_seating 108 = .ok (.iload_n 3, 1) := by decide +kernel
theorem dX11_seating_109 : decode cX11_seating 109 = .ok (.bipush 16, 2) := by decide +kernel
theorem dX11_seating_111 : decode cX11_seating 111 = .ok (.if_icmp .ne 8, 3) := by decide +kernel
theorem dX11_seating_114 : decode cX11_seating 114 = .ok (.iload 5, 2) := by decide +kernel
theorem dX11_seating_116 : decode cX11_seating 116 = .ok (.goto 11, 3) := by decide +kernel
theorem dX11_seating_119 : decode cX11_seating 119 = .ok (.aload_n 0, 1) := by decide +kernel
theorem dX11_seating_120 : decode cX11_seating 120 = .ok (.getfield 60, 3) := by decide +kernel
theorem dX11_seating_123 : decode cX11_seating 123 = .ok (.iload_n 3, 1) := by decide +kernel
theorem dX11_seating_124 : decode cX11_seating 124 = .ok (.invokevirtual 256, 3) := by decide +kernel
theorem dX11_seating_127 : decode cX11_seating 127 = .ok (.ireturn, 1) := by decide +kernel
theorem dX11_exchange_0 : decode cX11_exchange 0 = .ok (.iload_n 1, 1) := by decide +kernel
theorem dX11_exchange_1 : decode cX11_exchange 1 = .ok (.ifCond .lt 8, 3) := by decide +kernel
theorem dX11_exchange_4 : decode cX11_exchange 4 = .ok (.iload_n 1, 1) := by decide +kernel
theorem dX11_exchange_5 : decode cX11_exchange 5 = .ok (.iconst 2, 1) := by decide +kernel
theorem dX11_exchange_6 : decode cX11_exchange 6 = .ok (.if_icmp .le 6, 3) := by decide +kernel
theorem dX11_exchange_9 : decode cX11_exchange 9 = .ok (.ldc 241, 2) := by decide +kernel
theorem dX11_exchange_11 : decode cX11_exchange 11 = .ok (.ireturn, 1) := by decide +kernel
theorem dX11_exchange_12 : decode cX11_exchange 12 = .ok (.aload_n 0, 1) := by decide +kernel
theorem dX11_exchange_13 : decode cX11_exchange 13 = .ok (.getfield 60, 3) := by decide +kernel
theorem dX11_exchange_16 : decode cX11_exchange 16 = .ok (.invokevirtual 259, 3) := by decide +kernel
theorem dX11_exchange_19 : decode cX11_exchange 19 = .ok (.istore_n 2, 1) := by decide +kernel
theorem dX11_exchange_20 : decode cX11_exchange 20 = .ok (.iload_n 1, 1) := by decide +kernel
theorem dX11_exchange_21 : decode cX11_exchange 21 = .ok (.iconst 2, 1) := by decide +kernel
theorem dX11_exchange_22 : decode cX11_exchange 22 = .ok (.if_icmp .ne 11, 3) := by decide +kernel
theorem dX11_exchange_25 : decode cX11_exchange 25 = .ok (.aload_n 0, 1) := by decide +kernel
theorem dX11_exchange_26 : decode cX11_exchange 26 = .ok (.getfield 60, 3) := by decide +kernel
theorem dX11_exchange_29 : decode cX11_exchange 29 = .ok (.invokevirtual 261, 3) := by decide +kernel
theorem dX11_exchange_32 : decode cX11_exchange 32 = .ok (.ireturn, 1) := by decide +kernel
theorem dX11_exchange_33 : decode cX11_exchange 33 = .ok (.iload_n 2, 1) := by decide +kernel
theorem dX11_exchange_34 : decode cX11_exchange 34 = .ok (.ifCond .ne 6, 3) := by decide +kernel
theorem dX11_exchange_37 : decode cX11_exchange 37 = .ok (.bipush (-2), 2) := by decide +kernel
theorem dX11_exchange_39 : decode cX11_exchange 39 = .ok (.ireturn, 1) := by decide +kernel
theorem dX11_exchange_40 : decode cX11_exchange 40 = .ok (.iload_n 1, 1) := by decide +kernel
theorem dX11_exchange_41 : decode cX11_exchange 41 = .ok (.ifCond .ne 13, 3) := by decide +kernel
theorem dX11_exchange_44 : decode cX11_exchange 44 = .ok (.aload_n 0, 1) := by decide +kernel
theorem dX11_exchange_45 : decode cX11_exchange 45 = .ok (.getfield 60, 3) := by decide +kernel
theorem dX11_exchange_48 : decode cX11_exchange 48 = .ok (.invokevirtual 264, 3) := by decide +kernel
theorem dX11_exchange_51 : decode cX11_exchange 51 = .ok (.goto 10, 3) := by decide +kernel
theorem dX11_exchange_54 : decode cX11_exchange 54 = .ok (.aload_n 0, 1) := by decide +kernel
theorem dX11_exchange_55 : decode cX11_exchange 55 = .ok (.getfield 60, 3) := by decide +kernel
theorem dX11_exchange_58 : decode cX11_exchange 58 = .ok (.invokevirtual 267, 3) := by decide +kernel
theorem dX11_exchange_61 : decode cX11_exchange 61 = .ok (.ireturn, 1) := by decide +kernel
theorem dX11_strays_0 : decode cX11_strays 0 = .ok (.iconst 0, 1) := by decide +kernel
theorem dX11_strays_1 : decode cX11_strays 1 = .ok (.istore_n 1, 1) := by decide +kernel
theorem dX11_strays_2 : decode cX11_strays 2 = .ok (.iconst 0, 1) := by decide +kernel
theorem dX11_strays_3 : decode cX11_strays 3 = .ok (.istore_n 2, 1) := by decide +kernel
theorem dX11_strays_4 : decode cX11_strays 4 = .ok (.iload_n 2, 1) := by decide +kernel
theorem dX11_strays_5 : decode cX11_strays 5 = .ok (.aload_n 0, 1) := by decide +kernel
theorem dX11_strays_6 : decode cX11_strays 6 = .ok (.getfield 24, 3) := by decide +kernel
theorem dX11_strays_9 : decode cX11_strays 9 = .ok (.invokevirtual 273, 3) := by decide +kernel
theorem dX11_strays_12 : decode cX11_strays 12 = .ok (.if_icmp .ge 26, 3) := by decide +kernel
theorem dX11_strays_15 : decode cX11_strays 15 = .ok (.aload_n 0, 1) := by decide +kernel
theorem dX11_strays_16 : decode cX11_strays 16 = .ok (.getfield 24, 3) := by decide +kernel
theorem dX11_strays_19 : decode cX11_strays 19 = .ok (.iload_n 2, 1) := by decide +kernel
theorem dX11_strays_20 : decode cX11_strays 20 = .ok (.invokevirtual 276, 3) := by decide +kernel
theorem dX11_strays_23 : decode cX11_strays 23 = .ok (.ifCond .eq 9, 3) := by decide +kernel
theorem dX11_strays_26 : decode cX11_strays 26 = .ok (.iload_n 1, 1) := by decide +kernel
theorem dX11_strays_27 : decode cX11_strays 27 = .ok (.iconst 1, 1) := by decide +kernel
theorem dX11_strays_28 : decode cX11_strays 28 = .ok (.iload_n 2, 1) := by decide +kernel
theorem dX11_strays_29 : decode cX11_strays 29 = .ok (.ishl, 1) := by decide +kernel
theorem dX11_strays_30 : decode cX11_strays 30 = .ok (.ior, 1) := by decide +kernel
theorem dX11_strays_31 : decode cX11_strays 31 = .ok (.istore_n 1, 1) := by decide +kernel
theorem dX11_strays_32 : decode cX11_strays 32 = .ok (.iinc 2 1, 3) := by decide +kernel
theorem dX11_strays_35 : decode cX11_strays 35 = .ok (.goto (-31), 3) := by decide +kernel
theorem dX11_strays_38 : decode cX11_strays 38 = .ok (.iload_n 1, 1) := by decide +kernel
theorem dX11_strays_39 : decode cX11_strays 39 = .ok (.ireturn, 1) := by decide +kernel
theorem dX11_home_0 : decode cX11_home 0 = .ok (.iconst 0, 1) := by decide +kernel
theorem dX11_home_1 : decode cX11_home 1 = .ok (.istore_n 1, 1) := by decide +kernel
theorem dX11_home_2 : decode cX11_home 2 = .ok (.iconst 0, 1) := by decide +kernel
theorem dX11_home_3 : decode cX11_home 3 = .ok (.istore_n 2, 1) := by decide +kernel
theorem dX11_home_4 : decode cX11_home 4 = .ok (.iconst 0, 1) := by decide +kernel
theorem dX11_home_5 : decode cX11_home 5 = .ok (.istore_n 3, 1) := by decide +kernel
theorem dX11_home_6 : decode cX11_home 6 = .ok (.iload_n 3, 1) := by decide +kernel
theorem dX11_home_7 : decode cX11_home 7 = .ok (.aload_n 0, 1) := by decide +kernel
theorem dX11_home_8 : decode cX11_home 8 = .ok (.getfield 24, 3) := by decide +kernel
theorem dX11_home_11 : decode cX11_home 11 = .ok (.invokevirtual 273, 3) := by decide +kernel
theorem dX11_home_14 : decode cX11_home 14 = .ok (.if_icmp .ge 51, 3) := by decide +kernel
theorem dX11_home_17 : decode cX11_home 17 = .ok (.aload_n 0, 1) := by decide +kernel
theorem dX11_home_18 : decode cX11_home 18 = .ok (.getfield 24, 3) := by decide +kernel
theorem dX11_home_21 : decode cX11_home 21 = .ok (.iload_n 3, 1) := by decide +kernel
theorem dX11_home_22 : decode cX11_home 22 = .ok (.invokevirtual 276, 3) := by decide +kernel
theorem dX11_home_25 : decode cX11_home 25 = .ok (.ifCond .eq 20, 3) := by decide +kernel
theorem dX11_home_28 : decode cX11_home 28 = .ok (.aload_n 0, 1) := by decide +kernel
theorem dX11_home_29 : decode cX11_home 29 = .ok (.getfield 24, 3) := by decide +kernel
theorem dX11_home_32 : decode cX11_home 32 = .ok (.iload_n 3, 1) := by decide +kernel
theorem dX11_home_33 : decode cX11_home 33 = .ok (.invokevirtual 279, 3) := by decide +kernel
theorem dX11_home_36 : decode cX11_home 36 = .ok (.ifCond .ne 9, 3) := by decide +kernel
theorem dX11_home_39 : decode cX11_home 39 = .ok (.iinc 1 1, 3) := by decide +kernel
theorem dX11_home_42 : decode cX11_home 42 = .ok (.goto 17, 3) := by decide +kernel
theorem dX11_home_45 : decode cX11_home 45 = .ok (.aload_n 0, 1) := by decide +kernel
theorem dX11_home_46 : decode cX11_home 46 = .ok (.getfield 24, 3) := by decide +kernel
theorem dX11_home_49 : decode cX11_home 49 = .ok (.iload_n 3, 1) := by decide +kernel
theorem dX11_home_50 : decode cX11_home 50 = .ok (.invokevirtual 276, 3) := by decide +kernel
theorem dX11_home_53 : decode cX11_home 53 = .ok (.ifCond .eq 6, 3) := by decide +kernel
theorem dX11_home_56 : decode cX11_home 56 = .ok (.iinc 2 1, 3) := by decide +kernel
theorem dX11_home_59 : decode cX11_home 59 = .ok (.iinc 3 1, 3) := by decide +kernel
theorem dX11_home_62 : decode cX11_home 62 = .ok (.goto (-56), 3) := by decide +kernel
theorem dX11_home_65 : decode cX11_home 65 = .ok (.iload_n 1, 1) := by decide +kernel
theorem dX11_home_66 : decode cX11_home 66 = .ok (.iload_n 2, 1) := by decide +kernel
theorem dX11_home_67 : decode cX11_home 67 = .ok (.invokestatic 282, 3) := by decide +kernel
theorem dX11_home_70 : decode cX11_home 70 = .ok (.ireturn, 1) := by decide +kernel
theorem dX11_heir_0 : decode cX11_heir 0 = .ok (.aload_n 0, 1) := by decide +kernel
theorem dX11_heir_1 : decode cX11_heir 1 = .ok (.getfield 24, 3) := by decide +kernel
theorem dX11_heir_4 : decode cX11_heir 4 = .ok (.iload_n 1, 1) := by decide +kernel
theorem dX11_heir_5 : decode cX11_heir 5 = .ok (.invokevirtual 169, 3) := by decide +kernel
theorem dX11_heir_8 : decode cX11_heir 8 = .ok (.ifCond .eq 24, 3) := by decide +kernel
theorem dX11_heir_11 : decode cX11_heir 11 = .ok (.iload_n 1, 1) := by decide +kernel
theorem dX11_heir_12 : decode cX11_heir 12 = .ok (.iload_n 2, 1) := by decide +kernel
theorem dX11_heir_13 : decode cX11_heir 13 = .ok (.if_icmp .eq 19, 3) := by decide +kernel
theorem dX11_heir_16 : decode cX11_heir 16 = .ok (.iload_n 2, 1) := by decide +kernel
theorem dX11_heir_17 : decode cX11_heir 17 = .ok (.iconst (-1), 1) := by decide +kernel
theorem dX11_heir_18 : decode cX11_heir 18 = .ok (.if_icmp .eq 16, 3) := by decide +kernel
theorem dX11_heir_21 : decode cX11_heir 21 = .ok (.aload_n 0, 1) := by decide +kernel
theorem dX11_heir_22 : decode cX11_heir 22 = .ok (.getfield 24, 3) := by decide +kernel
theorem dX11_heir_25 : decode cX11_heir 25 = .ok (.iload_n 2, 1) := by decide +kernel
theorem dX11_heir_26 : decode cX11_heir 26 = .ok (.invokevirtual 169, 3) := by decide +kernel
theorem dX11_heir_29 : decode cX11_heir 29 = .ok (.ifCond .ne 5, 3) := by decide +kernel
theorem dX11_heir_32 : decode cX11_heir 32 = .ok (.iconst 0, 1) := by decide +kernel
theorem dX11_heir_33 : decode cX11_heir 33 = .ok (.ireturn, 1) := by decide +kernel
theorem dX11_heir_34 : decode cX11_heir 34 = .ok (.aload_n 0, 1) := by decide +kernel
theorem dX11_heir_35 : decode cX11_heir 35 = .ok (.getfield 24, 3) := by decide +kernel
theorem dX11_heir_38 : decode cX11_heir 38 = .ok (.iload_n 1, 1) := by decide +kernel
theorem dX11_heir_39 : decode cX11_heir 39 = .ok (.iload_n 2, 1) := by decide +kernel
theorem dX11_heir_40 : decode cX11_heir 40 = .ok (.invokevirtual 287, 3) := by decide +kernel
theorem dX11_heir_43 : decode cX11_heir 43 = .ok (.iconst 1, 1) := by decide +kernel
theorem dX11_heir_44 : decode cX11_heir 44 = .ok (.ireturn, 1) := by decide +kernel
theorem dX11_dies_0 : decode cX11_dies 0 = .ok (.aload_n 0, 1) := by decide +kernel
theorem dX11_dies_1 : decode cX11_dies 1 = .ok (.getfield 24, 3) := by decide +kernel
theorem dX11_dies_4 : decode cX11_dies 4 = .ok (.iload_n 1, 1) := by decide +kernel
theorem dX11_dies_5 : decode cX11_dies 5 = .ok (.invokevirtual 117, 3) := by decide +kernel
theorem dX11_dies_8 : decode cX11_dies 8 = .ok (.ifCond .ne 5, 3) := by decide +kernel
theorem dX11_dies_11 : decode cX11_dies 11 = .ok (.iconst (-1), 1) := by decide +kernel
theorem dX11_dies_12 : decode cX11_dies 12 = .ok (.ireturn, 1) := by decide +kernel
theorem dX11_dies_13 : decode cX11_dies 13 = .ok (.aload_n 0, 1) := by decide +kernel
theorem dX11_dies_14 : decode cX11_dies 14 = .ok (.getfield 24, 3) := by decide +kernel
theorem dX11_dies_17 : decode cX11_dies 17 = .ok (.iload_n 1, 1) := by decide +kernel
theorem dX11_dies_18 : decode cX11_dies 18 = .ok (.invokevirtual 154, 3) := by decide +kernel
theorem dX11_dies_21 : decode cX11_dies 21 = .ok (.istore_n 2, 1) := by decide +kernel
theorem dX11_dies_22 : decode cX11_dies 22 = .ok (.aload_n 0, 1) := by decide +kernel
theorem dX11_dies_23 : decode cX11_dies 23 = .ok (.getfield 24, 3) := by decide +kernel
theorem dX11_dies_26 : decode cX11_dies 26 = .ok (.iload_n 1, 1) := by decide +kernel
theorem dX11_dies_27 : decode cX11_dies 27 = .ok (.invokevirtual 290, 3) := by decide +kernel
theorem dX11_dies_30 : decode cX11_dies 30 = .ok (.aload_n 0, 1) := by decide +kernel
theorem dX11_dies_31 : decode cX11_dies 31 = .ok (.getfield 24, 3) := by decide +kernel
theorem dX11_dies_34 : decode cX11_dies 34 = .ok (.iload_n 1, 1) := by decide +kernel
theorem dX11_dies_35 : decode cX11_dies 35 = .ok (.invokevirtual 293, 3) := by decide +kernel
theorem dX11_dies_38 : decode cX11_dies 38 = .ok (.istore_n 3, 1) := by decide +kernel
theorem dX11_dies_39 : decode cX11_dies 39 = .ok (.iconst 0, 1) := by decide +kernel
theorem dX11_dies_40 : decode cX11_dies 40 = .ok (.istore 4, 2) := by decide +kernel
theorem dX11_dies_42 : decode cX11_dies 42 = .ok (.iload 4, 2) := by decide +kernel
theorem dX11_dies_44 : decode cX11_dies 44 = .ok (.bipush 15, 2) := by decide +kernel
theorem dX11_dies_46 : decode cX11_dies 46 = .ok (.if_icmp .ge 61, 3) := by decide +kernel
theorem dX11_dies_49 : decode cX11_dies 49 = .ok (.iload_n 2, 1) := by decide +kernel
theorem dX11_dies_50 : decode cX11_dies 50 = .ok (.iconst (-1), 1) := by decide +kernel
theorem dX11_dies_51 : decode cX11_dies 51 = .ok (.if_icmp .eq 56, 3) := by decide +kernel
theorem dX11_dies_54 : decode cX11_dies 54 = .ok (.iload_n 3, 1) := by decide +kernel
theorem dX11_dies_55 : decode cX11_dies 55 = .ok (.iconst (-1), 1) := by decide +kernel
theorem dX11_dies_56 : decode cX11_dies 56 = .ok (.if_icmp .eq 51, 3) := by decide +kernel
theorem dX11_dies_59 : decode cX11_dies 59 = .ok (.aload_n 0, 1) := by decide +kernel
theorem dX11_dies_60 : decode cX11_dies 60 = .ok (.getfield 24, 3) := by decide +kernel
theorem dX11_dies_63 : decode cX11_dies 63 = .ok (.iload_n 3, 1) := by decide +kernel
theorem dX11_dies_64 : decode cX11_dies 64 = .ok (.invokevirtual 117, 3) := by decide +kernel
theorem dX11_dies_67 : decode cX11_dies 67 = .ok (.ifCond .eq 25, 3) := by decide +kernel
theorem dX11_dies_70 : decode cX11_dies 70 = .ok (.aload_n 0, 1) := by decide +kernel
theorem dX11_dies_71 : decode cX11_dies 71 = .ok (.getfield 24, 3) := by decide +kernel
theorem dX11_dies_74 : decode cX11_dies 74 = .ok (.iload_n 3, 1) := by decide +kernel
theorem dX11_dies_75 : decode cX11_dies 75 = .ok (.invokevirtual 188, 3) := by decide +kernel
theorem dX11_dies_78 : decode cX11_dies 78 = .ok (.ifCond .ne 14, 3) := by decide +kernel
theorem dX11_dies_81 : decode cX11_dies 81 = .ok (.aload_n 0, 1) := by decide +kernel
theorem dX11_dies_82 : decode cX11_dies 82 = .ok (.getfield 24, 3) := by decide +kernel
theorem dX11_dies_85 : decode cX11_dies 85 = .ok (.iload_n 3, 1) := by decide +kernel
theorem dX11_dies_86 : decode cX11_dies 86 = .ok (.iload_n 2, 1) := by decide +kernel
theorem dX11_dies_87 : decode cX11_dies 87 = .ok (.invokevirtual 120, 3) := by decide +kernel
theorem dX11_dies_90 : decode cX11_dies 90 = .ok (.iload_n 3, 1) := by decide +kernel
theorem dX11_dies_91 : decode cX11_dies 91 = .ok (.ireturn, 1) := by decide +kernel
theorem dX11_dies_92 : decode cX11_dies 92 = .ok (.aload_n 0, 1) := by decide +kernel
theorem dX11_dies_93 : decode cX11_dies 93 = .ok (.getfield 24, 3) := by decide +kernel
theorem dX11_dies_96 : decode cX11_dies 96 = .ok (.iload_n 3, 1) := by decide +kernel
theorem dX11_dies_97 : decode cX11_dies 97 = .ok (.invokevirtual 293, 3) := by decide +kernel
theorem dX11_dies_100 : decode cX11_dies 100 = .ok (.istore_n 3, 1) := by decide +kernel
theorem dX11_dies_101 : decode cX11_dies 101 = .ok (.iinc 4 1, 3) := by decide +kernel
theorem dX11_dies_104 : decode cX11_dies 104 = .ok (.goto (-62), 3) := by decide +kernel
theorem dX11_dies_107 : decode cX11_dies 107 = .ok (.bipush (-2), 2) := by decide +kernel
theorem dX11_dies_109 : decode cX11_dies 109 = .ok (.ireturn, 1) := by decide +kernel
theorem dX11_knives_0 : decode cX11_knives 0 = .ok (.iload_n 1, 1) := by decide +kernel
theorem dX11_knives_1 : decode cX11_knives 1 = .ok (.invokestatic 88, 3) := by decide +kernel
theorem dX11_knives_4 : decode cX11_knives 4 = .ok (.ifCond .eq 13, 3) := by decide +kernel
theorem dX11_knives_7 : decode cX11_knives 7 = .ok (.iload_n 2, 1) := by decide +kernel
theorem dX11_knives_8 : decode cX11_knives 8 = .ok (.ifCond .lt 9, 3) := by decide +kernel
theorem dX11_knives_11 : decode cX11_knives 11 = .ok (.iload_n 2, 1) := by decide +kernel
theorem dX11_knives_12 : decode cX11_knives 12 = .ok (.bipush 9, 2) := by decide +kernel
theorem dX11_knives_14 : decode cX11_knives 14 = .ok (.if_icmp .le 5, 3) := by decide +kernel
theorem dX11_knives_17 : decode cX11_knives 17 = .ok (.iconst 0, 1) := by decide +kernel
theorem dX11_knives_18 : decode cX11_knives 18 = .ok (.ireturn, 1) := by decide +kernel
theorem dX11_knives_19 : decode cX11_knives 19 = .ok (.aload_n 0, 1) := by decide +kernel
theorem dX11_knives_20 : decode cX11_knives 20 = .ok (.getfield 67, 3) := by decide +kernel
theorem dX11_knives_23 : decode cX11_knives 23 = .ok (.iload_n 1, 1) := by decide +kernel
theorem dX11_knives_24 : decode cX11_knives 24 = .ok (.iload_n 2, 1) := by decide +kernel
theorem dX11_knives_25 : decode cX11_knives 25 = .ok (.invokevirtual 296, 3) := by decide +kernel
theorem dX11_knives_28 : decode cX11_knives 28 = .ok (.iconst 1, 1) := by decide +kernel
theorem dX11_knives_29 : decode cX11_knives 29 = .ok (.ireturn, 1) := by decide +kernel
theorem dX11_put_0 : decode cX11_put 0 = .ok (.iload_n 1, 1) := by decide +kernel
theorem dX11_put_1 : decode cX11_put 1 = .ok (.invokestatic 88, 3) := by decide +kernel
theorem dX11_put_4 : decode cX11_put 4 = .ok (.ifCond .eq 37, 3) := by decide +kernel
theorem dX11_put_7 : decode cX11_put 7 = .ok (.iload_n 2, 1) := by decide +kernel
theorem dX11_put_8 : decode cX11_put 8 = .ok (.invokestatic 88, 3) := by decide +kernel
theorem dX11_put_11 : decode cX11_put 11 = .ok (.ifCond .eq 30, 3) := by decide +kernel
theorem dX11_put_14 : decode cX11_put 14 = .ok (.iload_n 1, 1) := by decide +kernel
theorem dX11_put_15 : decode cX11_put 15 = .ok (.iload_n 2, 1) := by decide +kernel
theorem dX11_put_16 : decode cX11_put 16 = .ok (.if_icmp .eq 25, 3) := by decide +kernel
theorem dX11_put_19 : decode cX11_put 19 = .ok (.iload_n 3, 1) := by decide +kernel
theorem dX11_put_20 : decode cX11_put 20 = .ok (.iconst 1, 1) := by decide +kernel
theorem dX11_put_21 : decode cX11_put 21 = .ok (.if_icmp .lt 20, 3) := by decide +kernel
theorem dX11_put_24 : decode cX11_put 24 = .ok (.aload_n 0, 1) := by decide +kernel
theorem dX11_put_25 : decode cX11_put 25 = .ok (.getfield 67, 3) := by decide +kernel
theorem dX11_put_28 : decode cX11_put 28 = .ok (.iload_n 1, 1) := by decide +kernel
theorem dX11_put_29 : decode cX11_put 29 = .ok (.iload_n 2, 1) := by decide +kernel
theorem dX11_put_30 : decode cX11_put 30 = .ok (.iload_n 3, 1) := by decide +kernel
theorem dX11_put_31 : decode cX11_put 31 = .ok (.invokevirtual 299, 3) := by decide +kernel
theorem dX11_put_34 : decode cX11_put 34 = .ok (.ifCond .eq 7, 3) := by decide +kernel
theorem dX11_put_37 : decode cX11_put 37 = .ok (.iconst 1, 1) := by decide +kernel
theorem dX11_put_38 : decode cX11_put 38 = .ok (.goto 4, 3) := by decide +kernel
theorem dX11_put_41 : decode cX11_put 41 = .ok (.iconst 0, 1) := by decide +kernel
theorem dX11_put_42 : decode cX11_put 42 = .ok (.ireturn, 1) := by decide +kernel
theorem dX11_counted_0 : decode cX11_counted 0 = .ok (.iload_n 1, 1) := by decide +kernel
theorem dX11_counted_1 : decode cX11_counted 1 = .ok (.ifCond .eq 8, 3) := by decide +kernel
theorem dX11_counted_4 : decode cX11_counted 4 = .ok (.iload_n 1, 1) := by decide +kernel
theorem dX11_counted_5 : decode cX11_counted 5 = .ok (.iconst 1, 1) := by decide +kernel
theorem dX11_counted_6 : decode cX11_counted 6 = .ok (.if_icmp .ne 28, 3) := by decide +kernel
theorem dX11_counted_9 : decode cX11_counted 9 = .ok (.iload_n 2, 1) := by decide +kernel
theorem dX11_counted_10 : decode cX11_counted 10 = .ok (.iload_n 3, 1) := by decide +kernel
theorem dX11_counted_11 : decode cX11_counted 11 = .ok (.invokestatic 178, 3) := by decide +kernel
theorem dX11_counted_14 : decode cX11_counted 14 = .ok (.ifCond .eq 20, 3) := by decide +kernel
theorem dX11_counted_17 : decode cX11_counted 17 = .ok (.iload 4, 2) := by decide +kernel
theorem dX11_counted_19 : decode cX11_counted 19 = .ok (.ifCond .lt 15, 3) := by decide +kernel
theorem dX11_counted_22 : decode cX11_counted 22 = .ok (.iload 4, 2) := by decide +kernel
theorem dX11_counted_24 : decode cX11_counted 24 = .ok (.sipush 999, 3) := by decide +kernel
theorem dX11_counted_27 : decode cX11_counted 27 = .ok (.if_icmp .gt 7, 3) := by decide +kernel
theorem dX11_counted_30 : decode cX11_counted 30 = .ok (.iconst 1, 1) := by decide +kernel
theorem dX11_counted_31 : decode cX11_counted 31 = .ok (.goto 4, 3) := by decide +kernel
theorem dX11_counted_34 : decode cX11_counted 34 = .ok (.iconst 0, 1) := by decide +kernel
theorem dX11_counted_35 : decode cX11_counted 35 = .ok (.istore 5, 2) := by decide +kernel
theorem dX11_counted_37 : decode cX11_counted 37 = .ok (.iload 5, 2) := by decide +kernel
theorem dX11_counted_39 : decode cX11_counted 39 = .ok (.ifCond .eq 18, 3) := by decide +kernel
theorem dX11_counted_42 : decode cX11_counted 42 = .ok (.aload_n 0, 1) := by decide +kernel
theorem dX11_counted_43 : decode cX11_counted 43 = .ok (.getfield 67, 3) := by decide +kernel
theorem dX11_counted_46 : decode cX11_counted 46 = .ok (.iload_n 1, 1) := by decide +kernel
theorem dX11_counted_47 : decode cX11_counted 47 = .ok (.iload_n 2, 1) := by decide +kernel
theorem dX11_counted_48 : decode cX11_counted 48 = .ok (.iload_n 3, 1) := by decide +kernel
theorem dX11_counted_49 : decode cX11_counted 49 = .ok (.iload 4, 2) := by decide +kernel
theorem dX11_counted_51 : decode cX11_counted 51 = .ok (.invokevirtual 303, 3) := by decide +kernel
theorem dX11_counted_54 : decode cX11_counted 54 = .ok (.goto 4, 3) := by decide +kernel
theorem dX11_counted_57 : decode cX11_counted 57 = .ok (.iconst (-1), 1) := by decide +kernel
theorem dX11_counted_58 : decode cX11_counted 58 = .ok (.ireturn, 1) := by decide +kernel
theorem dX11_missing_0 : decode cX11_missing 0 = .ok (.aload_n 0, 1) := by decide +kernel
theorem dX11_missing_1 : decode cX11_missing 1 = .ok (.getfield 67, 3) := by decide +kernel
theorem dX11_missing_4 : decode cX11_missing 4 = .ok (.iload_n 1, 1) := by decide +kernel
theorem dX11_missing_5 : decode cX11_missing 5 = .ok (.invokevirtual 307, 3) := by decide +kernel
theorem dX11_missing_8 : decode cX11_missing 8 = .ok (.ifCond .eq 14, 3) := by decide +kernel
theorem dX11_missing_11 : decode cX11_missing 11 = .ok (.aload_n 0, 1) := by decide +kernel
theorem dX11_missing_12 : decode cX11_missing 12 = .ok (.getfield 67, 3) := by decide +kernel
theorem dX11_missing_15 : decode cX11_missing 15 = .ok (.iload_n 1, 1) := by decide +kernel
theorem dX11_missing_16 : decode cX11_missing 16 = .ok (.invokevirtual 310, 3) := by decide +kernel
theorem dX11_missing_19 : decode cX11_missing 19 = .ok (.goto 6, 3) := by decide +kernel
theorem dX11_missing_22 : decode cX11_missing 22 = .ok (.ldc_w 313, 3) := by decide +kernel
theorem dX11_missing_25 : decode cX11_missing 25 = .ok (.ireturn, 1) := by decide +kernel
theorem dX11_wrong_0 : decode cX11_wrong 0 = .ok (.aload_n 0, 1) := by decide +kernel
theorem dX11_wrong_1 : decode cX11_wrong 1 = .ok (.getfield 67, 3) := by decide +kernel
theorem dX11_wrong_4 : decode cX11_wrong 4 = .ok (.invokevirtual 314, 3) := by decide +kernel
theorem dX11_wrong_7 : decode cX11_wrong 7 = .ok (.ireturn, 1) := by decide +kernel
theorem dX11_gives_0 : decode cX11_gives 0 = .ok (.aload_n 0, 1) := by decide +kernel
theorem dX11_gives_1 : decode cX11_gives 1 = .ok (.getfield 24, 3) := by decide +kernel
theorem dX11_gives_4 : decode cX11_gives 4 = .ok (.iload_n 1, 1) := by decide +kernel
theorem dX11_gives_5 : decode cX11_gives 5 = .ok (.invokevirtual 169, 3) := by decide +kernel
theorem dX11_gives_8 : decode cX11_gives 8 = .ok (.ifCond .eq 10, 3) := by decide +kernel
theorem dX11_gives_11 : decode cX11_gives 11 = .ok (.iload_n 2, 1) := by decide +kernel
theorem dX11_gives_12 : decode cX11_gives 12 = .ok (.invokestatic 317, 3) := by decide +kernel
theorem dX11_gives_15 : decode cX11_gives 15 = .ok (.ifCond .ne 5, 3) := by decide +kernel
theorem dX11_gives_18 : decode cX11_gives 18 = .ok (.iconst (-1), 1) := by decide +kernel
theorem dX11_gives_19 : decode cX11_gives 19 = .ok (.ireturn, 1) := by decide +kernel
theorem dX11_gives_20 : decode cX11_gives 20 = .ok (.aload_n 0, 1) := by decide +kernel
theorem dX11_gives_21 : decode cX11_gives 21 = .ok (.getfield 24, 3) := by decide +kernel
theorem dX11_gives_24 : decode cX11_gives 24 = .ok (.iload_n 1, 1) := by decide +kernel
theorem dX11_gives_25 : decode cX11_gives 25 = .ok (.invokevirtual 188, 3) := by decide +kernel
theorem dX11_gives_28 : decode cX11_gives 28 = .ok (.ifCond .eq 15, 3) := by decide +kernel
theorem dX11_gives_31 : decode cX11_gives 31 = .ok (.aload_n 0, 1) := by decide +kernel
theorem dX11_gives_32 : decode cX11_gives 32 = .ok (.getfield 74, 3) := by decide +kernel
theorem dX11_gives_35 : decode cX11_gives 35 = .ok (.iload_n 1, 1) := by decide +kernel
theorem dX11_gives_36 : decode cX11_gives 36 = .ok (.iload_n 2, 1) := by decide +kernel
theorem dX11_gives_37 : decode cX11_gives 37 = .ok (.invokevirtual 320, 3) := by decide +kernel
theorem dX11_gives_40 : decode cX11_gives 40 = .ok (.ifCond .ne 6, 3) := by decide +kernel
theorem dX11_gives_43 : decode cX11_gives 43 = .ok (.bipush (-2), 2) := by decide +kernel
theorem dX11_gives_45 : decode cX11_gives 45 = .ok (.ireturn, 1) := by decide +kernel
theorem dX11_gives_46 : decode cX11_gives 46 = .ok (.aload_n 0, 1) := by decide +kernel
theorem dX11_gives_47 : decode cX11_gives 47 = .ok (.getfield 74, 3) := by decide +kernel
theorem dX11_gives_50 : decode cX11_gives 50 = .ok (.iload_n 1, 1) := by decide +kernel
theorem dX11_gives_51 : decode cX11_gives 51 = .ok (.iload_n 2, 1) := by decide +kernel
theorem dX11_gives_52 : decode cX11_gives 52 = .ok (.invokevirtual 322, 3) := by decide +kernel
theorem dX11_gives_55 : decode cX11_gives 55 = .ok (.aload_n 0, 1) := by decide +kernel
theorem dX11_gives_56 : decode cX11_gives 56 = .ok (.getfield 74, 3) := by decide +kernel
theorem dX11_gives_59 : decode cX11_gives 59 = .ok (.iload_n 1, 1) := by decide +kernel
theorem dX11_gives_60 : decode cX11_gives 60 = .ok (.invokevirtual 325, 3) := by decide +kernel
theorem dX11_gives_63 : decode cX11_gives 63 = .ok (.ireturn, 1) := by decide +kernel
theorem dX11_passes_0 : decode cX11_passes 0 = .ok (.aload_n 0, 1) := by decide +kernel
theorem dX11_passes_1 : decode cX11_passes 1 = .ok (.iload_n 1, 1) := by decide +kernel
theorem dX11_passes_2 : decode cX11_passes 2 = .ok (.iload_n 2, 1) := by decide +kernel
theorem dX11_passes_3 : decode cX11_passes 3 = .ok (.invokevirtual 106, 3) := by decide +kernel
theorem dX11_passes_6 : decode cX11_passes 6 = .ok (.ifCond .eq 20, 3) := by decide +kernel
theorem dX11_passes_9 : decode cX11_passes 9 = .ok (.iload_n 3, 1) := by decide +kernel
theorem dX11_passes_10 : decode cX11_passes 10 = .ok (.invokestatic 317, 3) := by decide +kernel
theorem dX11_passes_13 : decode cX11_passes 13 = .ok (.ifCond .eq 13, 3) := by decide +kernel
theorem dX11_passes_16 : decode cX11_passes 16 = .ok (.aload_n 0, 1) := by decide +kernel
theorem dX11_passes_17 : decode cX11_passes 17 = .ok (.iload_n 1, 1) := by decide +kernel
theorem dX11_passes_18 : decode cX11_passes 18 = .ok (.iload_n 2, 1) := by decide +kernel
theorem dX11_passes_19 : decode cX11_passes 19 = .ok (.iload_n 3, 1) := by decide +kernel
theorem dX11_passes_20 : decode cX11_passes 20 = .ok (.invokevirtual 328, 3) := by decide +kernel
theorem dX11_passes_23 : decode cX11_passes 23 = .ok (.goto 4, 3) := by decide +kernel
theorem dX11_passes_26 : decode cX11_passes 26 = .ok (.iconst (-1), 1) := by decide +kernel
theorem dX11_passes_27 : decode cX11_passes 27 = .ok (.ireturn, 1) := by decide +kernel
theorem dX11_eats_0 : decode cX11_eats 0 = .ok (.aload_n 0, 1) := by decide +kernel
theorem dX11_eats_1 : decode cX11_eats 1 = .ok (.getfield 24, 3) := by decide +kernel
theorem dX11_eats_4 : decode cX11_eats 4 = .ok (.iload_n 1, 1) := by decide +kernel
theorem dX11_eats_5 : decode cX11_eats 5 = .ok (.invokevirtual 169, 3) := by decide +kernel
theorem dX11_eats_8 : decode cX11_eats 8 = .ok (.ifCond .eq 10, 3) := by decide +kernel
theorem dX11_eats_11 : decode cX11_eats 11 = .ok (.iload_n 2, 1) := by decide +kernel
theorem dX11_eats_12 : decode cX11_eats 12 = .ok (.invokestatic 317, 3) := by decide +kernel
theorem dX11_eats_15 : decode cX11_eats 15 = .ok (.ifCond .ne 5, 3) := by decide +kernel
theorem dX11_eats_18 : decode cX11_eats 18 = .ok (.iconst (-1), 1) := by decide +kernel
theorem dX11_eats_19 : decode cX11_eats 19 = .ok (.ireturn, 1) := by decide +kernel
theorem dX11_eats_20 : decode cX11_eats 20 = .ok (.aload_n 0, 1) := by decide +kernel
theorem dX11_eats_21 : decode cX11_eats 21 = .ok (.getfield 74, 3) := by decide +kernel
theorem dX11_eats_24 : decode cX11_eats 24 = .ok (.iload_n 1, 1) := by decide +kernel
theorem dX11_eats_25 : decode cX11_eats 25 = .ok (.invokevirtual 325, 3) := by decide +kernel
theorem dX11_eats_28 : decode cX11_eats 28 = .ok (.iload_n 2, 1) := by decide +kernel
theorem dX11_eats_29 : decode cX11_eats 29 = .ok (.if_icmp .ge 6, 3) := by decide +kernel
theorem dX11_eats_32 : decode cX11_eats 32 = .ok (.bipush (-3), 2) := by decide +kernel
theorem dX11_eats_34 : decode cX11_eats 34 = .ok (.ireturn, 1) := by decide +kernel
theorem dX11_eats_35 : decode cX11_eats 35 = .ok (.aload_n 0, 1) := by decide +kernel
theorem dX11_eats_36 : decode cX11_eats 36 = .ok (.getfield 74, 3) := by decide +kernel
theorem dX11_eats_39 : decode cX11_eats 39 = .ok (.iload_n 1, 1) := by decide +kernel
theorem dX11_eats_40 : decode cX11_eats 40 = .ok (.iload_n 2, 1) := by decide +kernel
theorem dX11_eats_41 : decode cX11_eats 41 = .ok (.invokevirtual 331, 3) := by decide +kernel
theorem dX11_eats_44 : decode cX11_eats 44 = .ok (.aload_n 0, 1) := by decide +kernel
theorem dX11_eats_45 : decode cX11_eats 45 = .ok (.getfield 74, 3) := by decide +kernel
theorem dX11_eats_48 : decode cX11_eats 48 = .ok (.iload_n 1, 1) := by decide +kernel
theorem dX11_eats_49 : decode cX11_eats 49 = .ok (.invokevirtual 325, 3) := by decide +kernel
theorem dX11_eats_52 : decode cX11_eats 52 = .ok (.ireturn, 1) := by decide +kernel
theorem dX11_fed_0 : decode cX11_fed 0 = .ok (.aload_n 0, 1) := by decide +kernel
theorem dX11_fed_1 : decode cX11_fed 1 = .ok (.iload_n 1, 1) := by decide +kernel
theorem dX11_fed_2 : decode cX11_fed 2 = .ok (.iload_n 2, 1) := by decide +kernel
theorem dX11_fed_3 : decode cX11_fed 3 = .ok (.invokevirtual 106, 3) := by decide +kernel
theorem dX11_fed_6 : decode cX11_fed 6 = .ok (.ifCond .eq 15, 3) := by decide +kernel
theorem dX11_fed_9 : decode cX11_fed 9 = .ok (.aload_n 0, 1) := by decide +kernel
theorem dX11_fed_10 : decode cX11_fed 10 = .ok (.getfield 74, 3) := by decide +kernel
theorem dX11_fed_13 : decode cX11_fed 13 = .ok (.iload_n 1, 1) := by decide +kernel
theorem dX11_fed_14 : decode cX11_fed 14 = .ok (.iload_n 2, 1) := by decide +kernel
theorem dX11_fed_15 : decode cX11_fed 15 = .ok (.invokevirtual 334, 3) := by decide +kernel
theorem dX11_fed_18 : decode cX11_fed 18 = .ok (.goto 4, 3) := by decide +kernel
theorem dX11_fed_21 : decode cX11_fed 21 = .ok (.iconst (-1), 1) := by decide +kernel
theorem dX11_fed_22 : decode cX11_fed 22 = .ok (.ireturn, 1) := by decide +kernel
theorem dX11_led_0 : decode cX11_led 0 = .ok (.aload_n 0, 1) := by decide +kernel
theorem dX11_led_1 : decode cX11_led 1 = .ok (.getfield 24, 3) := by decide +kernel
theorem dX11_led_4 : decode cX11_led 4 = .ok (.iload_n 1, 1) := by decide +kernel
theorem dX11_led_5 : decode cX11_led 5 = .ok (.invokevirtual 169, 3) := by decide +kernel
theorem dX11_led_8 : decode cX11_led 8 = .ok (.ifCond .eq 15, 3) := by decide +kernel
theorem dX11_led_11 : decode cX11_led 11 = .ok (.aload_n 0, 1) := by decide +kernel
theorem dX11_led_12 : decode cX11_led 12 = .ok (.getfield 74, 3) := by decide +kernel
theorem dX11_led_15 : decode cX11_led 15 = .ok (.iload_n 1, 1) := by decide +kernel
theorem dX11_led_16 : decode cX11_led 16 = .ok (.iload_n 2, 1) := by decide +kernel
theorem dX11_led_17 : decode cX11_led 17 = .ok (.invokevirtual 337, 3) := by decide +kernel
theorem dX11_led_20 : decode cX11_led 20 = .ok (.goto 4, 3) := by decide +kernel
theorem dX11_led_23 : decode cX11_led 23 = .ok (.iconst (-1), 1) := by decide +kernel
theorem dX11_led_24 : decode cX11_led 24 = .ok (.ireturn, 1) := by decide +kernel
theorem dX11_seed_0 : decode cX11_seed 0 = .ok (.iload_n 1, 1) := by decide +kernel
theorem dX11_seed_1 : decode cX11_seed 1 = .ok (.ifCond .lt 10, 3) := by decide +kernel
theorem dX11_seed_4 : decode cX11_seed 4 = .ok (.iload_n 1, 1) := by decide +kernel
theorem dX11_seed_5 : decode cX11_seed 5 = .ok (.ldc_w 340, 3) := by decide +kernel
theorem dX11_seed_8 : decode cX11_seed 8 = .ok (.if_icmp .le 5, 3) := by decide +kernel
theorem dX11_seed_11 : decode cX11_seed 11 = .ok (.iconst 0, 1) := by decide +kernel
theorem dX11_seed_12 : decode cX11_seed 12 = .ok (.ireturn, 1) := by decide +kernel
theorem dX11_seed_13 : decode cX11_seed 13 = .ok (.aload_n 0, 1) := by decide +kernel
theorem dX11_seed_14 : decode cX11_seed 14 = .ok (.iload_n 1, 1) := by decide +kernel
theorem dX11_seed_15 : decode cX11_seed 15 = .ok (.putfield 78, 3) := by decide +kernel
theorem dX11_seed_18 : decode cX11_seed 18 = .ok (.iconst 1, 1) := by decide +kernel
theorem dX11_seed_19 : decode cX11_seed 19 = .ok (.ireturn, 1) := by decide +kernel
theorem dX11_draw_0 : decode cX11_draw 0 = .ok (.iload_n 1, 1) := by decide +kernel
theorem dX11_draw_1 : decode cX11_draw 1 = .ok (.iconst 1, 1) := by decide +kernel
theorem dX11_draw_2 : decode cX11_draw 2 = .ok (.if_icmp .lt 9, 3) := by decide +kernel
theorem dX11_draw_5 : decode cX11_draw 5 = .ok (.iload_n 1, 1) := by decide +kernel
theorem dX11_draw_6 : decode cX11_draw 6 = .ok (.bipush 60, 2) := by decide +kernel
theorem dX11_draw_8 : decode cX11_draw 8 = .ok (.if_icmp .le 5, 3) := by decide +kernel
theorem dX11_draw_11 : decode cX11_draw 11 = .ok (.iconst (-1), 1) := by decide +kernel
theorem dX11_draw_12 : decode cX11_draw 12 = .ok (.ireturn, 1) := by decide +kernel
theorem dX11_draw_13 : decode cX11_draw 13 = .ok (.iconst 0, 1) := by decide +kernel
theorem dX11_draw_14 : decode cX11_draw 14 = .ok (.istore_n 2, 1) := by decide +kernel
theorem dX11_draw_15 : decode cX11_draw 15 = .ok (.iconst 0, 1) := by decide +kernel
theorem dX11_draw_16 : decode cX11_draw 16 = .ok (.istore_n 3, 1) := by decide +kernel
theorem dX11_draw_17 : decode cX11_draw 17 = .ok (.iload_n 3, 1) := by decide +kernel
theorem dX11_draw_18 : decode cX11_draw 18 = .ok (.iload_n 1, 1) := by decide +kernel
theorem dX11_draw_19 : decode cX11_draw 19 = .ok (.if_icmp .ge 89, 3) := by decide +kernel
theorem dX11_draw_22 : decode cX11_draw 22 = .ok (.aload_n 0, 1) := by decide +kernel
theorem dX11_draw_23 : decode cX11_draw 23 = .ok (.sipush 25173, 3) := by decide +kernel
theorem dX11_draw_26 : decode cX11_draw 26 = .ok (.aload_n 0, 1) := by decide +kernel
theorem dX11_draw_27 : decode cX11_draw 27 = .ok (.getfield 78, 3) := by decide +kernel
theorem dX11_draw_30 : decode cX11_draw 30 = .ok (.imul, 1) := by decide +kernel
theorem dX11_draw_31 : decode cX11_draw 31 = .ok (.sipush 13849, 3) := by decide +kernel
theorem dX11_draw_34 : decode cX11_draw 34 = .ok (.iadd, 1) := by decide +kernel
theorem dX11_draw_35 : decode cX11_draw 35 = .ok (.ldc_w 340, 3) := by decide +kernel
theorem dX11_draw_38 : decode cX11_draw 38 = .ok (.iand, 1) := by decide +kernel
theorem dX11_draw_39 : decode cX11_draw 39 = .ok (.putfield 78, 3) := by decide +kernel
theorem dX11_draw_42 : decode cX11_draw 42 = .ok (.aload_n 0, 1) := by decide +kernel
theorem dX11_draw_43 : decode cX11_draw 43 = .ok (.getfield 78, 3) := by decide +kernel
theorem dX11_draw_46 : decode cX11_draw 46 = .ok (.bipush 16, 2) := by decide +kernel
theorem dX11_draw_48 : decode cX11_draw 48 = .ok (.irem, 1) := by decide +kernel
theorem dX11_draw_49 : decode cX11_draw 49 = .ok (.istore 4, 2) := by decide +kernel
theorem dX11_draw_51 : decode cX11_draw 51 = .ok (.aload_n 0, 1) := by decide +kernel
theorem dX11_draw_52 : decode cX11_draw 52 = .ok (.getfield 24, 3) := by decide +kernel
theorem dX11_draw_55 : decode cX11_draw 55 = .ok (.aload_n 0, 1) := by decide +kernel
theorem dX11_draw_56 : decode cX11_draw 56 = .ok (.getfield 24, 3) := by decide +kernel
theorem dX11_draw_59 : decode cX11_draw 59 = .ok (.iload 4, 2) := by decide +kernel
theorem dX11_draw_61 : decode cX11_draw 61 = .ok (.invokevirtual 154, 3) := by decide +kernel
theorem dX11_draw_64 : decode cX11_draw 64 = .ok (.aload_n 0, 1) := by decide +kernel
theorem dX11_draw_65 : decode cX11_draw 65 = .ok (.getfield 78, 3) := by decide +kernel
theorem dX11_draw_68 : decode cX11_draw 68 = .ok (.bipush 16, 2) := by decide +kernel
theorem dX11_draw_70 : decode cX11_draw 70 = .ok (.idiv, 1) := by decide +kernel
theorem dX11_draw_71 : decode cX11_draw 71 = .ok (.iconst 3, 1) := by decide +kernel
theorem dX11_draw_72 : decode cX11_draw 72 = .ok (.irem, 1) := by decide +kernel
theorem dX11_draw_73 : decode cX11_draw 73 = .ok (.invokestatic 341, 3) := by decide +kernel
theorem dX11_draw_76 : decode cX11_draw 76 = .ok (.invokevirtual 98, 3) := by decide +kernel
theorem dX11_draw_79 : decode cX11_draw 79 = .ok (.istore 5, 2) := by decide +kernel
theorem dX11_draw_81 : decode cX11_draw 81 = .ok (.iload 5, 2) := by decide +kernel
theorem dX11_draw_83 : decode cX11_draw 83 = .ok (.iconst (-1), 1) := by decide +kernel
theorem dX11_draw_84 : decode cX11_draw 84 = .ok (.if_icmp .eq 18, 3) := by decide +kernel
theorem dX11_draw_87 : decode cX11_draw 87 = .ok (.aload_n 0, 1) := by decide +kernel
theorem dX11_draw_88 : decode cX11_draw 88 = .ok (.iload 4, 2) := by decide +kernel
theorem dX11_draw_90 : decode cX11_draw 90 = .ok (.iload 5, 2) := by decide +kernel
theorem dX11_draw_92 : decode cX11_draw 92 = .ok (.iconst 1, 1) := by decide +kernel
theorem dX11_draw_93 : decode cX11_draw 93 = .ok (.invokevirtual 328, 3) := by decide +kernel
theorem dX11_draw_96 : decode cX11_draw 96 = .ok (.ifCond .lt 6, 3) := by decide +kernel
theorem dX11_draw_99 : decode cX11_draw 99 = .ok (.iinc 2 1, 3) := by decide +kernel
theorem dX11_draw_102 : decode cX11_draw 102 = .ok (.iinc 3 1, 3) := by decide +kernel
theorem dX11_draw_105 : decode cX11_draw 105 = .ok (.goto (-88), 3) := by decide +kernel
theorem dX11_draw_108 : decode cX11_draw 108 = .ok (.iload_n 2, 1) := by decide +kernel
theorem dX11_draw_109 : decode cX11_draw 109 = .ok (.ireturn, 1) := by decide +kernel
theorem dX11_keep_0 : decode cX11_keep 0 = .ok (.aload_n 0, 1) := by decide +kernel
theorem dX11_keep_1 : decode cX11_keep 1 = .ok (.aload_n 0, 1) := by decide +kernel
theorem dX11_keep_2 : decode cX11_keep 2 = .ok (.getfield 24, 3) := by decide +kernel
theorem dX11_keep_5 : decode cX11_keep 5 = .ok (.invokevirtual 273, 3) := by decide +kernel
theorem dX11_keep_8 : decode cX11_keep 8 = .ok (.putfield 85, 3) := by decide +kernel
theorem dX11_keep_11 : decode cX11_keep 11 = .ok (.aload_n 0, 1) := by decide +kernel
theorem dX11_keep_12 : decode cX11_keep 12 = .ok (.aload_n 0, 1) := by decide +kernel
theorem dX11_keep_13 : decode cX11_keep 13 = .ok (.getfield 78, 3) := by decide +kernel
theorem dX11_keep_16 : decode cX11_keep 16 = .ok (.putfield 82, 3) := by decide +kernel
theorem dX11_keep_19 : decode cX11_keep 19 = .ok (.aload_n 0, 1) := by decide +kernel
theorem dX11_keep_20 : decode cX11_keep 20 = .ok (.getfield 24, 3) := by decide +kernel
theorem dX11_keep_23 : decode cX11_keep 23 = .ok (.invokevirtual 344, 3) := by decide +kernel
theorem dX11_keep_26 : decode cX11_keep 26 = .ok (.aload_n 0, 1) := by decide +kernel
theorem dX11_keep_27 : decode cX11_keep 27 = .ok (.getfield 67, 3) := by decide +kernel
theorem dX11_keep_30 : decode cX11_keep 30 = .ok (.invokevirtual 347, 3) := by decide +kernel
theorem dX11_keep_33 : decode cX11_keep 33 = .ok (.aload_n 0, 1) := by decide +kernel
theorem dX11_keep_34 : decode cX11_keep 34 = .ok (.getfield 74, 3) := by decide +kernel
theorem dX11_keep_37 : decode cX11_keep 37 = .ok (.invokevirtual 348, 3) := by decide +kernel
theorem dX11_keep_40 : decode cX11_keep 40 = .ok (.iconst 0, 1) := by decide +kernel
theorem dX11_keep_41 : decode cX11_keep 41 = .ok (.istore_n 1, 1) := by decide +kernel
theorem dX11_keep_42 : decode cX11_keep 42 = .ok (.iconst 0, 1) := by decide +kernel
theorem dX11_keep_43 : decode cX11_keep 43 = .ok (.istore_n 2, 1) := by decide +kernel
theorem dX11_keep_44 : decode cX11_keep 44 = .ok (.iload_n 2, 1) := by decide +kernel
theorem dX11_keep_45 : decode cX11_keep 45 = .ok (.aload_n 0, 1) := by decide +kernel
theorem dX11_keep_46 : decode cX11_keep 46 = .ok (.getfield 24, 3) := by decide +kernel
theorem dX11_keep_49 : decode cX11_keep 49 = .ok (.invokevirtual 273, 3) := by decide +kernel
theorem dX11_keep_52 : decode cX11_keep 52 = .ok (.if_icmp .ge 23, 3) := by decide +kernel
theorem dX11_keep_55 : decode cX11_keep 55 = .ok (.aload_n 0, 1) := by decide +kernel
theorem dX11_keep_56 : decode cX11_keep 56 = .ok (.getfield 24, 3) := by decide +kernel
theorem dX11_keep_59 : decode cX11_keep 59 = .ok (.iload_n 2, 1) := by decide +kernel
theorem dX11_keep_60 : decode cX11_keep 60 = .ok (.invokevirtual 188, 3) := by decide +kernel
theorem dX11_keep_63 : decode cX11_keep 63 = .ok (.ifCond .eq 6, 3) := by decide +kernel
theorem dX11_keep_66 : decode cX11_keep 66 = .ok (.iinc 1 1, 3) := by decide +kernel
theorem dX11_keep_69 : decode cX11_keep 69 = .ok (.iinc 2 1, 3) := by decide +kernel
theorem dX11_keep_72 : decode cX11_keep 72 = .ok (.goto (-28), 3) := by decide +kernel
theorem dX11_keep_75 : decode cX11_keep 75 = .ok (.iload_n 1, 1) := by decide +kernel
theorem dX11_keep_76 : decode cX11_keep 76 = .ok (.ireturn, 1) := by decide +kernel
theorem dX11_undo_0 : decode cX11_undo 0 = .ok (.aload_n 0, 1) := by decide +kernel
theorem dX11_undo_1 : decode cX11_undo 1 = .ok (.getfield 85, 3) := by decide +kernel
theorem dX11_undo_4 : decode cX11_undo 4 = .ok (.aload_n 0, 1) := by decide +kernel
theorem dX11_undo_5 : decode cX11_undo 5 = .ok (.getfield 24, 3) := by decide +kernel
theorem dX11_undo_8 : decode cX11_undo 8 = .ok (.invokevirtual 273, 3) := by decide +kernel
theorem dX11_undo_11 : decode cX11_undo 11 = .ok (.if_icmp .eq 5, 3) := by decide +kernel
theorem dX11_undo_14 : decode cX11_undo 14 = .ok (.iconst 0, 1) := by decide +kernel
theorem dX11_undo_15 : decode cX11_undo 15 = .ok (.ireturn, 1) := by decide +kernel
theorem dX11_undo_16 : decode cX11_undo 16 = .ok (.aload_n 0, 1) := by decide +kernel
theorem dX11_undo_17 : decode cX11_undo 17 = .ok (.aload_n 0, 1) := by decide +kernel
theorem dX11_undo_18 : decode cX11_undo 18 = .ok (.getfield 82, 3) := by decide +kernel
theorem dX11_undo_21 : decode cX11_undo 21 = .ok (.putfield 78, 3) := by decide +kernel
theorem dX11_undo_24 : decode cX11_undo 24 = .ok (.aload_n 0, 1) := by decide +kernel
theorem dX11_undo_25 : decode cX11_undo 25 = .ok (.getfield 24, 3) := by decide +kernel
theorem dX11_undo_28 : decode cX11_undo 28 = .ok (.invokevirtual 349, 3) := by decide +kernel
theorem dX11_undo_31 : decode cX11_undo 31 = .ok (.aload_n 0, 1) := by decide +kernel
theorem dX11_undo_32 : decode cX11_undo 32 = .ok (.getfield 67, 3) := by decide +kernel
theorem dX11_undo_35 : decode cX11_undo 35 = .ok (.invokevirtual 352, 3) := by decide +kernel
theorem dX11_undo_38 : decode cX11_undo 38 = .ok (.aload_n 0, 1) := by decide +kernel
theorem dX11_undo_39 : decode cX11_undo 39 = .ok (.getfield 74, 3) := by decide +kernel
theorem dX11_undo_42 : decode cX11_undo 42 = .ok (.invokevirtual 353, 3) := by decide +kernel
theorem dX11_undo_45 : decode cX11_undo 45 = .ok (.iconst 1, 1) := by decide +kernel
theorem dX11_undo_46 : decode cX11_undo 46 = .ok (.ireturn, 1) := by decide +kernel
theorem dX11_check_0 : decode cX11_check 0 = .ok (.iload_n 1, 1) := by decide +kernel
theorem dX11_check_1 : decode cX11_check 1 = .ok (.ifCond .lt 31, 3) := by decide +kernel
theorem dX11_check_4 : decode cX11_check 4 = .ok (.iload_n 1, 1) := by decide +kernel
theorem dX11_check_5 : decode cX11_check 5 = .ok (.iconst 1, 1) := by decide +kernel
theorem dX11_check_6 : decode cX11_check 6 = .ok (.if_icmp .gt 26, 3) := by decide +kernel
theorem dX11_check_9 : decode cX11_check 9 = .ok (.iload_n 2, 1) := by decide +kernel
theorem dX11_check_10 : decode cX11_check 10 = .ok (.ifCond .lt 22, 3) := by decide +kernel
theorem dX11_check_13 : decode cX11_check 13 = .ok (.iload_n 2, 1) := by decide +kernel
theorem dX11_check_14 : decode cX11_check 14 = .ok (.bipush 20, 2) := by decide +kernel
theorem dX11_check_16 : decode cX11_check 16 = .ok (.if_icmp .gt 16, 3) := by decide +kernel
theorem dX11_check_19 : decode cX11_check 19 = .ok (.iconst 4, 1) := by decide +kernel
theorem dX11_check_20 : decode cX11_check 20 = .ok (.iload_n 2, 1) := by decide +kernel
theorem dX11_check_21 : decode cX11_check 21 = .ok (.imul, 1) := by decide +kernel
theorem dX11_check_22 : decode cX11_check 22 = .ok (.aload_n 0, 1) := by decide +kernel
theorem dX11_check_23 : decode cX11_check 23 = .ok (.getfield 18, 3) := by decide +kernel
theorem dX11_check_26 : decode cX11_check 26 = .ok (.invokevirtual 130, 3) := by decide +kernel
theorem dX11_check_29 : decode cX11_check 29 = .ok (.if_icmp .le 6, 3) := by decide +kernel
theorem dX11_check_32 : decode cX11_check 32 = .ok (.bipush (-2), 2) := by decide +kernel
theorem dX11_check_34 : decode cX11_check 34 = .ok (.ireturn, 1) := by decide +kernel
theorem dX11_check_35 : decode cX11_check 35 = .ok (.iconst 0, 1) := by decide +kernel
theorem dX11_check_36 : decode cX11_check 36 = .ok (.istore_n 3, 1) := by decide +kernel
theorem dX11_check_37 : decode cX11_check 37 = .ok (.iload_n 3, 1) := by decide +kernel
theorem dX11_check_38 : decode cX11_check 38 = .ok (.iload_n 2, 1) := by decide +kernel
theorem dX11_check_39 : decode cX11_check 39 = .ok (.if_icmp .ge 34, 3) := by decide +kernel
theorem dX11_check_42 : decode cX11_check 42 = .ok (.aload_n 0, 1) := by decide +kernel
theorem dX11_check_43 : decode cX11_check 43 = .ok (.getfield 18, 3) := by decide +kernel
theorem dX11_check_46 : decode cX11_check 46 = .ok (.iconst 4, 1) := by decide +kernel
theorem dX11_check_47 : decode cX11_check 47 = .ok (.iload_n 3, 1) := by decide +kernel
theorem dX11_check_48 : decode cX11_check 48 = .ok (.imul, 1) := by decide +kernel
theorem dX11_check_49 : decode cX11_check 49 = .ok (.invokevirtual 354, 3) := by decide +kernel
theorem dX11_check_52 : decode cX11_check 52 = .ok (.aload_n 0, 1) := by decide +kernel
theorem dX11_check_53 : decode cX11_check 53 = .ok (.getfield 24, 3) := by decide +kernel
theorem dX11_check_56 : decode cX11_check 56 = .ok (.iconst 2, 1) := by decide +kernel
theorem dX11_check_57 : decode cX11_check 57 = .ok (.iload_n 3, 1) := by decide +kernel
theorem dX11_check_58 : decode cX11_check 58 = .ok (.imul, 1) := by decide +kernel
theorem dX11_check_59 : decode cX11_check 59 = .ok (.iload_n 1, 1) := by decide +kernel
theorem dX11_check_60 : decode cX11_check 60 = .ok (.iadd, 1) := by decide +kernel
theorem dX11_check_61 : decode cX11_check 61 = .ok (.invokevirtual 98, 3) := by decide +kernel
theorem dX11_check_64 : decode cX11_check 64 = .ok (.if_icmp .ne 9, 3) := by decide +kernel
theorem dX11_check_67 : decode cX11_check 67 = .ok (.iinc 3 1, 3) := by decide +kernel
theorem dX11_check_70 : decode cX11_check 70 = .ok (.goto (-33), 3) := by decide +kernel
theorem dX11_check_73 : decode cX11_check 73 = .ok (.aload_n 0, 1) := by decide +kernel
theorem dX11_check_74 : decode cX11_check 74 = .ok (.getfield 18, 3) := by decide +kernel
theorem dX11_check_77 : decode cX11_check 77 = .ok (.invokevirtual 139, 3) := by decide +kernel
theorem dX11_check_80 : decode cX11_check 80 = .ok (.iload_n 3, 1) := by decide +kernel
theorem dX11_check_81 : decode cX11_check 81 = .ok (.iload_n 2, 1) := by decide +kernel
theorem dX11_check_82 : decode cX11_check 82 = .ok (.if_icmp .ne 7, 3) := by decide +kernel
theorem dX11_check_85 : decode cX11_check 85 = .ok (.iconst (-1), 1) := by decide +kernel
theorem dX11_check_86 : decode cX11_check 86 = .ok (.goto 4, 3) := by decide +kernel
theorem dX11_check_89 : decode cX11_check 89 = .ok (.iload_n 3, 1) := by decide +kernel
theorem dX11_check_90 : decode cX11_check 90 = .ok (.ireturn, 1) := by decide +kernel
theorem dX11_count_0 : decode cX11_count 0 = .ok (.iload_n 1, 1) := by decide +kernel
theorem dX11_count_1 : decode cX11_count 1 = .ok (.bipush 40, 2) := by decide +kernel
theorem dX11_count_3 : decode cX11_count 3 = .ok (.if_icmp .lt 29, 3) := by decide +kernel
theorem dX11_count_6 : decode cX11_count 6 = .ok (.iload_n 1, 1) := by decide +kernel
theorem dX11_count_7 : decode cX11_count 7 = .ok (.bipush 40, 2) := by decide +kernel
theorem dX11_count_9 : decode cX11_count 9 = .ok (.isub, 1) := by decide +kernel
theorem dX11_count_10 : decode cX11_count 10 = .ok (.invokestatic 88, 3) := by decide +kernel
theorem dX11_count_13 : decode cX11_count 13 = .ok (.ifCond .eq 17, 3) := by decide +kernel
theorem dX11_count_16 : decode cX11_count 16 = .ok (.aload_n 0, 1) := by decide +kernel
theorem dX11_count_17 : decode cX11_count 17 = .ok (.getfield 67, 3) := by decide +kernel
theorem dX11_count_20 : decode cX11_count 20 = .ok (.iload_n 1, 1) := by decide +kernel
theorem dX11_count_21 : decode cX11_count 21 = .ok (.bipush 40, 2) := by decide +kernel
theorem dX11_count_23 : decode cX11_count 23 = .ok (.isub, 1) := by decide +kernel
theorem dX11_count_24 : decode cX11_count 24 = .ok (.invokevirtual 357, 3) := by decide +kernel
theorem dX11_count_27 : decode cX11_count 27 = .ok (.goto 4, 3) := by decide +kernel
theorem dX11_count_30 : decode cX11_count 30 = .ok (.iconst (-1), 1) := by decide +kernel
theorem dX11_count_31 : decode cX11_count 31 = .ok (.ireturn, 1) := by decide +kernel
theorem dX11_count_32 : decode cX11_count 32 = .ok (.iload_n 1, 1) := by decide +kernel
theorem dX11_count_33 : decode cX11_count 33 = .ok (.bipush 20, 2) := by decide +kernel
theorem dX11_count_35 : decode cX11_count 35 = .ok (.if_icmp .lt 44, 3) := by decide +kernel
theorem dX11_count_38 : decode cX11_count 38 = .ok (.iload_n 1, 1) := by decide +kernel
theorem dX11_count_39 : decode cX11_count 39 = .ok (.bipush 20, 2) := by decide +kernel
theorem dX11_count_41 : decode cX11_count 41 = .ok (.isub, 1) := by decide +kernel
theorem dX11_count_42 : decode cX11_count 42 = .ok (.istore_n 2, 1) := by decide +kernel
theorem dX11_count_43 : decode cX11_count 43 = .ok (.aload_n 0, 1) := by decide +kernel
theorem dX11_count_44 : decode cX11_count 44 = .ok (.getfield 24, 3) := by decide +kernel
theorem dX11_count_47 : decode cX11_count 47 = .ok (.iload_n 2, 1) := by decide +kernel
theorem dX11_count_48 : decode cX11_count 48 = .ok (.invokevirtual 169, 3) := by decide +kernel
theorem dX11_count_51 : decode cX11_count 51 = .ok (.ifCond .eq 19, 3) := by decide +kernel
theorem dX11_count_54 : decode cX11_count 54 = .ok (.aload_n 0, 1) := by decide +kernel
theorem dX11_count_55 : decode cX11_count 55 = .ok (.getfield 24, 3) := by decide +kernel
theorem dX11_count_58 : decode cX11_count 58 = .ok (.iload_n 2, 1) := by decide +kernel
theorem dX11_count_59 : decode cX11_count 59 = .ok (.invokevirtual 117, 3) := by decide +kernel
theorem dX11_count_62 : decode cX11_count 62 = .ok (.ifCond .ne 8, 3) := by decide +kernel
theorem dX11_count_65 : decode cX11_count 65 = .ok (.bipush (-2), 2) := by decide +kernel
theorem dX11_count_67 : decode cX11_count 67 = .ok (.goto 11, 3) := by decide +kernel
theorem dX11_count_70 : decode cX11_count 70 = .ok (.aload_n 0, 1) := by decide +kernel
theorem dX11_count_71 : decode cX11_count 71 = .ok (.getfield 24, 3) := by decide +kernel
theorem dX11_count_74 : decode cX11_count 74 = .ok (.iload_n 2, 1) := by decide +kernel
theorem dX11_count_75 : decode cX11_count 75 = .ok (.invokevirtual 154, 3) := by decide +kernel
theorem dX11_count_78 : decode cX11_count 78 = .ok (.ireturn, 1) := by decide +kernel
theorem dX11_count_79 : decode cX11_count 79 = .ok (.iload_n 1, 1) := by decide +kernel
theorem dX11_count_80 : decode cX11_count 80 = .ok (.tableswitch 100 0 6 #[44, 52, 63, 71, 79, 87, 95], 44) := by decide +kernel
theorem dX11_count_124 : decode cX11_count 124 = .ok (.aload_n 0, 1) := by decide +kernel
theorem dX11_count_125 : decode cX11_count 125 = .ok (.getfield 24, 3) := by decide +kernel
theorem dX11_count_128 : decode cX11_count 128 = .ok (.invokevirtual 273, 3) := by decide +kernel
theorem dX11_count_131 : decode cX11_count 131 = .ok (.ireturn, 1) := by decide +kernel
theorem dX11_count_132 : decode cX11_count 132 = .ok (.aload_n 0, 1) := by decide +kernel
theorem dX11_count_133 : decode cX11_count 133 = .ok (.getfield 37, 3) := by decide +kernel
theorem dX11_count_136 : decode cX11_count 136 = .ok (.invokevirtual 142, 3) := by decide +kernel
theorem dX11_count_139 : decode cX11_count 139 = .ok (.invokevirtual 358, 3) := by decide +kernel
theorem dX11_count_142 : decode cX11_count 142 = .ok (.ireturn, 1) := by decide +kernel
theorem dX11_count_143 : decode cX11_count 143 = .ok (.aload_n 0, 1) := by decide +kernel
theorem dX11_count_144 : decode cX11_count 144 = .ok (.getfield 18, 3) := by decide +kernel
theorem dX11_count_147 : decode cX11_count 147 = .ok (.invokevirtual 130, 3) := by decide +kernel
theorem dX11_count_150 : decode cX11_count 150 = .ok (.ireturn, 1) := by decide +kernel
theorem dX11_count_151 : decode cX11_count 151 = .ok (.aload_n 0, 1) := by decide +kernel
theorem dX11_count_152 : decode cX11_count 152 = .ok (.getfield 46, 3) := by decide +kernel
theorem dX11_count_155 : decode cX11_count 155 = .ok (.invokevirtual 359, 3) := by decide +kernel
theorem dX11_count_158 : decode cX11_count 158 = .ok (.ireturn, 1) := by decide +kernel
theorem dX11_count_159 : decode cX11_count 159 = .ok (.aload_n 0, 1) := by decide +kernel
theorem dX11_count_160 : decode cX11_count 160 = .ok (.getfield 46, 3) := by decide +kernel
theorem dX11_count_163 : decode cX11_count 163 = .ok (.invokevirtual 362, 3) := by decide +kernel
theorem dX11_count_166 : decode cX11_count 166 = .ok (.ireturn, 1) := by decide +kernel
theorem dX11_count_167 : decode cX11_count 167 = .ok (.aload_n 0, 1) := by decide +kernel
theorem dX11_count_168 : decode cX11_count 168 = .ok (.getfield 67, 3) := by decide +kernel
theorem dX11_count_171 : decode cX11_count 171 = .ok (.invokevirtual 365, 3) := by decide +kernel
theorem dX11_count_174 : decode cX11_count 174 = .ok (.ireturn, 1) := by decide +kernel
theorem dX11_count_175 : decode cX11_count 175 = .ok (.aload_n 0, 1) := by decide +kernel
theorem dX11_count_176 : decode cX11_count 176 = .ok (.getfield 78, 3) := by decide +kernel
theorem dX11_count_179 : decode cX11_count 179 = .ok (.ireturn, 1) := by decide +kernel
theorem dX11_count_180 : decode cX11_count 180 = .ok (.iconst (-1), 1) := by decide +kernel
theorem dX11_count_181 : decode cX11_count 181 = .ok (.ireturn, 1) := by decide +kernel
theorem dX11_areTwo_0 : decode cX11_areTwo 0 = .ok (.iload_n 1, 1) := by decide +kernel
theorem dX11_areTwo_1 : decode cX11_areTwo 1 = .ok (.iload_n 2, 1) := by decide +kernel
theorem dX11_areTwo_2 : decode cX11_areTwo 2 = .ok (.if_icmp .eq 29, 3) := by decide +kernel
theorem dX11_areTwo_5 : decode cX11_areTwo 5 = .ok (.aload_n 0, 1) := by decide +kernel
theorem dX11_areTwo_6 : decode cX11_areTwo 6 = .ok (.getfield 24, 3) := by decide +kernel
theorem dX11_areTwo_9 : decode cX11_areTwo 9 = .ok (.iload_n 1, 1) := by decide +kernel
theorem dX11_areTwo_10 : decode cX11_areTwo 10 = .ok (.invokevirtual 169, 3) := by decide +kernel
theorem dX11_areTwo_13 : decode cX11_areTwo 13 = .ok (.ifCond .eq 18, 3) := by decide +kernel
theorem dX11_areTwo_16 : decode cX11_areTwo 16 = .ok (.aload_n 0, 1) := by decide +kernel
theorem dX11_areTwo_17 : decode cX11_areTwo 17 = .ok (.getfield 24, 3) := by decide +kernel
theorem dX11_areTwo_20 : decode cX11_areTwo 20 = .ok (.iload_n 2, 1) := by decide +kernel
theorem dX11_areTwo_21 : decode cX11_areTwo 21 = .ok (.invokevirtual 169, 3) := by decide +kernel
theorem dX11_areTwo_24 : decode cX11_areTwo 24 = .ok (.ifCond .eq 7, 3) := by decide +kernel
theorem dX11_areTwo_27 : decode cX11_areTwo 27 = .ok (.iconst 1, 1) := by decide +kernel
theorem dX11_areTwo_28 : decode cX11_areTwo 28 = .ok (.goto 4, 3) := by decide +kernel
theorem dX11_areTwo_31 : decode cX11_areTwo 31 = .ok (.iconst 0, 1) := by decide +kernel
theorem dX11_areTwo_32 : decode cX11_areTwo 32 = .ok (.ireturn, 1) := by decide +kernel
theorem dX11_handOver_0 : decode cX11_handOver 0 = .ok (.aload_n 0, 1) := by decide +kernel
theorem dX11_handOver_1 : decode cX11_handOver 1 = .ok (.getfield 24, 3) := by decide +kernel
theorem dX11_handOver_4 : decode cX11_handOver 4 = .ok (.iload_n 1, 1) := by decide +kernel
theorem dX11_handOver_5 : decode cX11_handOver 5 = .ok (.invokevirtual 154, 3) := by decide +kernel
theorem dX11_handOver_8 : decode cX11_handOver 8 = .ok (.istore 4, 2) := by decide +kernel
theorem dX11_handOver_10 : decode cX11_handOver 10 = .ok (.aload_n 0, 1) := by decide +kernel
theorem dX11_handOver_11 : decode cX11_handOver 11 = .ok (.getfield 24, 3) := by decide +kernel
theorem dX11_handOver_14 : decode cX11_handOver 14 = .ok (.iload_n 2, 1) := by decide +kernel
theorem dX11_handOver_15 : decode cX11_handOver 15 = .ok (.invokevirtual 154, 3) := by decide +kernel
theorem dX11_handOver_18 : decode cX11_handOver 18 = .ok (.istore 5, 2) := by decide +kernel
theorem dX11_handOver_20 : decode cX11_handOver 20 = .ok (.iload 4, 2) := by decide +kernel
theorem dX11_handOver_22 : decode cX11_handOver 22 = .ok (.iconst (-1), 1) := by decide +kernel
theorem dX11_handOver_23 : decode cX11_handOver 23 = .ok (.if_icmp .eq 31, 3) := by decide +kernel
theorem dX11_handOver_26 : decode cX11_handOver 26 = .ok (.iload 5, 2) := by decide +kernel
theorem dX11_handOver_28 : decode cX11_handOver 28 = .ok (.iconst (-1), 1) := by decide +kernel
theorem dX11_handOver_29 : decode cX11_handOver 29 = .ok (.if_icmp .eq 25, 3) := by decide +kernel
theorem dX11_handOver_32 : decode cX11_handOver 32 = .ok (.iload 4, 2) := by decide +kernel
theorem dX11_handOver_34 : decode cX11_handOver 34 = .ok (.iload 5, 2) := by decide +kernel
theorem dX11_handOver_36 : decode cX11_handOver 36 = .ok (.invokestatic 157, 3) := by decide +kernel
theorem dX11_handOver_39 : decode cX11_handOver 39 = .ok (.ifCond .eq 15, 3) := by decide +kernel
theorem dX11_handOver_42 : decode cX11_handOver 42 = .ok (.aload_n 0, 1) := by decide +kernel
theorem dX11_handOver_43 : decode cX11_handOver 43 = .ok (.getfield 37, 3) := by decide +kernel
theorem dX11_handOver_46 : decode cX11_handOver 46 = .ok (.iload_n 1, 1) := by decide +kernel
theorem dX11_handOver_47 : decode cX11_handOver 47 = .ok (.iload_n 2, 1) := by decide +kernel
theorem dX11_handOver_48 : decode cX11_handOver 48 = .ok (.invokevirtual 166, 3) := by decide +kernel
theorem dX11_handOver_51 : decode cX11_handOver 51 = .ok (.ifCond .ne 6, 3) := by decide +kernel
theorem dX11_handOver_54 : decode cX11_handOver 54 = .ok (.bipush (-2), 2) := by decide +kernel
theorem dX11_handOver_56 : decode cX11_handOver 56 = .ok (.ireturn, 1) := by decide +kernel
theorem dX11_handOver_57 : decode cX11_handOver 57 = .ok (.aload_n 0, 1) := by decide +kernel
theorem dX11_handOver_58 : decode cX11_handOver 58 = .ok (.getfield 74, 3) := by decide +kernel
theorem dX11_handOver_61 : decode cX11_handOver 61 = .ok (.iload_n 2, 1) := by decide +kernel
theorem dX11_handOver_62 : decode cX11_handOver 62 = .ok (.iload_n 3, 1) := by decide +kernel
theorem dX11_handOver_63 : decode cX11_handOver 63 = .ok (.invokevirtual 320, 3) := by decide +kernel
theorem dX11_handOver_66 : decode cX11_handOver 66 = .ok (.ifCond .eq 20, 3) := by decide +kernel
theorem dX11_handOver_69 : decode cX11_handOver 69 = .ok (.aload_n 0, 1) := by decide +kernel
theorem dX11_handOver_70 : decode cX11_handOver 70 = .ok (.getfield 74, 3) := by decide +kernel
theorem dX11_handOver_73 : decode cX11_handOver 73 = .ok (.iload_n 1, 1) := by decide +kernel
theorem dX11_handOver_74 : decode cX11_handOver 74 = .ok (.iload_n 2, 1) := by decide +kernel
theorem dX11_handOver_75 : decode cX11_handOver 75 = .ok (.invokevirtual 334, 3) := by decide +kernel
theorem dX11_handOver_78 : decode cX11_handOver 78 = .ok (.iload_n 3, 1) := by decide +kernel
theorem dX11_handOver_79 : decode cX11_handOver 79 = .ok (.iadd, 1) := by decide +kernel
theorem dX11_handOver_80 : decode cX11_handOver 80 = .ok (.sipush 9999, 3) := by decide +kernel
theorem dX11_handOver_83 : decode cX11_handOver 83 = .ok (.if_icmp .le 6, 3) := by decide +kernel
theorem dX11_handOver_86 : decode cX11_handOver 86 = .ok (.bipush (-2), 2) := by decide +kernel
theorem dX11_handOver_88 : decode cX11_handOver 88 = .ok (.ireturn, 1) := by decide +kernel
theorem dX11_handOver_89 : decode cX11_handOver 89 = .ok (.aload_n 0, 1) := by decide +kernel
theorem dX11_handOver_90 : decode cX11_handOver 90 = .ok (.getfield 74, 3) := by decide +kernel
theorem dX11_handOver_93 : decode cX11_handOver 93 = .ok (.iload_n 1, 1) := by decide +kernel
theorem dX11_handOver_94 : decode cX11_handOver 94 = .ok (.invokevirtual 325, 3) := by decide +kernel
theorem dX11_handOver_97 : decode cX11_handOver 97 = .ok (.iload_n 3, 1) := by decide +kernel
theorem dX11_handOver_98 : decode cX11_handOver 98 = .ok (.if_icmp .ge 6, 3) := by decide +kernel
theorem dX11_handOver_101 : decode cX11_handOver 101 = .ok (.bipush (-3), 2) := by decide +kernel
theorem dX11_handOver_103 : decode cX11_handOver 103 = .ok (.ireturn, 1) := by decide +kernel
theorem dX11_handOver_104 : decode cX11_handOver 104 = .ok (.aload_n 0, 1) := by decide +kernel
theorem dX11_handOver_105 : decode cX11_handOver 105 = .ok (.getfield 74, 3) := by decide +kernel
theorem dX11_handOver_108 : decode cX11_handOver 108 = .ok (.iload_n 1, 1) := by decide +kernel
theorem dX11_handOver_109 : decode cX11_handOver 109 = .ok (.iload_n 2, 1) := by decide +kernel
theorem dX11_handOver_110 : decode cX11_handOver 110 = .ok (.iload_n 3, 1) := by decide +kernel
theorem dX11_handOver_111 : decode cX11_handOver 111 = .ok (.invokevirtual 368, 3) := by decide +kernel
theorem dX11_handOver_114 : decode cX11_handOver 114 = .ok (.aload_n 0, 1) := by decide +kernel
theorem dX11_handOver_115 : decode cX11_handOver 115 = .ok (.getfield 74, 3) := by decide +kernel
theorem dX11_handOver_118 : decode cX11_handOver 118 = .ok (.iload_n 1, 1) := by decide +kernel
theorem dX11_handOver_119 : decode cX11_handOver 119 = .ok (.invokevirtual 325, 3) := by decide +kernel
theorem dX11_handOver_122 : decode cX11_handOver 122 = .ok (.ireturn, 1) := by decide +kernel
theorem dJ6_bitCount_0f7a4_0 : decode cJ6_bitCount_0f7a4 0 = .ok (.iload_n 0, 1) := by decide +kernel
theorem dJ6_bitCount_0f7a4_1 : decode cJ6_bitCount_0f7a4 1 = .ok (.iload_n 0, 1) := by decide +kernel
theorem dJ6_bitCount_0f7a4_2 : decode cJ6_bitCount_0f7a4 2 = .ok (.iconst 1, 1) := by decide +kernel
theorem dJ6_bitCount_0f7a4_3 : decode cJ6_bitCount_0f7a4 3 = .ok (.iushr, 1) := by decide +kernel
theorem dJ6_bitCount_0f7a4_4 : decode cJ6_bitCount_0f7a4 4 = .ok (.ldc_w 265, 3) := by decide +kernel
theorem dJ6_bitCount_0f7a4_7 : decode cJ6_bitCount_0f7a4 7 = .ok (.iand, 1) := by decide +kernel
theorem dJ6_bitCount_0f7a4_8 : decode cJ6_bitCount_0f7a4 8 = .ok (.isub, 1) := by decide +kernel
theorem dJ6_bitCount_0f7a4_9 : decode cJ6_bitCount_0f7a4 9 = .ok (.istore_n 0, 1) := by decide +kernel
theorem dJ6_bitCount_0f7a4_10 : decode cJ6_bitCount_0f7a4 10 = .ok (.iload_n 0, 1) := by decide +kernel
theorem dJ6_bitCount_0f7a4_11 : decode cJ6_bitCount_0f7a4 11 = .ok (.ldc_w 266, 3) := by decide +kernel
theorem dJ6_bitCount_0f7a4_14 : decode cJ6_bitCount_0f7a4 14 = .ok (.iand, 1) := by decide +kernel
theorem dJ6_bitCount_0f7a4_15 : decode cJ6_bitCount_0f7a4 15 = .ok (.iload_n 0, 1) := by decide +kernel
theorem dJ6_bitCount_0f7a4_16 : decode cJ6_bitCount_0f7a4 16 = .ok (.iconst 2, 1) := by decide +kernel
theorem dJ6_bitCount_0f7a4_17 : decode cJ6_bitCount_0f7a4 17 = .ok (.iushr, 1) := by decide +kernel
theorem dJ6_bitCount_0f7a4_18 : decode cJ6_bitCount_0f7a4 18 = .ok (.ldc_w 266, 3) := by decide +kernel
theorem dJ6_bitCount_0f7a4_21 : decode cJ6_bitCount_0f7a4 21 = .ok (.iand, 1) := by decide +kernel
theorem dJ6_bitCount_0f7a4_22 : decode cJ6_bitCount_0f7a4 22 = .ok (.iadd, 1) := by decide +kernel
theorem dJ6_bitCount_0f7a4_23 : decode cJ6_bitCount_0f7a4 23 = .ok (.istore_n 0, 1) := by decide +kernel
theorem dJ6_bitCount_0f7a4_24 : decode cJ6_bitCount_0f7a4 24 = .ok (.iload_n 0, 1) := by decide +kernel
theorem dJ6_bitCount_0f7a4_25 : decode cJ6_bitCount_0f7a4 25 = .ok (.iload_n 0, 1) := by decide +kernel
theorem dJ6_bitCount_0f7a4_26 : decode cJ6_bitCount_0f7a4 26 = .ok (.iconst 4, 1) := by decide +kernel
theorem dJ6_bitCount_0f7a4_27 : decode cJ6_bitCount_0f7a4 27 = .ok (.iushr, 1) := by decide +kernel
theorem dJ6_bitCount_0f7a4_28 : decode cJ6_bitCount_0f7a4 28 = .ok (.iadd, 1) := by decide +kernel
theorem dJ6_bitCount_0f7a4_29 : decode cJ6_bitCount_0f7a4 29 = .ok (.ldc_w 267, 3) := by decide +kernel
theorem dJ6_bitCount_0f7a4_32 : decode cJ6_bitCount_0f7a4 32 = .ok (.iand, 1) := by decide +kernel
theorem dJ6_bitCount_0f7a4_33 : decode cJ6_bitCount_0f7a4 33 = .ok (.istore_n 0, 1) := by decide +kernel
theorem dJ6_bitCount_0f7a4_34 : decode cJ6_bitCount_0f7a4 34 = .ok (.iload_n 0, 1) := by decide +kernel
theorem dJ6_bitCount_0f7a4_35 : decode cJ6_bitCount_0f7a4 35 = .ok (.iload_n 0, 1) := by decide +kernel
theorem dJ6_bitCount_0f7a4_36 : decode cJ6_bitCount_0f7a4 36 = .ok (.bipush 8, 2) := by decide +kernel
theorem dJ6_bitCount_0f7a4_38 : decode cJ6_bitCount_0f7a4 38 = .ok (.iushr, 1) := by decide +kernel
theorem dJ6_bitCount_0f7a4_39 : decode cJ6_bitCount_0f7a4 39 = .ok (.iadd, 1) := by decide +kernel
theorem dJ6_bitCount_0f7a4_40 : decode cJ6_bitCount_0f7a4 40 = .ok (.istore_n 0, 1) := by decide +kernel
theorem dJ6_bitCount_0f7a4_41 : decode cJ6_bitCount_0f7a4 41 = .ok (.iload_n 0, 1) := by decide +kernel
theorem dJ6_bitCount_0f7a4_42 : decode cJ6_bitCount_0f7a4 42 = .ok (.iload_n 0, 1) := by decide +kernel
theorem dJ6_bitCount_0f7a4_43 : decode cJ6_bitCount_0f7a4 43 = .ok (.bipush 16, 2) := by decide +kernel
theorem dJ6_bitCount_0f7a4_45 : decode cJ6_bitCount_0f7a4 45 = .ok (.iushr, 1) := by decide +kernel
theorem dJ6_bitCount_0f7a4_46 : decode cJ6_bitCount_0f7a4 46 = .ok (.iadd, 1) := by decide +kernel
theorem dJ6_bitCount_0f7a4_47 : decode cJ6_bitCount_0f7a4 47 = .ok (.istore_n 0, 1) := by decide +kernel
theorem dJ6_bitCount_0f7a4_48 : decode cJ6_bitCount_0f7a4 48 = .ok (.iload_n 0, 1) := by decide +kernel
theorem dJ6_bitCount_0f7a4_49 : decode cJ6_bitCount_0f7a4 49 = .ok (.bipush 63, 2) := by decide +kernel
theorem dJ6_bitCount_0f7a4_51 : decode cJ6_bitCount_0f7a4 51 = .ok (.iand, 1) := by decide +kernel
theorem dJ6_bitCount_0f7a4_52 : decode cJ6_bitCount_0f7a4 52 = .ok (.ireturn, 1) := by decide +kernel
theorem dJ9_abs_0f7a4_0 : decode cJ9_abs_0f7a4 0 = .ok (.iload_n 0, 1) := by decide +kernel
theorem dJ9_abs_0f7a4_1 : decode cJ9_abs_0f7a4 1 = .ok (.ifCond .ge 8, 3) := by decide +kernel
theorem dJ9_abs_0f7a4_4 : decode cJ9_abs_0f7a4 4 = .ok (.iload_n 0, 1) := by decide +kernel
theorem dJ9_abs_0f7a4_5 : decode cJ9_abs_0f7a4 5 = .ok (.ineg, 1) := by decide +kernel
theorem dJ9_abs_0f7a4_6 : decode cJ9_abs_0f7a4 6 = .ok (.goto 4, 3) := by decide +kernel
theorem dJ9_abs_0f7a4_9 : decode cJ9_abs_0f7a4 9 = .ok (.iload_n 0, 1) := by decide +kernel
theorem dJ9_abs_0f7a4_10 : decode cJ9_abs_0f7a4 10 = .ok (.ireturn, 1) := by decide +kernel
theorem dJ9_max_7cf53_0 : decode cJ9_max_7cf53 0 = .ok (.iload_n 0, 1) := by decide +kernel
theorem dJ9_max_7cf53_1 : decode cJ9_max_7cf53 1 = .ok (.iload_n 1, 1) := by decide +kernel
theorem dJ9_max_7cf53_2 : decode cJ9_max_7cf53 2 = .ok (.if_icmp .lt 7, 3) := by decide +kernel
theorem dJ9_max_7cf53_5 : decode cJ9_max_7cf53 5 = .ok (.iload_n 0, 1) := by decide +kernel
theorem dJ9_max_7cf53_6 : decode cJ9_max_7cf53 6 = .ok (.goto 4, 3) := by decide +kernel
theorem dJ9_max_7cf53_9 : decode cJ9_max_7cf53 9 = .ok (.iload_n 1, 1) := by decide +kernel
theorem dJ9_max_7cf53_10 : decode cJ9_max_7cf53 10 = .ok (.ireturn, 1) := by decide +kernel
theorem dJ9_min_7cf53_0 : decode cJ9_min_7cf53 0 = .ok (.iload_n 0, 1) := by decide +kernel
theorem dJ9_min_7cf53_1 : decode cJ9_min_7cf53 1 = .ok (.iload_n 1, 1) := by decide +kernel
theorem dJ9_min_7cf53_2 : decode cJ9_min_7cf53 2 = .ok (.if_icmp .gt 7, 3) := by decide +kernel
theorem dJ9_min_7cf53_5 : decode cJ9_min_7cf53 5 = .ok (.iload_n 0, 1) := by decide +kernel
theorem dJ9_min_7cf53_6 : decode cJ9_min_7cf53 6 = .ok (.goto 4, 3) := by decide +kernel
theorem dJ9_min_7cf53_9 : decode cJ9_min_7cf53 9 = .ok (.iload_n 1, 1) := by decide +kernel
theorem dJ9_min_7cf53_10 : decode cJ9_min_7cf53 10 = .ok (.ireturn, 1) := by decide +kernel

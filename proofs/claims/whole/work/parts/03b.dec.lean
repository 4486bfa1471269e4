theorem dX4_init_0 : decode cX4_init 0 = .ok (.aload_n 0, 1) := by decide +kernel
theorem dX4_init_1 : decode cX4_init 1 = .ok (.invokespecial 1, 3) := by decide +kernel
theorem dX4_init_4 : decode cX4_init 4 = .ok (.aload_n 0, 1) := by decide +kernel
theorem dX4_init_5 : decode cX4_init 5 = .ok (.iconst 4, 1) := by decide +kernel
theorem dX4_init_6 : decode cX4_init 6 = .ok (.newarray .int, 2) := by decide +kernel
theorem dX4_init_8 : decode cX4_init 8 = .ok (.putfield 7, 3) := by decide +kernel
theorem dX4_init_11 : decode cX4_init 11 = .ok (.aload_n 0, 1) := by decide +kernel
theorem dX4_init_12 : decode cX4_init 12 = .ok (.iconst 4, 1) := by decide +kernel
theorem dX4_init_13 : decode cX4_init 13 = .ok (.newarray .int, 2) := by decide +kernel
theorem dX4_init_15 : decode cX4_init 15 = .ok (.putfield 13, 3) := by decide +kernel
theorem dX4_init_18 : decode cX4_init 18 = .ok (.aload_n 0, 1) := by decide +kernel
theorem dX4_init_19 : decode cX4_init 19 = .ok (.iconst 4, 1) := by decide +kernel
theorem dX4_init_20 : decode cX4_init 20 = .ok (.newarray .long, 2) := by decide +kernel
theorem dX4_init_22 : decode cX4_init 22 = .ok (.putfield 16, 3) := by decide +kernel
theorem dX4_init_25 : decode cX4_init 25 = .ok (.aload_n 0, 1) := by decide +kernel
theorem dX4_init_26 : decode cX4_init 26 = .ok (.iconst 4, 1) := by decide +kernel
theorem dX4_init_27 : decode cX4_init 27 = .ok (.newarray .long, 2) := by decide +kernel
theorem dX4_init_29 : decode cX4_init 29 = .ok (.putfield 20, 3) := by decide +kernel
theorem dX4_init_32 : decode cX4_init 32 = .ok (.aload_n 0, 1) := by decide +kernel
theorem dX4_init_33 : decode cX4_init 33 = .ok (.sipush 288, 3) := by decide +kernel
theorem dX4_init_36 : decode cX4_init 36 = .ok (.newarray .long, 2) := by decide +kernel
theorem dX4_init_38 : decode cX4_init 38 = .ok (.putfield 23, 3) := by decide +kernel
theorem dX4_init_41 : decode cX4_init 41 = .ok (.aload_n 0, 1) := by decide +kernel
theorem dX4_init_42 : decode cX4_init 42 = .ok (.sipush 288, 3) := by decide +kernel
theorem dX4_init_45 : decode cX4_init 45 = .ok (.newarray .long, 2) := by decide +kernel
theorem dX4_init_47 : decode cX4_init 47 = .ok (.putfield 26, 3) := by decide +kernel
theorem dX4_init_50 : decode cX4_init 50 = .ok (.aload_n 0, 1) := by decide +kernel
theorem dX4_init_51 : decode cX4_init 51 = .ok (.bipush 72, 2) := by decide +kernel
theorem dX4_init_53 : decode cX4_init 53 = .ok (.newarray .int, 2) := by decide +kernel
theorem dX4_init_55 : decode cX4_init 55 = .ok (.putfield 29, 3) := by decide +kernel
theorem dX4_init_58 : decode cX4_init 58 = .ok (.aload_n 0, 1) := by decide +kernel
theorem dX4_init_59 : decode cX4_init 59 = .ok (.bipush 72, 2) := by decide +kernel
theorem dX4_init_61 : decode cX4_init 61 = .ok (.newarray .int, 2) := by decide +kernel
theorem dX4_init_63 : decode cX4_init 63 = .ok (.putfield 32, 3) := by decide +kernel
theorem dX4_init_66 : decode cX4_init 66 = .ok (.aload_n 0, 1) := by decide +kernel
theorem dX4_init_67 : decode cX4_init 67 = .ok (.bipush 72, 2) := by decide +kernel
theorem dX4_init_69 : decode cX4_init 69 = .ok (.newarray .long, 2) := by decide +kernel
theorem dX4_init_71 : decode cX4_init 71 = .ok (.putfield 35, 3) := by decide +kernel
theorem dX4_init_74 : decode cX4_init 74 = .ok (.aload_n 0, 1) := by decide +kernel
theorem dX4_init_75 : decode cX4_init 75 = .ok (.bipush 16, 2) := by decide +kernel
theorem dX4_init_77 : decode cX4_init 77 = .ok (.newarray .int, 2) := by decide +kernel
theorem dX4_init_79 : decode cX4_init 79 = .ok (.putfield 38, 3) := by decide +kernel
theorem dX4_init_82 : decode cX4_init 82 = .ok (.return_, 1) := by decide +kernel
theorem dX4_thrown_0 : decode cX4_thrown 0 = .ok (.aload_n 0, 1) := by decide +kernel
theorem dX4_thrown_1 : decode cX4_thrown 1 = .ok (.getfield 41, 3) := by decide +kernel
theorem dX4_thrown_4 : decode cX4_thrown 4 = .ok (.ireturn, 1) := by decide +kernel
theorem dX4_clear_0 : decode cX4_clear 0 = .ok (.aload_n 0, 1) := by decide +kernel
theorem dX4_clear_1 : decode cX4_clear 1 = .ok (.iconst 0, 1) := by decide +kernel
theorem dX4_clear_2 : decode cX4_clear 2 = .ok (.putfield 41, 3) := by decide +kernel
theorem dX4_clear_5 : decode cX4_clear 5 = .ok (.aload_n 0, 1) := by decide +kernel
theorem dX4_clear_6 : decode cX4_clear 6 = .ok (.iconst 0, 1) := by decide +kernel
theorem dX4_clear_7 : decode cX4_clear 7 = .ok (.putfield 45, 3) := by decide +kernel
theorem dX4_clear_10 : decode cX4_clear 10 = .ok (.aload_n 0, 1) := by decide +kernel
theorem dX4_clear_11 : decode cX4_clear 11 = .ok (.iconst 0, 1) := by decide +kernel
theorem dX4_clear_12 : decode cX4_clear 12 = .ok (.putfield 48, 3) := by decide +kernel
theorem dX4_clear_15 : decode cX4_clear 15 = .ok (.aload_n 0, 1) := by decide +kernel
theorem dX4_clear_16 : decode cX4_clear 16 = .ok (.iconst 0, 1) := by decide +kernel
theorem dX4_clear_17 : decode cX4_clear 17 = .ok (.putfield 52, 3) := by decide +kernel
theorem dX4_clear_20 : decode cX4_clear 20 = .ok (.aload_n 0, 1) := by decide +kernel
theorem dX4_clear_21 : decode cX4_clear 21 = .ok (.lconst 0, 1) := by decide +kernel
theorem dX4_clear_22 : decode cX4_clear 22 = .ok (.putfield 55, 3) := by decide +kernel
theorem dX4_clear_25 : decode cX4_clear 25 = .ok (.iconst 0, 1) := by decide +kernel
theorem dX4_clear_26 : decode cX4_clear 26 = .ok (.istore_n 1, 1) := by decide +kernel
theorem dX4_clear_27 : decode cX4_clear 27 = .ok (.iload_n 1, 1) := by decide +kernel
theorem dX4_clear_28 : decode cX4_clear 28 = .ok (.iconst 4, 1) := by decide +kernel
theorem dX4_clear_29 : decode cX4_clear 29 = .ok (.if_icmp .ge 23, 3) := by decide +kernel
theorem dX4_clear_32 : decode cX4_clear 32 = .ok (.aload_n 0, 1) := by decide +kernel
theorem dX4_clear_33 : decode cX4_clear 33 = .ok (.getfield 16, 3) := by decide +kernel
theorem dX4_clear_36 : decode cX4_clear 36 = .ok (.iload_n 1, 1) := by decide +kernel
theorem dX4_clear_37 : decode cX4_clear 37 = .ok (.lconst 0, 1) := by decide +kernel
theorem dX4_clear_38 : decode cX4_clear 38 = .ok (.lastore, 1) := by decide +kernel
theorem dX4_clear_39 : decode cX4_clear 39 = .ok (.aload_n 0, 1) := by decide +kernel
theorem dX4_clear_40 : decode cX4_clear 40 = .ok (.getfield 20, 3) := by decide +kernel
theorem dX4_clear_43 : decode cX4_clear 43 = .ok (.iload_n 1, 1) := by decide +kernel
theorem dX4_clear_44 : decode cX4_clear 44 = .ok (.lconst 0, 1) := by decide +kernel
theorem dX4_clear_45 : decode cX4_clear 45 = .ok (.lastore, 1) := by decide +kernel
theorem dX4_clear_46 : decode cX4_clear 46 = .ok (.iinc 1 1, 3) := by decide +kernel
theorem dX4_clear_49 : decode cX4_clear 49 = .ok (.goto (-22), 3) := by decide +kernel
theorem dX4_clear_52 : decode cX4_clear 52 = .ok (.return_, 1) := by decide +kernel
theorem dX4_has_0 : decode cX4_has 0 = .ok (.iconst 0, 1) := by decide +kernel
theorem dX4_has_1 : decode cX4_has 1 = .ok (.istore_n 2, 1) := by decide +kernel
theorem dX4_has_2 : decode cX4_has 2 = .ok (.iload_n 2, 1) := by decide +kernel
theorem dX4_has_3 : decode cX4_has 3 = .ok (.aload_n 0, 1) := by decide +kernel
theorem dX4_has_4 : decode cX4_has 4 = .ok (.getfield 45, 3) := by decide +kernel
theorem dX4_has_7 : decode cX4_has 7 = .ok (.if_icmp .ge 21, 3) := by decide +kernel
theorem dX4_has_10 : decode cX4_has 10 = .ok (.aload_n 0, 1) := by decide +kernel
theorem dX4_has_11 : decode cX4_has 11 = .ok (.getfield 13, 3) := by decide +kernel
theorem dX4_has_14 : decode cX4_has 14 = .ok (.iload_n 2, 1) := by decide +kernel
theorem dX4_has_15 : decode cX4_has 15 = .ok (.iaload, 1) := by decide +kernel
theorem dX4_has_16 : decode cX4_has 16 = .ok (.iload_n 1, 1) := by decide +kernel
theorem dX4_has_17 : decode cX4_has 17 = .ok (.if_icmp .ne 5, 3) := by decide +kernel
theorem dX4_has_20 : decode cX4_has 20 = .ok (.iconst 1, 1) := by decide +kernel
theorem dX4_has_21 : decode cX4_has 21 = .ok (.ireturn, 1) := by decide +kernel
theorem dX4_has_22 : decode cX4_has 22 = .ok (.iinc 2 1, 3) := by decide +kernel
theorem dX4_has_25 : decode cX4_has 25 = .ok (.goto (-23), 3) := by decide +kernel
theorem dX4_has_28 : decode cX4_has 28 = .ok (.iconst 0, 1) := by decide +kernel
theorem dX4_has_29 : decode cX4_has 29 = .ok (.ireturn, 1) := by decide +kernel
theorem dX4_key_0 : decode cX4_key 0 = .ok (.aload_n 0, 1) := by decide +kernel
theorem dX4_key_1 : decode cX4_key 1 = .ok (.iload_n 1, 1) := by decide +kernel
theorem dX4_key_2 : decode cX4_key 2 = .ok (.iconst 1, 1) := by decide +kernel
theorem dX4_key_3 : decode cX4_key 3 = .ok (.if_icmp .lt 18, 3) := by decide +kernel
theorem dX4_key_6 : decode cX4_key 6 = .ok (.iload_n 1, 1) := by decide +kernel
theorem dX4_key_7 : decode cX4_key 7 = .ok (.bipush 64, 2) := by decide +kernel
theorem dX4_key_9 : decode cX4_key 9 = .ok (.if_icmp .gt 12, 3) := by decide +kernel
theorem dX4_key_12 : decode cX4_key 12 = .ok (.iload_n 2, 1) := by decide +kernel
theorem dX4_key_13 : decode cX4_key 13 = .ok (.ifCond .lt 8, 3) := by decide +kernel
theorem dX4_key_16 : decode cX4_key 16 = .ok (.iload_n 2, 1) := by decide +kernel
theorem dX4_key_17 : decode cX4_key 17 = .ok (.iconst 2, 1) := by decide +kernel
theorem dX4_key_18 : decode cX4_key 18 = .ok (.if_icmp .le 7, 3) := by decide +kernel
theorem dX4_key_21 : decode cX4_key 21 = .ok (.iconst 1, 1) := by decide +kernel
theorem dX4_key_22 : decode cX4_key 22 = .ok (.goto 23, 3) := by decide +kernel
theorem dX4_key_25 : decode cX4_key 25 = .ok (.aload_n 0, 1) := by decide +kernel
theorem dX4_key_26 : decode cX4_key 26 = .ok (.getfield 45, 3) := by decide +kernel
theorem dX4_key_29 : decode cX4_key 29 = .ok (.iconst 4, 1) := by decide +kernel
theorem dX4_key_30 : decode cX4_key 30 = .ok (.if_icmp .eq 10, 3) := by decide +kernel
theorem dX4_key_33 : decode cX4_key 33 = .ok (.aload_n 0, 1) := by decide +kernel
theorem dX4_key_34 : decode cX4_key 34 = .ok (.getfield 48, 3) := by decide +kernel
theorem dX4_key_37 : decode cX4_key 37 = .ok (.ifCond .eq 7, 3) := by decide +kernel
theorem dX4_key_40 : decode cX4_key 40 = .ok (.iconst 2, 1) := by decide +kernel
theorem dX4_key_41 : decode cX4_key 41 = .ok (.goto 4, 3) := by decide +kernel
theorem dX4_key_44 : decode cX4_key 44 = .ok (.iconst 0, 1) := by decide +kernel
theorem dX4_key_45 : decode cX4_key 45 = .ok (.putfield 41, 3) := by decide +kernel
theorem dX4_key_48 : decode cX4_key 48 = .ok (.iload_n 2, 1) := by decide +kernel
theorem dX4_key_49 : decode cX4_key 49 = .ok (.iconst 1, 1) := by decide +kernel
theorem dX4_key_50 : decode cX4_key 50 = .ok (.if_icmp .ne 27, 3) := by decide +kernel
theorem dX4_key_53 : decode cX4_key 53 = .ok (.aload_n 0, 1) := by decide +kernel
theorem dX4_key_54 : decode cX4_key 54 = .ok (.iconst 1, 1) := by decide +kernel
theorem dX4_key_55 : decode cX4_key 55 = .ok (.invokevirtual 59, 3) := by decide +kernel
theorem dX4_key_58 : decode cX4_key 58 = .ok (.ifCond .ne 11, 3) := by decide +kernel
theorem dX4_key_61 : decode cX4_key 61 = .ok (.aload_n 0, 1) := by decide +kernel
theorem dX4_key_62 : decode cX4_key 62 = .ok (.iconst 2, 1) := by decide +kernel
theorem dX4_key_63 : decode cX4_key 63 = .ok (.invokevirtual 59, 3) := by decide +kernel
theorem dX4_key_66 : decode cX4_key 66 = .ok (.ifCond .eq 7, 3) := by decide +kernel
theorem dX4_key_69 : decode cX4_key 69 = .ok (.iconst 1, 1) := by decide +kernel
theorem dX4_key_70 : decode cX4_key 70 = .ok (.goto 25, 3) := by decide +kernel
theorem dX4_key_73 : decode cX4_key 73 = .ok (.iconst 0, 1) := by decide +kernel
theorem dX4_key_74 : decode cX4_key 74 = .ok (.goto 21, 3) := by decide +kernel
theorem dX4_key_77 : decode cX4_key 77 = .ok (.iload_n 2, 1) := by decide +kernel
theorem dX4_key_78 : decode cX4_key 78 = .ok (.iconst 2, 1) := by decide +kernel
theorem dX4_key_79 : decode cX4_key 79 = .ok (.if_icmp .ne 15, 3) := by decide +kernel
theorem dX4_key_82 : decode cX4_key 82 = .ok (.aload_n 0, 1) := by decide +kernel
theorem dX4_key_83 : decode cX4_key 83 = .ok (.iconst 1, 1) := by decide +kernel
theorem dX4_key_84 : decode cX4_key 84 = .ok (.invokevirtual 59, 3) := by decide +kernel
theorem dX4_key_87 : decode cX4_key 87 = .ok (.ifCond .eq 7, 3) := by decide +kernel
theorem dX4_key_90 : decode cX4_key 90 = .ok (.iconst 1, 1) := by decide +kernel
theorem dX4_key_91 : decode cX4_key 91 = .ok (.goto 4, 3) := by decide +kernel
theorem dX4_key_94 : decode cX4_key 94 = .ok (.iconst 0, 1) := by decide +kernel
theorem dX4_key_95 : decode cX4_key 95 = .ok (.istore_n 3, 1) := by decide +kernel
theorem dX4_key_96 : decode cX4_key 96 = .ok (.aload_n 0, 1) := by decide +kernel
theorem dX4_key_97 : decode cX4_key 97 = .ok (.getfield 41, 3) := by decide +kernel
theorem dX4_key_100 : decode cX4_key 100 = .ok (.ifCond .ne 12, 3) := by decide +kernel
theorem dX4_key_103 : decode cX4_key 103 = .ok (.iload_n 3, 1) := by decide +kernel
theorem dX4_key_104 : decode cX4_key 104 = .ok (.ifCond .eq 8, 3) := by decide +kernel
theorem dX4_key_107 : decode cX4_key 107 = .ok (.aload_n 0, 1) := by decide +kernel
theorem dX4_key_108 : decode cX4_key 108 = .ok (.iconst 1, 1) := by decide +kernel
theorem dX4_key_109 : decode cX4_key 109 = .ok (.putfield 41, 3) := by decide +kernel
theorem dX4_key_112 : decode cX4_key 112 = .ok (.aload_n 0, 1) := by decide +kernel
theorem dX4_key_113 : decode cX4_key 113 = .ok (.getfield 41, 3) := by decide +kernel
theorem dX4_key_116 : decode cX4_key 116 = .ok (.ifCond .eq 5, 3) := by decide +kernel
theorem dX4_key_119 : decode cX4_key 119 = .ok (.iconst 0, 1) := by decide +kernel
theorem dX4_key_120 : decode cX4_key 120 = .ok (.ireturn, 1) := by decide +kernel
theorem dX4_key_121 : decode cX4_key 121 = .ok (.aload_n 0, 1) := by decide +kernel
theorem dX4_key_122 : decode cX4_key 122 = .ok (.getfield 7, 3) := by decide +kernel
theorem dX4_key_125 : decode cX4_key 125 = .ok (.aload_n 0, 1) := by decide +kernel
theorem dX4_key_126 : decode cX4_key 126 = .ok (.getfield 45, 3) := by decide +kernel
theorem dX4_key_129 : decode cX4_key 129 = .ok (.iload_n 1, 1) := by decide +kernel
theorem dX4_key_130 : decode cX4_key 130 = .ok (.iastore, 1) := by decide +kernel
theorem dX4_key_131 : decode cX4_key 131 = .ok (.aload_n 0, 1) := by decide +kernel
theorem dX4_key_132 : decode cX4_key 132 = .ok (.getfield 13, 3) := by decide +kernel
theorem dX4_key_135 : decode cX4_key 135 = .ok (.aload_n 0, 1) := by decide +kernel
theorem dX4_key_136 : decode cX4_key 136 = .ok (.getfield 45, 3) := by decide +kernel
theorem dX4_key_139 : decode cX4_key 139 = .ok (.iload_n 2, 1) := by decide +kernel
theorem dX4_key_140 : decode cX4_key 140 = .ok (.iastore, 1) := by decide +kernel
theorem dX4_key_141 : decode cX4_key 141 = .ok (.aload_n 0, 1) := by decide +kernel
theorem dX4_key_142 : decode cX4_key 142 = .ok (.dup, 1) := by decide +kernel
theorem dX4_key_143 : decode cX4_key 143 = .ok (.getfield 45, 3) := by decide +kernel
theorem dX4_key_146 : decode cX4_key 146 = .ok (.iconst 1, 1) := by decide +kernel
theorem dX4_key_147 : decode cX4_key 147 = .ok (.iadd, 1) := by decide +kernel
theorem dX4_key_148 : decode cX4_key 148 = .ok (.putfield 45, 3) := by decide +kernel
theorem dX4_key_151 : decode cX4_key 151 = .ok (.aload_n 0, 1) := by decide +kernel
theorem dX4_key_152 : decode cX4_key 152 = .ok (.getfield 45, 3) := by decide +kernel
theorem dX4_key_155 : decode cX4_key 155 = .ok (.iconst 1, 1) := by decide +kernel
theorem dX4_key_156 : decode cX4_key 156 = .ok (.isub, 1) := by decide +kernel
theorem dX4_key_157 : decode cX4_key 157 = .ok (.ireturn, 1) := by decide +kernel
theorem dX4_hashed_0 : decode cX4_hashed 0 = .ok (.aload_n 0, 1) := by decide +kernel
theorem dX4_hashed_1 : decode cX4_hashed 1 = .ok (.iconst 1, 1) := by decide +kernel
theorem dX4_hashed_2 : decode cX4_hashed 2 = .ok (.invokevirtual 59, 3) := by decide +kernel
theorem dX4_hashed_5 : decode cX4_hashed 5 = .ok (.ifCond .ne 15, 3) := by decide +kernel
theorem dX4_hashed_8 : decode cX4_hashed 8 = .ok (.aload_n 0, 1) := by decide +kernel
theorem dX4_hashed_9 : decode cX4_hashed 9 = .ok (.iconst 2, 1) := by decide +kernel
theorem dX4_hashed_10 : decode cX4_hashed 10 = .ok (.invokevirtual 59, 3) := by decide +kernel
theorem dX4_hashed_13 : decode cX4_hashed 13 = .ok (.ifCond .ne 7, 3) := by decide +kernel
theorem dX4_hashed_16 : decode cX4_hashed 16 = .ok (.iconst 1, 1) := by decide +kernel
theorem dX4_hashed_17 : decode cX4_hashed 17 = .ok (.goto 4, 3) := by decide +kernel
theorem dX4_hashed_20 : decode cX4_hashed 20 = .ok (.iconst 0, 1) := by decide +kernel
theorem dX4_hashed_21 : decode cX4_hashed 21 = .ok (.ireturn, 1) := by decide +kernel
theorem dX4_make_0 : decode cX4_make 0 = .ok (.aload_n 0, 1) := by decide +kernel
theorem dX4_make_1 : decode cX4_make 1 = .ok (.aload_n 0, 1) := by decide +kernel
theorem dX4_make_2 : decode cX4_make 2 = .ok (.getfield 45, 3) := by decide +kernel
theorem dX4_make_5 : decode cX4_make 5 = .ok (.ifCond .eq 10, 3) := by decide +kernel
theorem dX4_make_8 : decode cX4_make 8 = .ok (.aload_n 0, 1) := by decide +kernel
theorem dX4_make_9 : decode cX4_make 9 = .ok (.getfield 48, 3) := by decide +kernel
theorem dX4_make_12 : decode cX4_make 12 = .ok (.ifCond .eq 7, 3) := by decide +kernel
theorem dX4_make_15 : decode cX4_make 15 = .ok (.iconst 2, 1) := by decide +kernel
theorem dX4_make_16 : decode cX4_make 16 = .ok (.goto 4, 3) := by decide +kernel
theorem dX4_make_19 : decode cX4_make 19 = .ok (.iconst 0, 1) := by decide +kernel
theorem dX4_make_20 : decode cX4_make 20 = .ok (.putfield 41, 3) := by decide +kernel
theorem dX4_make_23 : decode cX4_make 23 = .ok (.aload_n 0, 1) := by decide +kernel
theorem dX4_make_24 : decode cX4_make 24 = .ok (.getfield 41, 3) := by decide +kernel
theorem dX4_make_27 : decode cX4_make 27 = .ok (.ifCond .eq 4, 3) := by decide +kernel
theorem dX4_make_30 : decode cX4_make 30 = .ok (.return_, 1) := by decide +kernel
theorem dX4_make_31 : decode cX4_make 31 = .ok (.iload_n 1, 1) := by decide +kernel
theorem dX4_make_32 : decode cX4_make 32 = .ok (.iconst 1, 1) := by decide +kernel
theorem dX4_make_33 : decode cX4_make 33 = .ok (.if_icmp .lt 13, 3) := by decide +kernel
theorem dX4_make_36 : decode cX4_make 36 = .ok (.iload_n 1, 1) := by decide +kernel
theorem dX4_make_37 : decode cX4_make 37 = .ok (.bipush 32, 2) := by decide +kernel
theorem dX4_make_39 : decode cX4_make 39 = .ok (.if_icmp .gt 7, 3) := by decide +kernel
theorem dX4_make_42 : decode cX4_make 42 = .ok (.iconst 1, 1) := by decide +kernel
theorem dX4_make_43 : decode cX4_make 43 = .ok (.goto 4, 3) := by decide +kernel
theorem dX4_make_46 : decode cX4_make 46 = .ok (.iconst 0, 1) := by decide +kernel
theorem dX4_make_47 : decode cX4_make 47 = .ok (.istore 4, 2) := by decide +kernel
theorem dX4_make_49 : decode cX4_make 49 = .ok (.aload_n 0, 1) := by decide +kernel
theorem dX4_make_50 : decode cX4_make 50 = .ok (.invokevirtual 63, 3) := by decide +kernel
theorem dX4_make_53 : decode cX4_make 53 = .ok (.ifCond .eq 57, 3) := by decide +kernel
theorem dX4_make_56 : decode cX4_make 56 = .ok (.iload_n 1, 1) := by decide +kernel
theorem dX4_make_57 : decode cX4_make 57 = .ok (.iconst 1, 1) := by decide +kernel
theorem dX4_make_58 : decode cX4_make 58 = .ok (.if_icmp .eq 25, 3) := by decide +kernel
theorem dX4_make_61 : decode cX4_make 61 = .ok (.iload_n 1, 1) := by decide +kernel
theorem dX4_make_62 : decode cX4_make 62 = .ok (.iconst 2, 1) := by decide +kernel
theorem dX4_make_63 : decode cX4_make 63 = .ok (.if_icmp .eq 20, 3) := by decide +kernel
theorem dX4_make_66 : decode cX4_make 66 = .ok (.iload_n 1, 1) := by decide +kernel
theorem dX4_make_67 : decode cX4_make 67 = .ok (.iconst 4, 1) := by decide +kernel
theorem dX4_make_68 : decode cX4_make 68 = .ok (.if_icmp .eq 15, 3) := by decide +kernel
theorem dX4_make_71 : decode cX4_make 71 = .ok (.iload_n 1, 1) := by decide +kernel
theorem dX4_make_72 : decode cX4_make 72 = .ok (.bipush 8, 2) := by decide +kernel
theorem dX4_make_74 : decode cX4_make 74 = .ok (.if_icmp .eq 9, 3) := by decide +kernel
theorem dX4_make_77 : decode cX4_make 77 = .ok (.iload_n 1, 1) := by decide +kernel
theorem dX4_make_78 : decode cX4_make 78 = .ok (.bipush 16, 2) := by decide +kernel
theorem dX4_make_80 : decode cX4_make 80 = .ok (.if_icmp .ne 27, 3) := by decide +kernel
theorem dX4_make_83 : decode cX4_make 83 = .ok (.iload_n 2, 1) := by decide +kernel
theorem dX4_make_84 : decode cX4_make 84 = .ok (.iconst 1, 1) := by decide +kernel
theorem dX4_make_85 : decode cX4_make 85 = .ok (.if_icmp .lt 22, 3) := by decide +kernel
theorem dX4_make_88 : decode cX4_make 88 = .ok (.iload_n 2, 1) := by decide +kernel
theorem dX4_make_89 : decode cX4_make 89 = .ok (.iconst 4, 1) := by decide +kernel
theorem dX4_make_90 : decode cX4_make 90 = .ok (.if_icmp .gt 17, 3) := by decide +kernel
theorem dX4_make_93 : decode cX4_make 93 = .ok (.iload_n 3, 1) := by decide +kernel
theorem dX4_make_94 : decode cX4_make 94 = .ok (.ifCond .lt 13, 3) := by decide +kernel
theorem dX4_make_97 : decode cX4_make 97 = .ok (.iload_n 3, 1) := by decide +kernel
theorem dX4_make_98 : decode cX4_make 98 = .ok (.bipush 8, 2) := by decide +kernel
theorem dX4_make_100 : decode cX4_make 100 = .ok (.if_icmp .gt 7, 3) := by decide +kernel
theorem dX4_make_103 : decode cX4_make 103 = .ok (.iconst 1, 1) := by decide +kernel
theorem dX4_make_104 : decode cX4_make 104 = .ok (.goto 4, 3) := by decide +kernel
theorem dX4_make_107 : decode cX4_make 107 = .ok (.iconst 0, 1) := by decide +kernel
theorem dX4_make_108 : decode cX4_make 108 = .ok (.istore 4, 2) := by decide +kernel
theorem dX4_make_110 : decode cX4_make 110 = .ok (.aload_n 0, 1) := by decide +kernel
theorem dX4_make_111 : decode cX4_make 111 = .ok (.iload 4, 2) := by decide +kernel
theorem dX4_make_113 : decode cX4_make 113 = .ok (.ifCond .eq 7, 3) := by decide +kernel
theorem dX4_make_116 : decode cX4_make 116 = .ok (.iconst 0, 1) := by decide +kernel
theorem dX4_make_117 : decode cX4_make 117 = .ok (.goto 4, 3) := by decide +kernel
theorem dX4_make_120 : decode cX4_make 120 = .ok (.iconst 1, 1) := by decide +kernel
theorem dX4_make_121 : decode cX4_make 121 = .ok (.putfield 41, 3) := by decide +kernel
theorem dX4_make_124 : decode cX4_make 124 = .ok (.iload 4, 2) := by decide +kernel
theorem dX4_make_126 : decode cX4_make 126 = .ok (.ifCond .ne 4, 3) := by decide +kernel
theorem dX4_make_129 : decode cX4_make 129 = .ok (.return_, 1) := by decide +kernel
theorem dX4_make_130 : decode cX4_make 130 = .ok (.aload_n 0, 1) := by decide +kernel
theorem dX4_make_131 : decode cX4_make 131 = .ok (.iload_n 1, 1) := by decide +kernel
theorem dX4_make_132 : decode cX4_make 132 = .ok (.putfield 67, 3) := by decide +kernel
theorem dX4_make_135 : decode cX4_make 135 = .ok (.aload_n 0, 1) := by decide +kernel
theorem dX4_make_136 : decode cX4_make 136 = .ok (.iload_n 2, 1) := by decide +kernel
theorem dX4_make_137 : decode cX4_make 137 = .ok (.putfield 70, 3) := by decide +kernel
theorem dX4_make_140 : decode cX4_make 140 = .ok (.aload_n 0, 1) := by decide +kernel
theorem dX4_make_141 : decode cX4_make 141 = .ok (.iload_n 3, 1) := by decide +kernel
theorem dX4_make_142 : decode cX4_make 142 = .ok (.putfield 73, 3) := by decide +kernel
theorem dX4_make_145 : decode cX4_make 145 = .ok (.aload_n 0, 1) := by decide +kernel
theorem dX4_make_146 : decode cX4_make 146 = .ok (.iconst 1, 1) := by decide +kernel
theorem dX4_make_147 : decode cX4_make 147 = .ok (.putfield 48, 3) := by decide +kernel
theorem dX4_make_150 : decode cX4_make 150 = .ok (.return_, 1) := by decide +kernel
theorem dX4_set_0 : decode cX4_set 0 = .ok (.aload_n 0, 1) := by decide +kernel
theorem dX4_set_1 : decode cX4_set 1 = .ok (.iload_n 1, 1) := by decide +kernel
theorem dX4_set_2 : decode cX4_set 2 = .ok (.ifCond .lt 8, 3) := by decide +kernel
theorem dX4_set_5 : decode cX4_set 5 = .ok (.iload_n 1, 1) := by decide +kernel
theorem dX4_set_6 : decode cX4_set 6 = .ok (.iconst 4, 1) := by decide +kernel
theorem dX4_set_7 : decode cX4_set 7 = .ok (.if_icmp .lt 7, 3) := by decide +kernel
theorem dX4_set_10 : decode cX4_set 10 = .ok (.iconst 1, 1) := by decide +kernel
theorem dX4_set_11 : decode cX4_set 11 = .ok (.goto 4, 3) := by decide +kernel
theorem dX4_set_14 : decode cX4_set 14 = .ok (.iconst 0, 1) := by decide +kernel
theorem dX4_set_15 : decode cX4_set 15 = .ok (.putfield 41, 3) := by decide +kernel
theorem dX4_set_18 : decode cX4_set 18 = .ok (.aload_n 0, 1) := by decide +kernel
theorem dX4_set_19 : decode cX4_set 19 = .ok (.getfield 41, 3) := by decide +kernel
theorem dX4_set_22 : decode cX4_set 22 = .ok (.ifCond .eq 4, 3) := by decide +kernel
theorem dX4_set_25 : decode cX4_set 25 = .ok (.return_, 1) := by decide +kernel
theorem dX4_set_26 : decode cX4_set 26 = .ok (.aload_n 0, 1) := by decide +kernel
theorem dX4_set_27 : decode cX4_set 27 = .ok (.getfield 16, 3) := by decide +kernel
theorem dX4_set_30 : decode cX4_set 30 = .ok (.iload_n 1, 1) := by decide +kernel
theorem dX4_set_31 : decode cX4_set 31 = .ok (.lload_n 2, 1) := by decide +kernel
theorem dX4_set_32 : decode cX4_set 32 = .ok (.lastore, 1) := by decide +kernel
theorem dX4_set_33 : decode cX4_set 33 = .ok (.aload_n 0, 1) := by decide +kernel
theorem dX4_set_34 : decode cX4_set 34 = .ok (.getfield 20, 3) := by decide +kernel
theorem dX4_set_37 : decode cX4_set 37 = .ok (.iload_n 1, 1) := by decide +kernel
theorem dX4_set_38 : decode cX4_set 38 = .ok (.lload 4, 2) := by decide +kernel
theorem dX4_set_40 : decode cX4_set 40 = .ok (.lastore, 1) := by decide +kernel
theorem dX4_set_41 : decode cX4_set 41 = .ok (.return_, 1) := by decide +kernel
theorem dX4_ones_0 : decode cX4_ones 0 = .ok (.aload_n 0, 1) := by decide +kernel
theorem dX4_ones_1 : decode cX4_ones 1 = .ok (.getfield 7, 3) := by decide +kernel
theorem dX4_ones_4 : decode cX4_ones 4 = .ok (.iload_n 1, 1) := by decide +kernel
theorem dX4_ones_5 : decode cX4_ones 5 = .ok (.iaload, 1) := by decide +kernel
theorem dX4_ones_6 : decode cX4_ones 6 = .ok (.bipush 64, 2) := by decide +kernel
theorem dX4_ones_8 : decode cX4_ones 8 = .ok (.if_icmp .ne 9, 3) := by decide +kernel
theorem dX4_ones_11 : decode cX4_ones 11 = .ok (.ldc2_w 76, 3) := by decide +kernel
theorem dX4_ones_14 : decode cX4_ones 14 = .ok (.goto 13, 3) := by decide +kernel
theorem dX4_ones_17 : decode cX4_ones 17 = .ok (.lconst 1, 1) := by decide +kernel
theorem dX4_ones_18 : decode cX4_ones 18 = .ok (.aload_n 0, 1) := by decide +kernel
theorem dX4_ones_19 : decode cX4_ones 19 = .ok (.getfield 7, 3) := by decide +kernel
theorem dX4_ones_22 : decode cX4_ones 22 = .ok (.iload_n 1, 1) := by decide +kernel
theorem dX4_ones_23 : decode cX4_ones 23 = .ok (.iaload, 1) := by decide +kernel
theorem dX4_ones_24 : decode cX4_ones 24 = .ok (.lshl, 1) := by decide +kernel
theorem dX4_ones_25 : decode cX4_ones 25 = .ok (.lconst 1, 1) := by decide +kernel
theorem dX4_ones_26 : decode cX4_ones 26 = .ok (.lsub, 1) := by decide +kernel
theorem dX4_ones_27 : decode cX4_ones 27 = .ok (.lreturn, 1) := by decide +kernel
theorem dX4_onesIn_0 : decode cX4_onesIn 0 = .ok (.iconst 0, 1) := by decide +kernel
theorem dX4_onesIn_1 : decode cX4_onesIn 1 = .ok (.istore_n 2, 1) := by decide +kernel
theorem dX4_onesIn_2 : decode cX4_onesIn 2 = .ok (.iconst 0, 1) := by decide +kernel
theorem dX4_onesIn_3 : decode cX4_onesIn 3 = .ok (.istore_n 3, 1) := by decide +kernel
theorem dX4_onesIn_4 : decode cX4_onesIn 4 = .ok (.iload_n 3, 1) := by decide +kernel
theorem dX4_onesIn_5 : decode cX4_onesIn 5 = .ok (.bipush 64, 2) := by decide +kernel
theorem dX4_onesIn_7 : decode cX4_onesIn 7 = .ok (.if_icmp .ge 22, 3) := by decide +kernel
theorem dX4_onesIn_10 : decode cX4_onesIn 10 = .ok (.lload_n 0, 1) := by decide +kernel
theorem dX4_onesIn_11 : decode cX4_onesIn 11 = .ok (.iload_n 3, 1) := by decide +kernel
theorem dX4_onesIn_12 : decode cX4_onesIn 12 = .ok (.lushr, 1) := by decide +kernel
theorem dX4_onesIn_13 : decode cX4_onesIn 13 = .ok (.lconst 1, 1) := by decide +kernel
theorem dX4_onesIn_14 : decode cX4_onesIn 14 = .ok (.land, 1) := by decide +kernel
theorem dX4_onesIn_15 : decode cX4_onesIn 15 = .ok (.lconst 1, 1) := by decide +kernel
theorem dX4_onesIn_16 : decode cX4_onesIn 16 = .ok (.lcmp, 1) := by decide +kernel
theorem dX4_onesIn_17 : decode cX4_onesIn 17 = .ok (.ifCond .ne 6, 3) := by decide +kernel
theorem dX4_onesIn_20 : decode cX4_onesIn 20 = .ok (.iinc 2 1, 3) := by decide +kernel
theorem dX4_onesIn_23 : decode cX4_onesIn 23 = .ok (.iinc 3 1, 3) := by decide +kernel
theorem dX4_onesIn_26 : decode cX4_onesIn 26 = .ok (.goto (-22), 3) := by decide +kernel
theorem dX4_onesIn_29 : decode cX4_onesIn 29 = .ok (.iload_n 2, 1) := by decide +kernel
theorem dX4_onesIn_30 : decode cX4_onesIn 30 = .ok (.ireturn, 1) := by decide +kernel
theorem dX4_masksAreRight_0 : decode cX4_masksAreRight 0 = .ok (.iconst 0, 1) := by decide +kernel
theorem dX4_masksAreRight_1 : decode cX4_masksAreRight 1 = .ok (.istore_n 1, 1) := by decide +kernel
theorem dX4_masksAreRight_2 : decode cX4_masksAreRight 2 = .ok (.iload_n 1, 1) := by decide +kernel
theorem dX4_masksAreRight_3 : decode cX4_masksAreRight 3 = .ok (.aload_n 0, 1) := by decide +kernel
theorem dX4_masksAreRight_4 : decode cX4_masksAreRight 4 = .ok (.getfield 45, 3) := by decide +kernel
theorem dX4_masksAreRight_7 : decode cX4_masksAreRight 7 = .ok (.if_icmp .ge 77, 3) := by decide +kernel
theorem dX4_masksAreRight_10 : decode cX4_masksAreRight 10 = .ok (.aload_n 0, 1) := by decide +kernel
theorem dX4_masksAreRight_11 : decode cX4_masksAreRight 11 = .ok (.iload_n 1, 1) := by decide +kernel
theorem dX4_masksAreRight_12 : decode cX4_masksAreRight 12 = .ok (.invokevirtual 78, 3) := by decide +kernel
theorem dX4_masksAreRight_15 : decode cX4_masksAreRight 15 = .ok (.lstore_n 2, 1) := by decide +kernel
theorem dX4_masksAreRight_16 : decode cX4_masksAreRight 16 = .ok (.aload_n 0, 1) := by decide +kernel
theorem dX4_masksAreRight_17 : decode cX4_masksAreRight 17 = .ok (.getfield 20, 3) := by decide +kernel
theorem dX4_masksAreRight_20 : decode cX4_masksAreRight 20 = .ok (.iload_n 1, 1) := by decide +kernel
theorem dX4_masksAreRight_21 : decode cX4_masksAreRight 21 = .ok (.laload, 1) := by decide +kernel
theorem dX4_masksAreRight_22 : decode cX4_masksAreRight 22 = .ok (.lload_n 2, 1) := by decide +kernel
theorem dX4_masksAreRight_23 : decode cX4_masksAreRight 23 = .ok (.land, 1) := by decide +kernel
theorem dX4_masksAreRight_24 : decode cX4_masksAreRight 24 = .ok (.lstore 4, 2) := by decide +kernel
theorem dX4_masksAreRight_26 : decode cX4_masksAreRight 26 = .ok (.aload_n 0, 1) := by decide +kernel
theorem dX4_masksAreRight_27 : decode cX4_masksAreRight 27 = .ok (.getfield 13, 3) := by decide +kernel
theorem dX4_masksAreRight_30 : decode cX4_masksAreRight 30 = .ok (.iload_n 1, 1) := by decide +kernel
theorem dX4_masksAreRight_31 : decode cX4_masksAreRight 31 = .ok (.iaload, 1) := by decide +kernel
theorem dX4_masksAreRight_32 : decode cX4_masksAreRight 32 = .ok (.ifCond .ne 12, 3) := by decide +kernel
theorem dX4_masksAreRight_35 : decode cX4_masksAreRight 35 = .ok (.lload 4, 2) := by decide +kernel
theorem dX4_masksAreRight_37 : decode cX4_masksAreRight 37 = .ok (.lload_n 2, 1) := by decide +kernel
theorem dX4_masksAreRight_38 : decode cX4_masksAreRight 38 = .ok (.lcmp, 1) := by decide +kernel
theorem dX4_masksAreRight_39 : decode cX4_masksAreRight 39 = .ok (.ifCond .eq 5, 3) := by decide +kernel
theorem dX4_masksAreRight_42 : decode cX4_masksAreRight 42 = .ok (.iconst 0, 1) := by decide +kernel
theorem dX4_masksAreRight_43 : decode cX4_masksAreRight 43 = .ok (.ireturn, 1) := by decide +kernel
theorem dX4_masksAreRight_44 : decode cX4_masksAreRight 44 = .ok (.lload_n 2, 1) := by decide +kernel
theorem dX4_masksAreRight_45 : decode cX4_masksAreRight 45 = .ok (.lload 4, 2) := by decide +kernel
theorem dX4_masksAreRight_47 : decode cX4_masksAreRight 47 = .ok (.ldc2_w 76, 3) := by decide +kernel
theorem dX4_masksAreRight_50 : decode cX4_masksAreRight 50 = .ok (.lxor, 1) := by decide +kernel
theorem dX4_masksAreRight_51 : decode cX4_masksAreRight 51 = .ok (.land, 1) := by decide +kernel
theorem dX4_masksAreRight_52 : decode cX4_masksAreRight 52 = .ok (.lstore 6, 2) := by decide +kernel
theorem dX4_masksAreRight_54 : decode cX4_masksAreRight 54 = .ok (.aload_n 0, 1) := by decide +kernel
theorem dX4_masksAreRight_55 : decode cX4_masksAreRight 55 = .ok (.getfield 13, 3) := by decide +kernel
theorem dX4_masksAreRight_58 : decode cX4_masksAreRight 58 = .ok (.iload_n 1, 1) := by decide +kernel
theorem dX4_masksAreRight_59 : decode cX4_masksAreRight 59 = .ok (.iaload, 1) := by decide +kernel
theorem dX4_masksAreRight_60 : decode cX4_masksAreRight 60 = .ok (.iconst 1, 1) := by decide +kernel
theorem dX4_masksAreRight_61 : decode cX4_masksAreRight 61 = .ok (.if_icmp .ne 17, 3) := by decide +kernel
theorem dX4_masksAreRight_64 : decode cX4_masksAreRight 64 = .ok (.lload 6, 2) := by decide +kernel
theorem dX4_masksAreRight_66 : decode cX4_masksAreRight 66 = .ok (.lload 6, 2) := by decide +kernel
theorem dX4_masksAreRight_68 : decode cX4_masksAreRight 68 = .ok (.lconst 1, 1) := by decide +kernel
theorem dX4_masksAreRight_69 : decode cX4_masksAreRight 69 = .ok (.ladd, 1) := by decide +kernel
theorem dX4_masksAreRight_70 : decode cX4_masksAreRight 70 = .ok (.land, 1) := by decide +kernel
theorem dX4_masksAreRight_71 : decode cX4_masksAreRight 71 = .ok (.lconst 0, 1) := by decide +kernel
theorem dX4_masksAreRight_72 : decode cX4_masksAreRight 72 = .ok (.lcmp, 1) := by decide +kernel
theorem dX4_masksAreRight_73 : decode cX4_masksAreRight 73 = .ok (.ifCond .eq 5, 3) := by decide +kernel
theorem dX4_masksAreRight_76 : decode cX4_masksAreRight 76 = .ok (.iconst 0, 1) := by decide +kernel
theorem dX4_masksAreRight_77 : decode cX4_masksAreRight 77 = .ok (.ireturn, 1) := by decide +kernel
theorem dX4_masksAreRight_78 : decode cX4_masksAreRight 78 = .ok (.iinc 1 1, 3) := by decide +kernel
theorem dX4_masksAreRight_81 : decode cX4_masksAreRight 81 = .ok (.goto (-79), 3) := by decide +kernel
theorem dX4_masksAreRight_84 : decode cX4_masksAreRight 84 = .ok (.iconst 1, 1) := by decide +kernel
theorem dX4_masksAreRight_85 : decode cX4_masksAreRight 85 = .ok (.ireturn, 1) := by decide +kernel
theorem dX4_there_0 : decode cX4_there 0 = .ok (.iconst 0, 1) := by decide +kernel
theorem dX4_there_1 : decode cX4_there 1 = .ok (.istore_n 1, 1) := by decide +kernel
theorem dX4_there_2 : decode cX4_there 2 = .ok (.iload_n 1, 1) := by decide +kernel
theorem dX4_there_3 : decode cX4_there 3 = .ok (.aload_n 0, 1) := by decide +kernel
theorem dX4_there_4 : decode cX4_there 4 = .ok (.getfield 52, 3) := by decide +kernel
theorem dX4_there_7 : decode cX4_there 7 = .ok (.if_icmp .ge 88, 3) := by decide +kernel
theorem dX4_there_10 : decode cX4_there 10 = .ok (.iconst 1, 1) := by decide +kernel
theorem dX4_there_11 : decode cX4_there 11 = .ok (.istore_n 2, 1) := by decide +kernel
theorem dX4_there_12 : decode cX4_there 12 = .ok (.iconst 0, 1) := by decide +kernel
theorem dX4_there_13 : decode cX4_there 13 = .ok (.istore_n 3, 1) := by decide +kernel
theorem dX4_there_14 : decode cX4_there 14 = .ok (.iload_n 3, 1) := by decide +kernel
theorem dX4_there_15 : decode cX4_there 15 = .ok (.aload_n 0, 1) := by decide +kernel
theorem dX4_there_16 : decode cX4_there 16 = .ok (.getfield 45, 3) := by decide +kernel
theorem dX4_there_19 : decode cX4_there 19 = .ok (.if_icmp .ge 64, 3) := by decide +kernel
theorem dX4_there_22 : decode cX4_there 22 = .ok (.aload_n 0, 1) := by decide +kernel
theorem dX4_there_23 : decode cX4_there 23 = .ok (.getfield 20, 3) := by decide +kernel
theorem dX4_there_26 : decode cX4_there 26 = .ok (.iload_n 3, 1) := by decide +kernel
theorem dX4_there_27 : decode cX4_there 27 = .ok (.laload, 1) := by decide +kernel
theorem dX4_there_28 : decode cX4_there 28 = .ok (.aload_n 0, 1) := by decide +kernel
theorem dX4_there_29 : decode cX4_there 29 = .ok (.iload_n 3, 1) := by decide +kernel
theorem dX4_there_30 : decode cX4_there 30 = .ok (.invokevirtual 78, 3) := by decide +kernel
theorem dX4_there_33 : decode cX4_there 33 = .ok (.land, 1) := by decide +kernel
theorem dX4_there_34 : decode cX4_there 34 = .ok (.lstore 4, 2) := by decide +kernel
theorem dX4_there_36 : decode cX4_there 36 = .ok (.aload_n 0, 1) := by decide +kernel
theorem dX4_there_37 : decode cX4_there 37 = .ok (.getfield 26, 3) := by decide +kernel
theorem dX4_there_40 : decode cX4_there 40 = .ok (.iconst 4, 1) := by decide +kernel
theorem dX4_there_41 : decode cX4_there 41 = .ok (.iload_n 1, 1) := by decide +kernel
theorem dX4_there_42 : decode cX4_there 42 = .ok (.imul, 1) := by decide +kernel
theorem dX4_there_43 : decode cX4_there 43 = .ok (.iload_n 3, 1) := by decide +kernel
theorem dX4_there_44 : decode cX4_there 44 = .ok (.iadd, 1) := by decide +kernel
theorem dX4_there_45 : decode cX4_there 45 = .ok (.laload, 1) := by decide +kernel
theorem dX4_there_46 : decode cX4_there 46 = .ok (.lload 4, 2) := by decide +kernel
theorem dX4_there_48 : decode cX4_there 48 = .ok (.lcmp, 1) := by decide +kernel
theorem dX4_there_49 : decode cX4_there 49 = .ok (.ifCond .ne 26, 3) := by decide +kernel
theorem dX4_there_52 : decode cX4_there 52 = .ok (.aload_n 0, 1) := by decide +kernel
theorem dX4_there_53 : decode cX4_there 53 = .ok (.getfield 23, 3) := by decide +kernel
theorem dX4_there_56 : decode cX4_there 56 = .ok (.iconst 4, 1) := by decide +kernel
theorem dX4_there_57 : decode cX4_there 57 = .ok (.iload_n 1, 1) := by decide +kernel
theorem dX4_there_58 : decode cX4_there 58 = .ok (.imul, 1) := by decide +kernel
theorem dX4_there_59 : decode cX4_there 59 = .ok (.iload_n 3, 1) := by decide +kernel
theorem dX4_there_60 : decode cX4_there 60 = .ok (.iadd, 1) := by decide +kernel
theorem dX4_there_61 : decode cX4_there 61 = .ok (.laload, 1) := by decide +kernel
theorem dX4_there_62 : decode cX4_there 62 = .ok (.aload_n 0, 1) := by decide +kernel
theorem dX4_there_63 : decode cX4_there 63 = .ok (.getfield 16, 3) := by decide +kernel
theorem dX4_there_66 : decode cX4_there 66 = .ok (.iload_n 3, 1) := by decide +kernel
theorem dX4_there_67 : decode cX4_there 67 = .ok (.laload, 1) := by decide +kernel
theorem dX4_there_68 : decode cX4_there 68 = .ok (.lload 4, 2) := by decide +kernel
theorem dX4_there_70 : decode cX4_there 70 = .ok (.land, 1) := by decide +kernel
theorem dX4_there_71 : decode cX4_there 71 = .ok (.lcmp, 1) := by decide +kernel
theorem dX4_there_72 : decode cX4_there 72 = .ok (.ifCond .eq 5, 3) := by decide +kernel
theorem dX4_there_75 : decode cX4_there 75 = .ok (.iconst 0, 1) := by decide +kernel
theorem dX4_there_76 : decode cX4_there 76 = .ok (.istore_n 2, 1) := by decide +kernel
theorem dX4_there_77 : decode cX4_there 77 = .ok (.iinc 3 1, 3) := by decide +kernel
theorem dX4_there_80 : decode cX4_there 80 = .ok (.goto (-66), 3) := by decide +kernel
theorem dX4_there_83 : decode cX4_there 83 = .ok (.iload_n 2, 1) := by decide +kernel
theorem dX4_there_84 : decode cX4_there 84 = .ok (.ifCond .eq 5, 3) := by decide +kernel
theorem dX4_there_87 : decode cX4_there 87 = .ok (.iload_n 1, 1) := by decide +kernel
theorem dX4_there_88 : decode cX4_there 88 = .ok (.ireturn, 1) := by decide +kernel
theorem dX4_there_89 : decode cX4_there 89 = .ok (.iinc 1 1, 3) := by decide +kernel
theorem dX4_there_92 : decode cX4_there 92 = .ok (.goto (-90), 3) := by decide +kernel
theorem dX4_there_95 : decode cX4_there 95 = .ok (.iconst (-1), 1) := by decide +kernel
theorem dX4_there_96 : decode cX4_there 96 = .ok (.ireturn, 1) := by decide +kernel
theorem dX4_bucketOf_0 : decode cX4_bucketOf 0 = .ok (.lconst 0, 1) := by decide +kernel
theorem dX4_bucketOf_1 : decode cX4_bucketOf 1 = .ok (.lstore_n 3, 1) := by decide +kernel
theorem dX4_bucketOf_2 : decode cX4_bucketOf 2 = .ok (.iconst 0, 1) := by decide +kernel
theorem dX4_bucketOf_3 : decode cX4_bucketOf 3 = .ok (.istore 5, 2) := by decide +kernel
theorem dX4_bucketOf_5 : decode cX4_bucketOf 5 = .ok (.iload 5, 2) := by decide +kernel
theorem dX4_bucketOf_7 : decode cX4_bucketOf 7 = .ok (.aload_n 0, 1) := by decide +kernel
theorem dX4_bucketOf_8 : decode cX4_bucketOf 8 = .ok (.getfield 45, 3) := by decide +kernel
theorem dX4_bucketOf_11 : decode cX4_bucketOf 11 = .ok (.if_icmp .ge 45, 3) := by decide +kernel
theorem dX4_bucketOf_14 : decode cX4_bucketOf 14 = .ok (.aload_n 1, 1) := by decide +kernel
theorem dX4_bucketOf_15 : decode cX4_bucketOf 15 = .ok (.iload_n 2, 1) := by decide +kernel
theorem dX4_bucketOf_16 : decode cX4_bucketOf 16 = .ok (.iload 5, 2) := by decide +kernel
theorem dX4_bucketOf_18 : decode cX4_bucketOf 18 = .ok (.iadd, 1) := by decide +kernel
theorem dX4_bucketOf_19 : decode cX4_bucketOf 19 = .ok (.laload, 1) := by decide +kernel
theorem dX4_bucketOf_20 : decode cX4_bucketOf 20 = .ok (.aload_n 0, 1) := by decide +kernel
theorem dX4_bucketOf_21 : decode cX4_bucketOf 21 = .ok (.iload 5, 2) := by decide +kernel
theorem dX4_bucketOf_23 : decode cX4_bucketOf 23 = .ok (.invokevirtual 78, 3) := by decide +kernel
theorem dX4_bucketOf_26 : decode cX4_bucketOf 26 = .ok (.land, 1) := by decide +kernel
theorem dX4_bucketOf_27 : decode cX4_bucketOf 27 = .ok (.lstore 6, 2) := by decide +kernel
theorem dX4_bucketOf_29 : decode cX4_bucketOf 29 = .ok (.ldc2_w 82, 3) := by decide +kernel
theorem dX4_bucketOf_32 : decode cX4_bucketOf 32 = .ok (.lload_n 3, 1) := by decide +kernel
theorem dX4_bucketOf_33 : decode cX4_bucketOf 33 = .ok (.lmul, 1) := by decide +kernel
theorem dX4_bucketOf_34 : decode cX4_bucketOf 34 = .ok (.lload 6, 2) := by decide +kernel
theorem dX4_bucketOf_36 : decode cX4_bucketOf 36 = .ok (.lload 6, 2) := by decide +kernel
theorem dX4_bucketOf_38 : decode cX4_bucketOf 38 = .ok (.bipush 32, 2) := by decide +kernel
theorem dX4_bucketOf_40 : decode cX4_bucketOf 40 = .ok (.lushr, 1) := by decide +kernel
theorem dX4_bucketOf_41 : decode cX4_bucketOf 41 = .ok (.lxor, 1) := by decide +kernel
theorem dX4_bucketOf_42 : decode cX4_bucketOf 42 = .ok (.lload 6, 2) := by decide +kernel
theorem dX4_bucketOf_44 : decode cX4_bucketOf 44 = .ok (.bipush 17, 2) := by decide +kernel
theorem dX4_bucketOf_46 : decode cX4_bucketOf 46 = .ok (.lushr, 1) := by decide +kernel
theorem dX4_bucketOf_47 : decode cX4_bucketOf 47 = .ok (.lxor, 1) := by decide +kernel
theorem dX4_bucketOf_48 : decode cX4_bucketOf 48 = .ok (.ladd, 1) := by decide +kernel
theorem dX4_bucketOf_49 : decode cX4_bucketOf 49 = .ok (.lstore_n 3, 1) := by decide +kernel
theorem dX4_bucketOf_50 : decode cX4_bucketOf 50 = .ok (.iinc 5 1, 3) := by decide +kernel
theorem dX4_bucketOf_53 : decode cX4_bucketOf 53 = .ok (.goto (-48), 3) := by decide +kernel
theorem dX4_bucketOf_56 : decode cX4_bucketOf 56 = .ok (.lload_n 3, 1) := by decide +kernel
theorem dX4_bucketOf_57 : decode cX4_bucketOf 57 = .ok (.lload_n 3, 1) := by decide +kernel
theorem dX4_bucketOf_58 : decode cX4_bucketOf 58 = .ok (.bipush 20, 2) := by decide +kernel
theorem dX4_bucketOf_60 : decode cX4_bucketOf 60 = .ok (.lushr, 1) := by decide +kernel
theorem dX4_bucketOf_61 : decode cX4_bucketOf 61 = .ok (.lxor, 1) := by decide +kernel
theorem dX4_bucketOf_62 : decode cX4_bucketOf 62 = .ok (.lload_n 3, 1) := by decide +kernel
theorem dX4_bucketOf_63 : decode cX4_bucketOf 63 = .ok (.bipush 7, 2) := by decide +kernel
theorem dX4_bucketOf_65 : decode cX4_bucketOf 65 = .ok (.lushr, 1) := by decide +kernel
theorem dX4_bucketOf_66 : decode cX4_bucketOf 66 = .ok (.lxor, 1) := by decide +kernel
theorem dX4_bucketOf_67 : decode cX4_bucketOf 67 = .ok (.aload_n 0, 1) := by decide +kernel
theorem dX4_bucketOf_68 : decode cX4_bucketOf 68 = .ok (.getfield 67, 3) := by decide +kernel
theorem dX4_bucketOf_71 : decode cX4_bucketOf 71 = .ok (.iconst 1, 1) := by decide +kernel
theorem dX4_bucketOf_72 : decode cX4_bucketOf 72 = .ok (.isub, 1) := by decide +kernel
theorem dX4_bucketOf_73 : decode cX4_bucketOf 73 = .ok (.i2l, 1) := by decide +kernel
theorem dX4_bucketOf_74 : decode cX4_bucketOf 74 = .ok (.land, 1) := by decide +kernel
theorem dX4_bucketOf_75 : decode cX4_bucketOf 75 = .ok (.l2i, 1) := by decide +kernel
theorem dX4_bucketOf_76 : decode cX4_bucketOf 76 = .ok (.ireturn, 1) := by decide +kernel
theorem dX4_above_0 : decode cX4_above 0 = .ok (.iconst 0, 1) := by decide +kernel
theorem dX4_above_1 : decode cX4_above 1 = .ok (.istore_n 1, 1) := by decide +kernel
theorem dX4_above_2 : decode cX4_above 2 = .ok (.iload_n 1, 1) := by decide +kernel
theorem dX4_above_3 : decode cX4_above 3 = .ok (.bipush 16, 2) := by decide +kernel
theorem dX4_above_5 : decode cX4_above 5 = .ok (.if_icmp .ge 16, 3) := by decide +kernel
theorem dX4_above_8 : decode cX4_above 8 = .ok (.aload_n 0, 1) := by decide +kernel
theorem dX4_above_9 : decode cX4_above 9 = .ok (.getfield 38, 3) := by decide +kernel
theorem dX4_above_12 : decode cX4_above 12 = .ok (.iload_n 1, 1) := by decide +kernel
theorem dX4_above_13 : decode cX4_above 13 = .ok (.iconst 0, 1) := by decide +kernel
theorem dX4_above_14 : decode cX4_above 14 = .ok (.iastore, 1) := by decide +kernel
theorem dX4_above_15 : decode cX4_above 15 = .ok (.iinc 1 1, 3) := by decide +kernel
theorem dX4_above_18 : decode cX4_above 18 = .ok (.goto (-16), 3) := by decide +kernel
theorem dX4_above_21 : decode cX4_above 21 = .ok (.iconst 0, 1) := by decide +kernel
theorem dX4_above_22 : decode cX4_above 22 = .ok (.istore_n 1, 1) := by decide +kernel
theorem dX4_above_23 : decode cX4_above 23 = .ok (.iconst 0, 1) := by decide +kernel
theorem dX4_above_24 : decode cX4_above 24 = .ok (.istore_n 2, 1) := by decide +kernel
theorem dX4_above_25 : decode cX4_above 25 = .ok (.iload_n 2, 1) := by decide +kernel
theorem dX4_above_26 : decode cX4_above 26 = .ok (.aload_n 0, 1) := by decide +kernel
theorem dX4_above_27 : decode cX4_above 27 = .ok (.getfield 52, 3) := by decide +kernel
theorem dX4_above_30 : decode cX4_above 30 = .ok (.if_icmp .ge 47, 3) := by decide +kernel
theorem dX4_above_33 : decode cX4_above 33 = .ok (.aload_n 0, 1) := by decide +kernel
theorem dX4_above_34 : decode cX4_above 34 = .ok (.aload_n 0, 1) := by decide +kernel
theorem dX4_above_35 : decode cX4_above 35 = .ok (.getfield 23, 3) := by decide +kernel
theorem dX4_above_38 : decode cX4_above 38 = .ok (.iconst 4, 1) := by decide +kernel
theorem dX4_above_39 : decode cX4_above 39 = .ok (.iload_n 2, 1) := by decide +kernel
theorem dX4_above_40 : decode cX4_above 40 = .ok (.imul, 1) := by decide +kernel
theorem dX4_above_41 : decode cX4_above 41 = .ok (.invokevirtual 84, 3) := by decide +kernel
theorem dX4_above_44 : decode cX4_above 44 = .ok (.istore_n 3, 1) := by decide +kernel
theorem dX4_above_45 : decode cX4_above 45 = .ok (.aload_n 0, 1) := by decide +kernel
theorem dX4_above_46 : decode cX4_above 46 = .ok (.getfield 38, 3) := by decide +kernel
theorem dX4_above_49 : decode cX4_above 49 = .ok (.iload_n 3, 1) := by decide +kernel
theorem dX4_above_50 : decode cX4_above 50 = .ok (.dup2, 1) := by decide +kernel
theorem dX4_above_51 : decode cX4_above 51 = .ok (.iaload, 1) := by decide +kernel
theorem dX4_above_52 : decode cX4_above 52 = .ok (.iconst 1, 1) := by decide +kernel
theorem dX4_above_53 : decode cX4_above 53 = .ok (.iadd, 1) := by decide +kernel
theorem dX4_above_54 : decode cX4_above 54 = .ok (.iastore, 1) := by decide +kernel
theorem dX4_above_55 : decode cX4_above 55 = .ok (.aload_n 0, 1) := by decide +kernel
theorem dX4_above_56 : decode cX4_above 56 = .ok (.getfield 38, 3) := by decide +kernel
theorem dX4_above_59 : decode cX4_above 59 = .ok (.iload_n 3, 1) := by decide +kernel
theorem dX4_above_60 : decode cX4_above 60 = .ok (.iaload, 1) := by decide +kernel
theorem dX4_above_61 : decode cX4_above 61 = .ok (.aload_n 0, 1) := by decide +kernel
theorem dX4_above_62 : decode cX4_above 62 = .ok (.getfield 70, 3) := by decide +kernel
theorem dX4_above_65 : decode cX4_above 65 = .ok (.if_icmp .le 6, 3) := by decide +kernel
theorem dX4_above_68 : decode cX4_above 68 = .ok (.iinc 1 1, 3) := by decide +kernel
theorem dX4_above_71 : decode cX4_above 71 = .ok (.iinc 2 1, 3) := by decide +kernel
theorem dX4_above_74 : decode cX4_above 74 = .ok (.goto (-49), 3) := by decide +kernel
theorem dX4_above_77 : decode cX4_above 77 = .ok (.iload_n 1, 1) := by decide +kernel
theorem dX4_above_78 : decode cX4_above 78 = .ok (.ireturn, 1) := by decide +kernel
theorem dX4_write_0 : decode cX4_write 0 = .ok (.iconst 0, 1) := by decide +kernel
theorem dX4_write_1 : decode cX4_write 1 = .ok (.istore 6, 2) := by decide +kernel
theorem dX4_write_3 : decode cX4_write 3 = .ok (.iload 6, 2) := by decide +kernel
theorem dX4_write_5 : decode cX4_write 5 = .ok (.aload_n 0, 1) := by decide +kernel
theorem dX4_write_6 : decode cX4_write 6 = .ok (.getfield 45, 3) := by decide +kernel
theorem dX4_write_9 : decode cX4_write 9 = .ok (.if_icmp .ge 67, 3) := by decide +kernel
theorem dX4_write_12 : decode cX4_write 12 = .ok (.aload_n 0, 1) := by decide +kernel
theorem dX4_write_13 : decode cX4_write 13 = .ok (.getfield 26, 3) := by decide +kernel
theorem dX4_write_16 : decode cX4_write 16 = .ok (.iconst 4, 1) := by decide +kernel
theorem dX4_write_17 : decode cX4_write 17 = .ok (.iload_n 1, 1) := by decide +kernel
theorem dX4_write_18 : decode cX4_write 18 = .ok (.imul, 1) := by decide +kernel
theorem dX4_write_19 : decode cX4_write 19 = .ok (.iload 6, 2) := by decide +kernel
theorem dX4_write_21 : decode cX4_write 21 = .ok (.iadd, 1) := by decide +kernel
theorem dX4_write_22 : decode cX4_write 22 = .ok (.aload_n 0, 1) := by decide +kernel
theorem dX4_write_23 : decode cX4_write 23 = .ok (.getfield 20, 3) := by decide +kernel
theorem dX4_write_26 : decode cX4_write 26 = .ok (.iload 6, 2) := by decide +kernel
theorem dX4_write_28 : decode cX4_write 28 = .ok (.laload, 1) := by decide +kernel
theorem dX4_write_29 : decode cX4_write 29 = .ok (.aload_n 0, 1) := by decide +kernel
theorem dX4_write_30 : decode cX4_write 30 = .ok (.iload 6, 2) := by decide +kernel
theorem dX4_write_32 : decode cX4_write 32 = .ok (.invokevirtual 78, 3) := by decide +kernel
theorem dX4_write_35 : decode cX4_write 35 = .ok (.land, 1) := by decide +kernel
theorem dX4_write_36 : decode cX4_write 36 = .ok (.lastore, 1) := by decide +kernel
theorem dX4_write_37 : decode cX4_write 37 = .ok (.aload_n 0, 1) := by decide +kernel
theorem dX4_write_38 : decode cX4_write 38 = .ok (.getfield 23, 3) := by decide +kernel
theorem dX4_write_41 : decode cX4_write 41 = .ok (.iconst 4, 1) := by decide +kernel
theorem dX4_write_42 : decode cX4_write 42 = .ok (.iload_n 1, 1) := by decide +kernel
theorem dX4_write_43 : decode cX4_write 43 = .ok (.imul, 1) := by decide +kernel
theorem dX4_write_44 : decode cX4_write 44 = .ok (.iload 6, 2) := by decide +kernel
theorem dX4_write_46 : decode cX4_write 46 = .ok (.iadd, 1) := by decide +kernel
theorem dX4_write_47 : decode cX4_write 47 = .ok (.aload_n 0, 1) := by decide +kernel
theorem dX4_write_48 : decode cX4_write 48 = .ok (.getfield 16, 3) := by decide +kernel
theorem dX4_write_51 : decode cX4_write 51 = .ok (.iload 6, 2) := by decide +kernel
theorem dX4_write_53 : decode cX4_write 53 = .ok (.laload, 1) := by decide +kernel
theorem dX4_write_54 : decode cX4_write 54 = .ok (.aload_n 0, 1) := by decide +kernel
theorem dX4_write_55 : decode cX4_write 55 = .ok (.getfield 20, 3) := by decide +kernel
theorem dX4_write_58 : decode cX4_write 58 = .ok (.iload 6, 2) := by decide +kernel
theorem dX4_write_60 : decode cX4_write 60 = .ok (.laload, 1) := by decide +kernel
theorem dX4_write_61 : decode cX4_write 61 = .ok (.land, 1) := by decide +kernel
theorem dX4_write_62 : decode cX4_write 62 = .ok (.aload_n 0, 1) := by decide +kernel
theorem dX4_write_63 : decode cX4_write 63 = .ok (.iload 6, 2) := by decide +kernel
theorem dX4_write_65 : decode cX4_write 65 = .ok (.invokevirtual 78, 3) := by decide +kernel
theorem dX4_write_68 : decode cX4_write 68 = .ok (.land, 1) := by decide +kernel
theorem dX4_write_69 : decode cX4_write 69 = .ok (.lastore, 1) := by decide +kernel
theorem dX4_write_70 : decode cX4_write 70 = .ok (.iinc 6 1, 3) := by decide +kernel
theorem dX4_write_73 : decode cX4_write 73 = .ok (.goto (-70), 3) := by decide +kernel
theorem dX4_write_76 : decode cX4_write 76 = .ok (.aload_n 0, 1) := by decide +kernel
theorem dX4_write_77 : decode cX4_write 77 = .ok (.getfield 29, 3) := by decide +kernel
theorem dX4_write_80 : decode cX4_write 80 = .ok (.iload_n 1, 1) := by decide +kernel
theorem dX4_write_81 : decode cX4_write 81 = .ok (.iload_n 2, 1) := by decide +kernel
theorem dX4_write_82 : decode cX4_write 82 = .ok (.iastore, 1) := by decide +kernel
theorem dX4_write_83 : decode cX4_write 83 = .ok (.aload_n 0, 1) := by decide +kernel
theorem dX4_write_84 : decode cX4_write 84 = .ok (.getfield 32, 3) := by decide +kernel
theorem dX4_write_87 : decode cX4_write 87 = .ok (.iload_n 1, 1) := by decide +kernel
theorem dX4_write_88 : decode cX4_write 88 = .ok (.iload_n 3, 1) := by decide +kernel
theorem dX4_write_89 : decode cX4_write 89 = .ok (.iastore, 1) := by decide +kernel
theorem dX4_write_90 : decode cX4_write 90 = .ok (.aload_n 0, 1) := by decide +kernel
theorem dX4_write_91 : decode cX4_write 91 = .ok (.getfield 35, 3) := by decide +kernel
theorem dX4_write_94 : decode cX4_write 94 = .ok (.iload_n 1, 1) := by decide +kernel
theorem dX4_write_95 : decode cX4_write 95 = .ok (.lload 4, 2) := by decide +kernel
theorem dX4_write_97 : decode cX4_write 97 = .ok (.lastore, 1) := by decide +kernel
theorem dX4_write_98 : decode cX4_write 98 = .ok (.return_, 1) := by decide +kernel
theorem dX4_insert_0 : decode cX4_insert 0 = .ok (.aload_n 0, 1) := by decide +kernel
theorem dX4_insert_1 : decode cX4_insert 1 = .ok (.aload_n 0, 1) := by decide +kernel
theorem dX4_insert_2 : decode cX4_insert 2 = .ok (.getfield 48, 3) := by decide +kernel
theorem dX4_insert_5 : decode cX4_insert 5 = .ok (.ifCond .eq 7, 3) := by decide +kernel
theorem dX4_insert_8 : decode cX4_insert 8 = .ok (.iconst 0, 1) := by decide +kernel
theorem dX4_insert_9 : decode cX4_insert 9 = .ok (.goto 4, 3) := by decide +kernel
theorem dX4_insert_12 : decode cX4_insert 12 = .ok (.iconst 1, 1) := by decide +kernel
theorem dX4_insert_13 : decode cX4_insert 13 = .ok (.putfield 41, 3) := by decide +kernel
theorem dX4_insert_16 : decode cX4_insert 16 = .ok (.aload_n 0, 1) := by decide +kernel
theorem dX4_insert_17 : decode cX4_insert 17 = .ok (.getfield 41, 3) := by decide +kernel
theorem dX4_insert_20 : decode cX4_insert 20 = .ok (.ifCond .ne 28, 3) := by decide +kernel
theorem dX4_insert_23 : decode cX4_insert 23 = .ok (.iload_n 2, 1) := by decide +kernel
theorem dX4_insert_24 : decode cX4_insert 24 = .ok (.ifCond .lt 24, 3) := by decide +kernel
theorem dX4_insert_27 : decode cX4_insert 27 = .ok (.iload_n 2, 1) := by decide +kernel
theorem dX4_insert_28 : decode cX4_insert 28 = .ok (.bipush 7, 2) := by decide +kernel
theorem dX4_insert_30 : decode cX4_insert 30 = .ok (.if_icmp .gt 18, 3) := by decide +kernel
theorem dX4_insert_33 : decode cX4_insert 33 = .ok (.aload_n 0, 1) := by decide +kernel
theorem dX4_insert_34 : decode cX4_insert 34 = .ok (.invokevirtual 88, 3) := by decide +kernel
theorem dX4_insert_37 : decode cX4_insert 37 = .ok (.ifCond .eq 11, 3) := by decide +kernel
theorem dX4_insert_40 : decode cX4_insert 40 = .ok (.aload_n 0, 1) := by decide +kernel
theorem dX4_insert_41 : decode cX4_insert 41 = .ok (.invokevirtual 91, 3) := by decide +kernel
theorem dX4_insert_44 : decode cX4_insert 44 = .ok (.iconst (-1), 1) := by decide +kernel
theorem dX4_insert_45 : decode cX4_insert 45 = .ok (.if_icmp .eq 5, 3) := by decide +kernel
theorem dX4_insert_48 : decode cX4_insert 48 = .ok (.iconst 0, 1) := by decide +kernel
theorem dX4_insert_49 : decode cX4_insert 49 = .ok (.ireturn, 1) := by decide +kernel
theorem dX4_insert_50 : decode cX4_insert 50 = .ok (.aload_n 0, 1) := by decide +kernel
theorem dX4_insert_51 : decode cX4_insert 51 = .ok (.getfield 52, 3) := by decide +kernel
theorem dX4_insert_54 : decode cX4_insert 54 = .ok (.aload_n 0, 1) := by decide +kernel
theorem dX4_insert_55 : decode cX4_insert 55 = .ok (.invokevirtual 95, 3) := by decide +kernel
theorem dX4_insert_58 : decode cX4_insert 58 = .ok (.if_icmp .ne 5, 3) := by decide +kernel
theorem dX4_insert_61 : decode cX4_insert 61 = .ok (.iconst 0, 1) := by decide +kernel
theorem dX4_insert_62 : decode cX4_insert 62 = .ok (.ireturn, 1) := by decide +kernel
theorem dX4_insert_63 : decode cX4_insert 63 = .ok (.aload_n 0, 1) := by decide +kernel
theorem dX4_insert_64 : decode cX4_insert 64 = .ok (.aload_n 0, 1) := by decide +kernel
theorem dX4_insert_65 : decode cX4_insert 65 = .ok (.getfield 52, 3) := by decide +kernel
theorem dX4_insert_68 : decode cX4_insert 68 = .ok (.iload_n 1, 1) := by decide +kernel
theorem dX4_insert_69 : decode cX4_insert 69 = .ok (.iload_n 2, 1) := by decide +kernel
theorem dX4_insert_70 : decode cX4_insert 70 = .ok (.lload_n 3, 1) := by decide +kernel
theorem dX4_insert_71 : decode cX4_insert 71 = .ok (.invokevirtual 98, 3) := by decide +kernel
theorem dX4_insert_74 : decode cX4_insert 74 = .ok (.aload_n 0, 1) := by decide +kernel
theorem dX4_insert_75 : decode cX4_insert 75 = .ok (.dup, 1) := by decide +kernel
theorem dX4_insert_76 : decode cX4_insert 76 = .ok (.getfield 52, 3) := by decide +kernel
theorem dX4_insert_79 : decode cX4_insert 79 = .ok (.iconst 1, 1) := by decide +kernel
theorem dX4_insert_80 : decode cX4_insert 80 = .ok (.iadd, 1) := by decide +kernel
theorem dX4_insert_81 : decode cX4_insert 81 = .ok (.putfield 52, 3) := by decide +kernel
theorem dX4_insert_84 : decode cX4_insert 84 = .ok (.aload_n 0, 1) := by decide +kernel
theorem dX4_insert_85 : decode cX4_insert 85 = .ok (.invokevirtual 63, 3) := by decide +kernel
theorem dX4_insert_88 : decode cX4_insert 88 = .ok (.ifCond .eq 26, 3) := by decide +kernel
theorem dX4_insert_91 : decode cX4_insert 91 = .ok (.aload_n 0, 1) := by decide +kernel
theorem dX4_insert_92 : decode cX4_insert 92 = .ok (.invokevirtual 102, 3) := by decide +kernel
theorem dX4_insert_95 : decode cX4_insert 95 = .ok (.aload_n 0, 1) := by decide +kernel
theorem dX4_insert_96 : decode cX4_insert 96 = .ok (.getfield 73, 3) := by decide +kernel
theorem dX4_insert_99 : decode cX4_insert 99 = .ok (.if_icmp .le 15, 3) := by decide +kernel
theorem dX4_insert_102 : decode cX4_insert 102 = .ok (.aload_n 0, 1) := by decide +kernel
theorem dX4_insert_103 : decode cX4_insert 103 = .ok (.dup, 1) := by decide +kernel
theorem dX4_insert_104 : decode cX4_insert 104 = .ok (.getfield 52, 3) := by decide +kernel
theorem dX4_insert_107 : decode cX4_insert 107 = .ok (.iconst 1, 1) := by decide +kernel
theorem dX4_insert_108 : decode cX4_insert 108 = .ok (.isub, 1) := by decide +kernel
theorem dX4_insert_109 : decode cX4_insert 109 = .ok (.putfield 52, 3) := by decide +kernel
theorem dX4_insert_112 : decode cX4_insert 112 = .ok (.iconst 0, 1) := by decide +kernel
theorem dX4_insert_113 : decode cX4_insert 113 = .ok (.ireturn, 1) := by decide +kernel
theorem dX4_insert_114 : decode cX4_insert 114 = .ok (.iconst 1, 1) := by decide +kernel
theorem dX4_insert_115 : decode cX4_insert 115 = .ok (.ireturn, 1) := by decide +kernel
theorem dX4_change_0 : decode cX4_change 0 = .ok (.aload_n 0, 1) := by decide +kernel
theorem dX4_change_1 : decode cX4_change 1 = .ok (.aload_n 0, 1) := by decide +kernel
theorem dX4_change_2 : decode cX4_change 2 = .ok (.getfield 48, 3) := by decide +kernel
theorem dX4_change_5 : decode cX4_change 5 = .ok (.ifCond .eq 7, 3) := by decide +kernel
theorem dX4_change_8 : decode cX4_change 8 = .ok (.iconst 0, 1) := by decide +kernel
theorem dX4_change_9 : decode cX4_change 9 = .ok (.goto 4, 3) := by decide +kernel
theorem dX4_change_12 : decode cX4_change 12 = .ok (.iconst 1, 1) := by decide +kernel
theorem dX4_change_13 : decode cX4_change 13 = .ok (.putfield 41, 3) := by decide +kernel
theorem dX4_change_16 : decode cX4_change 16 = .ok (.aload_n 0, 1) := by decide +kernel
theorem dX4_change_17 : decode cX4_change 17 = .ok (.getfield 41, 3) := by decide +kernel
theorem dX4_change_20 : decode cX4_change 20 = .ok (.ifCond .ne 20, 3) := by decide +kernel
theorem dX4_change_23 : decode cX4_change 23 = .ok (.iload_n 1, 1) := by decide +kernel
theorem dX4_change_24 : decode cX4_change 24 = .ok (.ifCond .lt 16, 3) := by decide +kernel
theorem dX4_change_27 : decode cX4_change 27 = .ok (.iload_n 1, 1) := by decide +kernel
theorem dX4_change_28 : decode cX4_change 28 = .ok (.bipush 7, 2) := by decide +kernel
theorem dX4_change_30 : decode cX4_change 30 = .ok (.if_icmp .gt 10, 3) := by decide +kernel
theorem dX4_change_33 : decode cX4_change 33 = .ok (.aload_n 0, 1) := by decide +kernel
theorem dX4_change_34 : decode cX4_change 34 = .ok (.invokevirtual 88, 3) := by decide +kernel
theorem dX4_change_37 : decode cX4_change 37 = .ok (.ifCond .ne 5, 3) := by decide +kernel
theorem dX4_change_40 : decode cX4_change 40 = .ok (.iconst 0, 1) := by decide +kernel
theorem dX4_change_41 : decode cX4_change 41 = .ok (.ireturn, 1) := by decide +kernel
theorem dX4_change_42 : decode cX4_change 42 = .ok (.aload_n 0, 1) := by decide +kernel
theorem dX4_change_43 : decode cX4_change 43 = .ok (.invokevirtual 91, 3) := by decide +kernel
theorem dX4_change_46 : decode cX4_change 46 = .ok (.istore 4, 2) := by decide +kernel
theorem dX4_change_48 : decode cX4_change 48 = .ok (.iload 4, 2) := by decide +kernel
theorem dX4_change_50 : decode cX4_change 50 = .ok (.iconst (-1), 1) := by decide +kernel
theorem dX4_change_51 : decode cX4_change 51 = .ok (.if_icmp .ne 5, 3) := by decide +kernel
theorem dX4_change_54 : decode cX4_change 54 = .ok (.iconst 0, 1) := by decide +kernel
theorem dX4_change_55 : decode cX4_change 55 = .ok (.ireturn, 1) := by decide +kernel
theorem dX4_change_56 : decode cX4_change 56 = .ok (.aload_n 0, 1) := by decide +kernel
theorem dX4_change_57 : decode cX4_change 57 = .ok (.getfield 32, 3) := by decide +kernel
theorem dX4_change_60 : decode cX4_change 60 = .ok (.iload 4, 2) := by decide +kernel
theorem dX4_change_62 : decode cX4_change 62 = .ok (.iload_n 1, 1) := by decide +kernel
theorem dX4_change_63 : decode cX4_change 63 = .ok (.iastore, 1) := by decide +kernel
theorem dX4_change_64 : decode cX4_change 64 = .ok (.aload_n 0, 1) := by decide +kernel
theorem dX4_change_65 : decode cX4_change 65 = .ok (.getfield 35, 3) := by decide +kernel
theorem dX4_change_68 : decode cX4_change 68 = .ok (.iload 4, 2) := by decide +kernel
theorem dX4_change_70 : decode cX4_change 70 = .ok (.lload_n 2, 1) := by decide +kernel
theorem dX4_change_71 : decode cX4_change 71 = .ok (.lastore, 1) := by decide +kernel
theorem dX4_change_72 : decode cX4_change 72 = .ok (.iconst 1, 1) := by decide +kernel
theorem dX4_change_73 : decode cX4_change 73 = .ok (.ireturn, 1) := by decide +kernel
theorem dX4_remove_0 : decode cX4_remove 0 = .ok (.aload_n 0, 1) := by decide +kernel
theorem dX4_remove_1 : decode cX4_remove 1 = .ok (.aload_n 0, 1) := by decide +kernel
theorem dX4_remove_2 : decode cX4_remove 2 = .ok (.getfield 48, 3) := by decide +kernel
theorem dX4_remove_5 : decode cX4_remove 5 = .ok (.ifCond .eq 7, 3) := by decide +kernel
theorem dX4_remove_8 : decode cX4_remove 8 = .ok (.iconst 0, 1) := by decide +kernel
theorem dX4_remove_9 : decode cX4_remove 9 = .ok (.goto 4, 3) := by decide +kernel
theorem dX4_remove_12 : decode cX4_remove 12 = .ok (.iconst 1, 1) := by decide +kernel
theorem dX4_remove_13 : decode cX4_remove 13 = .ok (.putfield 41, 3) := by decide +kernel
theorem dX4_remove_16 : decode cX4_remove 16 = .ok (.aload_n 0, 1) := by decide +kernel
theorem dX4_remove_17 : decode cX4_remove 17 = .ok (.getfield 41, 3) := by decide +kernel
theorem dX4_remove_20 : decode cX4_remove 20 = .ok (.ifCond .ne 10, 3) := by decide +kernel
theorem dX4_remove_23 : decode cX4_remove 23 = .ok (.aload_n 0, 1) := by decide +kernel
theorem dX4_remove_24 : decode cX4_remove 24 = .ok (.invokevirtual 88, 3) := by decide +kernel
theorem dX4_remove_27 : decode cX4_remove 27 = .ok (.ifCond .ne 7, 3) := by decide +kernel
theorem dX4_remove_30 : decode cX4_remove 30 = .ok (.iconst (-1), 1) := by decide +kernel
theorem dX4_remove_31 : decode cX4_remove 31 = .ok (.goto 7, 3) := by decide +kernel
theorem dX4_remove_34 : decode cX4_remove 34 = .ok (.aload_n 0, 1) := by decide +kernel
theorem dX4_remove_35 : decode cX4_remove 35 = .ok (.invokevirtual 91, 3) := by decide +kernel
theorem dX4_remove_38 : decode cX4_remove 38 = .ok (.istore_n 1, 1) := by decide +kernel
theorem dX4_remove_39 : decode cX4_remove 39 = .ok (.iload_n 1, 1) := by decide +kernel
theorem dX4_remove_40 : decode cX4_remove 40 = .ok (.iconst (-1), 1) := by decide +kernel
theorem dX4_remove_41 : decode cX4_remove 41 = .ok (.if_icmp .ne 5, 3) := by decide +kernel
theorem dX4_remove_44 : decode cX4_remove 44 = .ok (.iconst 0, 1) := by decide +kernel
theorem dX4_remove_45 : decode cX4_remove 45 = .ok (.ireturn, 1) := by decide +kernel
theorem dX4_remove_46 : decode cX4_remove 46 = .ok (.aload_n 0, 1) := by decide +kernel
theorem dX4_remove_47 : decode cX4_remove 47 = .ok (.dup, 1) := by decide +kernel
theorem dX4_remove_48 : decode cX4_remove 48 = .ok (.getfield 52, 3) := by decide +kernel
theorem dX4_remove_51 : decode cX4_remove 51 = .ok (.iconst 1, 1) := by decide +kernel
theorem dX4_remove_52 : decode cX4_remove 52 = .ok (.isub, 1) := by decide +kernel
theorem dX4_remove_53 : decode cX4_remove 53 = .ok (.putfield 52, 3) := by decide +kernel
theorem dX4_remove_56 : decode cX4_remove 56 = .ok (.iload_n 1, 1) := by decide +kernel
theorem dX4_remove_57 : decode cX4_remove 57 = .ok (.istore_n 2, 1) := by decide +kernel
theorem dX4_remove_58 : decode cX4_remove 58 = .ok (.iload_n 2, 1) := by decide +kernel
theorem dX4_remove_59 : decode cX4_remove 59 = .ok (.aload_n 0, 1) := by decide +kernel
theorem dX4_remove_60 : decode cX4_remove 60 = .ok (.getfield 52, 3) := by decide +kernel
theorem dX4_remove_63 : decode cX4_remove 63 = .ok (.if_icmp .ge 108, 3) := by decide +kernel
theorem dX4_remove_66 : decode cX4_remove 66 = .ok (.iconst 0, 1) := by decide +kernel
theorem dX4_remove_67 : decode cX4_remove 67 = .ok (.istore_n 3, 1) := by decide +kernel
theorem dX4_remove_68 : decode cX4_remove 68 = .ok (.iload_n 3, 1) := by decide +kernel
theorem dX4_remove_69 : decode cX4_remove 69 = .ok (.iconst 4, 1) := by decide +kernel
theorem dX4_remove_70 : decode cX4_remove 70 = .ok (.if_icmp .ge 53, 3) := by decide +kernel
theorem dX4_remove_73 : decode cX4_remove 73 = .ok (.aload_n 0, 1) := by decide +kernel
theorem dX4_remove_74 : decode cX4_remove 74 = .ok (.getfield 23, 3) := by decide +kernel
theorem dX4_remove_77 : decode cX4_remove 77 = .ok (.iconst 4, 1) := by decide +kernel
theorem dX4_remove_78 : decode cX4_remove 78 = .ok (.iload_n 2, 1) := by decide +kernel
theorem dX4_remove_79 : decode cX4_remove 79 = .ok (.imul, 1) := by decide +kernel
theorem dX4_remove_80 : decode cX4_remove 80 = .ok (.iload_n 3, 1) := by decide +kernel
theorem dX4_remove_81 : decode cX4_remove 81 = .ok (.iadd, 1) := by decide +kernel
theorem dX4_remove_82 : decode cX4_remove 82 = .ok (.aload_n 0, 1) := by decide +kernel
theorem dX4_remove_83 : decode cX4_remove 83 = .ok (.getfield 23, 3) := by decide +kernel
theorem dX4_remove_86 : decode cX4_remove 86 = .ok (.iconst 4, 1) := by decide +kernel
theorem dX4_remove_87 : decode cX4_remove 87 = .ok (.iload_n 2, 1) := by decide +kernel
theorem dX4_remove_88 : decode cX4_remove 88 = .ok (.imul, 1) := by decide +kernel
theorem dX4_remove_89 : decode cX4_remove 89 = .ok (.iconst 4, 1) := by decide +kernel
theorem dX4_remove_90 : decode cX4_remove 90 = .ok (.iadd, 1) := by decide +kernel
theorem dX4_remove_91 : decode cX4_remove 91 = .ok (.iload_n 3, 1) := by decide +kernel
theorem dX4_remove_92 : decode cX4_remove 92 = .ok (.iadd, 1) := by decide +kernel
theorem dX4_remove_93 : decode cX4_remove 93 = .ok (.laload, 1) := by decide +kernel
theorem dX4_remove_94 : decode cX4_remove 94 = .ok (.lastore, 1) := by decide +kernel
theorem dX4_remove_95 : decode cX4_remove 95 = .ok (.aload_n 0, 1) := by decide +kernel
theorem dX4_remove_96 : decode cX4_remove 96 = .ok (.getfield 26, 3) := by decide +kernel
theorem dX4_remove_99 : decode cX4_remove 99 = .ok (.iconst 4, 1) := by decide +kernel
theorem dX4_remove_100 : decode cX4_remove 100 = .ok (.iload_n 2, 1) := by decide +kernel
theorem dX4_remove_101 : decode cX4_remove 101 = .ok (.imul, 1) := by decide +kernel
theorem dX4_remove_102 : decode cX4_remove 102 = .ok (.iload_n 3, 1) := by decide +kernel
theorem dX4_remove_103 : decode cX4_remove 103 = .ok (.iadd, 1) := by decide +kernel
theorem dX4_remove_104 : decode cX4_remove 104 = .ok (.aload_n 0, 1) := by decide +kernel
theorem dX4_remove_105 : decode cX4_remove 105 = .ok (.getfield 26, 3) := by decide +kernel
theorem dX4_remove_108 : decode cX4_remove 108 = .ok (.iconst 4, 1) := by decide +kernel
theorem dX4_remove_109 : decode cX4_remove 109 = .ok (.iload_n 2, 1) := by decide +kernel
theorem dX4_remove_110 : decode cX4_remove 110 = .ok (.imul, 1) := by decide +kernel
theorem dX4_remove_111 : decode cX4_remove 111 = .ok (.iconst 4, 1) := by decide +kernel
theorem dX4_remove_112 : decode cX4_remove 112 = .ok (.iadd, 1) := by decide +kernel
theorem dX4_remove_113 : decode cX4_remove 113 = .ok (.iload_n 3, 1) := by decide +kernel
theorem dX4_remove_114 : decode cX4_remove 114 = .ok (.iadd, 1) := by decide +kernel
theorem dX4_remove_115 : decode cX4_remove 115 = .ok (.laload, 1) := by decide +kernel
theorem dX4_remove_116 : decode cX4_remove 116 = .ok (.lastore, 1) := by decide +kernel
theorem dX4_remove_117 : decode cX4_remove 117 = .ok (.iinc 3 1, 3) := by decide +kernel
theorem dX4_remove_120 : decode cX4_remove 120 = .ok (.goto (-52), 3) := by decide +kernel
theorem dX4_remove_123 : decode cX4_remove 123 = .ok (.aload_n 0, 1) := by decide +kernel
theorem dX4_remove_124 : decode cX4_remove 124 = .ok (.getfield 29, 3) := by decide +kernel
theorem dX4_remove_127 : decode cX4_remove 127 = .ok (.iload_n 2, 1) := by decide +kernel
theorem dX4_remove_128 : decode cX4_remove 128 = .ok (.aload_n 0, 1) := by decide +kernel
theorem dX4_remove_129 : decode cX4_remove 129 = .ok (.getfield 29, 3) := by decide +kernel
theorem dX4_remove_132 : decode cX4_remove 132 = .ok (.iload_n 2, 1) := by decide +kernel
theorem dX4_remove_133 : decode cX4_remove 133 = .ok (.iconst 1, 1) := by decide +kernel
theorem dX4_remove_134 : decode cX4_remove 134 = .ok (.iadd, 1) := by decide +kernel
theorem dX4_remove_135 : decode cX4_remove 135 = .ok (.iaload, 1) := by decide +kernel
theorem dX4_remove_136 : decode cX4_remove 136 = .ok (.iastore, 1) := by decide +kernel
theorem dX4_remove_137 : decode cX4_remove 137 = .ok (.aload_n 0, 1) := by decide +kernel
theorem dX4_remove_138 : decode cX4_remove 138 = .ok (.getfield 32, 3) := by decide +kernel
theorem dX4_remove_141 : decode cX4_remove 141 = .ok (.iload_n 2, 1) := by decide +kernel
theorem dX4_remove_142 : decode cX4_remove 142 = .ok (.aload_n 0, 1) := by decide +kernel
theorem dX4_remove_143 : decode cX4_remove 143 = .ok (.getfield 32, 3) := by decide +kernel
theorem dX4_remove_146 : decode cX4_remove 146 = .ok (.iload_n 2, 1) := by decide +kernel
theorem dX4_remove_147 : decode cX4_remove 147 = .ok (.iconst 1, 1) := by decide +kernel
theorem dX4_remove_148 : decode cX4_remove 148 = .ok (.iadd, 1) := by decide +kernel
theorem dX4_remove_149 : decode cX4_remove 149 = .ok (.iaload, 1) := by decide +kernel
theorem dX4_remove_150 : decode cX4_remove 150 = .ok (.iastore, 1) := by decide +kernel
theorem dX4_remove_151 : decode cX4_remove 151 = .ok (.aload_n 0, 1) := by decide +kernel
theorem dX4_remove_152 : decode cX4_remove 152 = .ok (.getfield 35, 3) := by decide +kernel
theorem dX4_remove_155 : decode cX4_remove 155 = .ok (.iload_n 2, 1) := by decide +kernel
theorem dX4_remove_156 : decode cX4_remove 156 = .ok (.aload_n 0, 1) := by decide +kernel
theorem dX4_remove_157 : decode cX4_remove 157 = .ok (.getfield 35, 3) := by decide +kernel
theorem dX4_remove_160 : decode cX4_remove 160 = .ok (.iload_n 2, 1) := by decide +kernel
theorem dX4_remove_161 : decode cX4_remove 161 = .ok (.iconst 1, 1) := by decide +kernel
theorem dX4_remove_162 : decode cX4_remove 162 = .ok (.iadd, 1) := by decide +kernel
theorem dX4_remove_163 : decode cX4_remove 163 = .ok (.laload, 1) := by decide +kernel
theorem dX4_remove_164 : decode cX4_remove 164 = .ok (.lastore, 1) := by decide +kernel
theorem dX4_remove_165 : decode cX4_remove 165 = .ok (.iinc 2 1, 3) := by decide +kernel
theorem dX4_remove_168 : decode cX4_remove 168 = .ok (.goto (-110), 3) := by decide +kernel
theorem dX4_remove_171 : decode cX4_remove 171 = .ok (.iconst 1, 1) := by decide +kernel
theorem dX4_remove_172 : decode cX4_remove 172 = .ok (.ireturn, 1) := by decide +kernel
theorem dX4_matches_0 : decode cX4_matches 0 = .ok (.iconst 0, 1) := by decide +kernel
theorem dX4_matches_1 : decode cX4_matches 1 = .ok (.istore_n 2, 1) := by decide +kernel
theorem dX4_matches_2 : decode cX4_matches 2 = .ok (.iload_n 2, 1) := by decide +kernel
theorem dX4_matches_3 : decode cX4_matches 3 = .ok (.aload_n 0, 1) := by decide +kernel
theorem dX4_matches_4 : decode cX4_matches 4 = .ok (.getfield 45, 3) := by decide +kernel
theorem dX4_matches_7 : decode cX4_matches 7 = .ok (.if_icmp .ge 42, 3) := by decide +kernel
theorem dX4_matches_10 : decode cX4_matches 10 = .ok (.aload_n 0, 1) := by decide +kernel
theorem dX4_matches_11 : decode cX4_matches 11 = .ok (.getfield 16, 3) := by decide +kernel
theorem dX4_matches_14 : decode cX4_matches 14 = .ok (.iload_n 2, 1) := by decide +kernel
theorem dX4_matches_15 : decode cX4_matches 15 = .ok (.laload, 1) := by decide +kernel
theorem dX4_matches_16 : decode cX4_matches 16 = .ok (.aload_n 0, 1) := by decide +kernel
theorem dX4_matches_17 : decode cX4_matches 17 = .ok (.getfield 26, 3) := by decide +kernel
theorem dX4_matches_20 : decode cX4_matches 20 = .ok (.iconst 4, 1) := by decide +kernel
theorem dX4_matches_21 : decode cX4_matches 21 = .ok (.iload_n 1, 1) := by decide +kernel
theorem dX4_matches_22 : decode cX4_matches 22 = .ok (.imul, 1) := by decide +kernel
theorem dX4_matches_23 : decode cX4_matches 23 = .ok (.iload_n 2, 1) := by decide +kernel
theorem dX4_matches_24 : decode cX4_matches 24 = .ok (.iadd, 1) := by decide +kernel
theorem dX4_matches_25 : decode cX4_matches 25 = .ok (.laload, 1) := by decide +kernel
theorem dX4_matches_26 : decode cX4_matches 26 = .ok (.land, 1) := by decide +kernel
theorem dX4_matches_27 : decode cX4_matches 27 = .ok (.aload_n 0, 1) := by decide +kernel
theorem dX4_matches_28 : decode cX4_matches 28 = .ok (.getfield 23, 3) := by decide +kernel
theorem dX4_matches_31 : decode cX4_matches 31 = .ok (.iconst 4, 1) := by decide +kernel
theorem dX4_matches_32 : decode cX4_matches 32 = .ok (.iload_n 1, 1) := by decide +kernel
theorem dX4_matches_33 : decode cX4_matches 33 = .ok (.imul, 1) := by decide +kernel
theorem dX4_matches_34 : decode cX4_matches 34 = .ok (.iload_n 2, 1) := by decide +kernel
theorem dX4_matches_35 : decode cX4_matches 35 = .ok (.iadd, 1) := by decide +kernel
theorem dX4_matches_36 : decode cX4_matches 36 = .ok (.laload, 1) := by decide +kernel
theorem dX4_matches_37 : decode cX4_matches 37 = .ok (.lcmp, 1) := by decide +kernel
theorem dX4_matches_38 : decode cX4_matches 38 = .ok (.ifCond .eq 5, 3) := by decide +kernel
theorem dX4_matches_41 : decode cX4_matches 41 = .ok (.iconst 0, 1) := by decide +kernel
theorem dX4_matches_42 : decode cX4_matches 42 = .ok (.ireturn, 1) := by decide +kernel
theorem dX4_matches_43 : decode cX4_matches 43 = .ok (.iinc 2 1, 3) := by decide +kernel
theorem dX4_matches_46 : decode cX4_matches 46 = .ok (.goto (-44), 3) := by decide +kernel
theorem dX4_matches_49 : decode cX4_matches 49 = .ok (.iconst 1, 1) := by decide +kernel
theorem dX4_matches_50 : decode cX4_matches 50 = .ok (.ireturn, 1) := by decide +kernel
theorem dX4_prefixOnes_0 : decode cX4_prefixOnes 0 = .ok (.iconst 0, 1) := by decide +kernel
theorem dX4_prefixOnes_1 : decode cX4_prefixOnes 1 = .ok (.istore_n 2, 1) := by decide +kernel
theorem dX4_prefixOnes_2 : decode cX4_prefixOnes 2 = .ok (.iload_n 2, 1) := by decide +kernel
theorem dX4_prefixOnes_3 : decode cX4_prefixOnes 3 = .ok (.aload_n 0, 1) := by decide +kernel
theorem dX4_prefixOnes_4 : decode cX4_prefixOnes 4 = .ok (.getfield 45, 3) := by decide +kernel
theorem dX4_prefixOnes_7 : decode cX4_prefixOnes 7 = .ok (.if_icmp .ge 33, 3) := by decide +kernel
theorem dX4_prefixOnes_10 : decode cX4_prefixOnes 10 = .ok (.aload_n 0, 1) := by decide +kernel
theorem dX4_prefixOnes_11 : decode cX4_prefixOnes 11 = .ok (.getfield 13, 3) := by decide +kernel
theorem dX4_prefixOnes_14 : decode cX4_prefixOnes 14 = .ok (.iload_n 2, 1) := by decide +kernel
theorem dX4_prefixOnes_15 : decode cX4_prefixOnes 15 = .ok (.iaload, 1) := by decide +kernel
theorem dX4_prefixOnes_16 : decode cX4_prefixOnes 16 = .ok (.iconst 1, 1) := by decide +kernel
theorem dX4_prefixOnes_17 : decode cX4_prefixOnes 17 = .ok (.if_icmp .ne 17, 3) := by decide +kernel
theorem dX4_prefixOnes_20 : decode cX4_prefixOnes 20 = .ok (.aload_n 0, 1) := by decide +kernel
theorem dX4_prefixOnes_21 : decode cX4_prefixOnes 21 = .ok (.getfield 26, 3) := by decide +kernel
theorem dX4_prefixOnes_24 : decode cX4_prefixOnes 24 = .ok (.iconst 4, 1) := by decide +kernel
theorem dX4_prefixOnes_25 : decode cX4_prefixOnes 25 = .ok (.iload_n 1, 1) := by decide +kernel
theorem dX4_prefixOnes_26 : decode cX4_prefixOnes 26 = .ok (.imul, 1) := by decide +kernel
theorem dX4_prefixOnes_27 : decode cX4_prefixOnes 27 = .ok (.iload_n 2, 1) := by decide +kernel
theorem dX4_prefixOnes_28 : decode cX4_prefixOnes 28 = .ok (.iadd, 1) := by decide +kernel
theorem dX4_prefixOnes_29 : decode cX4_prefixOnes 29 = .ok (.laload, 1) := by decide +kernel
theorem dX4_prefixOnes_30 : decode cX4_prefixOnes 30 = .ok (.invokestatic 105, 3) := by decide +kernel
theorem dX4_prefixOnes_33 : decode cX4_prefixOnes 33 = .ok (.ireturn, 1) := by decide +kernel
theorem dX4_prefixOnes_34 : decode cX4_prefixOnes 34 = .ok (.iinc 2 1, 3) := by decide +kernel
theorem dX4_prefixOnes_37 : decode cX4_prefixOnes 37 = .ok (.goto (-35), 3) := by decide +kernel
theorem dX4_prefixOnes_40 : decode cX4_prefixOnes 40 = .ok (.iconst 0, 1) := by decide +kernel
theorem dX4_prefixOnes_41 : decode cX4_prefixOnes 41 = .ok (.ireturn, 1) := by decide +kernel
theorem dX4_match_0 : decode cX4_match 0 = .ok (.aload_n 0, 1) := by decide +kernel
theorem dX4_match_1 : decode cX4_match 1 = .ok (.aload_n 0, 1) := by decide +kernel
theorem dX4_match_2 : decode cX4_match 2 = .ok (.getfield 48, 3) := by decide +kernel
theorem dX4_match_5 : decode cX4_match 5 = .ok (.ifCond .eq 7, 3) := by decide +kernel
theorem dX4_match_8 : decode cX4_match 8 = .ok (.iconst 0, 1) := by decide +kernel
theorem dX4_match_9 : decode cX4_match 9 = .ok (.goto 4, 3) := by decide +kernel
theorem dX4_match_12 : decode cX4_match 12 = .ok (.iconst 1, 1) := by decide +kernel
theorem dX4_match_13 : decode cX4_match 13 = .ok (.putfield 41, 3) := by decide +kernel
theorem dX4_match_16 : decode cX4_match 16 = .ok (.aload_n 0, 1) := by decide +kernel
theorem dX4_match_17 : decode cX4_match 17 = .ok (.getfield 41, 3) := by decide +kernel
theorem dX4_match_20 : decode cX4_match 20 = .ok (.ifCond .eq 5, 3) := by decide +kernel
theorem dX4_match_23 : decode cX4_match 23 = .ok (.iconst 0, 1) := by decide +kernel
theorem dX4_match_24 : decode cX4_match 24 = .ok (.ireturn, 1) := by decide +kernel
theorem dX4_match_25 : decode cX4_match 25 = .ok (.iconst (-1), 1) := by decide +kernel
theorem dX4_match_26 : decode cX4_match 26 = .ok (.istore_n 1, 1) := by decide +kernel
theorem dX4_match_27 : decode cX4_match 27 = .ok (.iconst 0, 1) := by decide +kernel
theorem dX4_match_28 : decode cX4_match 28 = .ok (.istore_n 2, 1) := by decide +kernel
theorem dX4_match_29 : decode cX4_match 29 = .ok (.iload_n 2, 1) := by decide +kernel
theorem dX4_match_30 : decode cX4_match 30 = .ok (.aload_n 0, 1) := by decide +kernel
theorem dX4_match_31 : decode cX4_match 31 = .ok (.getfield 52, 3) := by decide +kernel
theorem dX4_match_34 : decode cX4_match 34 = .ok (.if_icmp .ge 63, 3) := by decide +kernel
theorem dX4_match_37 : decode cX4_match 37 = .ok (.aload_n 0, 1) := by decide +kernel
theorem dX4_match_38 : decode cX4_match 38 = .ok (.iload_n 2, 1) := by decide +kernel
theorem dX4_match_39 : decode cX4_match 39 = .ok (.invokevirtual 109, 3) := by decide +kernel
theorem dX4_match_42 : decode cX4_match 42 = .ok (.ifCond .eq 49, 3) := by decide +kernel
theorem dX4_match_45 : decode cX4_match 45 = .ok (.iload_n 1, 1) := by decide +kernel
theorem dX4_match_46 : decode cX4_match 46 = .ok (.iconst (-1), 1) := by decide +kernel
theorem dX4_match_47 : decode cX4_match 47 = .ok (.if_icmp .ne 7, 3) := by decide +kernel
theorem dX4_match_50 : decode cX4_match 50 = .ok (.iconst 1, 1) := by decide +kernel
theorem dX4_match_51 : decode cX4_match 51 = .ok (.goto 14, 3) := by decide +kernel
theorem dX4_match_54 : decode cX4_match 54 = .ok (.aload_n 0, 1) := by decide +kernel
theorem dX4_match_55 : decode cX4_match 55 = .ok (.iload_n 2, 1) := by decide +kernel
theorem dX4_match_56 : decode cX4_match 56 = .ok (.invokevirtual 112, 3) := by decide +kernel
theorem dX4_match_59 : decode cX4_match 59 = .ok (.aload_n 0, 1) := by decide +kernel
theorem dX4_match_60 : decode cX4_match 60 = .ok (.iload_n 1, 1) := by decide +kernel
theorem dX4_match_61 : decode cX4_match 61 = .ok (.invokevirtual 112, 3) := by decide +kernel
theorem dX4_match_64 : decode cX4_match 64 = .ok (.isub, 1) := by decide +kernel
theorem dX4_match_65 : decode cX4_match 65 = .ok (.istore_n 3, 1) := by decide +kernel
theorem dX4_match_66 : decode cX4_match 66 = .ok (.iload_n 3, 1) := by decide +kernel
theorem dX4_match_67 : decode cX4_match 67 = .ok (.ifCond .gt 22, 3) := by decide +kernel
theorem dX4_match_70 : decode cX4_match 70 = .ok (.iload_n 3, 1) := by decide +kernel
theorem dX4_match_71 : decode cX4_match 71 = .ok (.ifCond .ne 20, 3) := by decide +kernel
theorem dX4_match_74 : decode cX4_match 74 = .ok (.aload_n 0, 1) := by decide +kernel
theorem dX4_match_75 : decode cX4_match 75 = .ok (.getfield 29, 3) := by decide +kernel
theorem dX4_match_78 : decode cX4_match 78 = .ok (.iload_n 2, 1) := by decide +kernel
theorem dX4_match_79 : decode cX4_match 79 = .ok (.iaload, 1) := by decide +kernel
theorem dX4_match_80 : decode cX4_match 80 = .ok (.aload_n 0, 1) := by decide +kernel
theorem dX4_match_81 : decode cX4_match 81 = .ok (.getfield 29, 3) := by decide +kernel
theorem dX4_match_84 : decode cX4_match 84 = .ok (.iload_n 1, 1) := by decide +kernel
theorem dX4_match_85 : decode cX4_match 85 = .ok (.iaload, 1) := by decide +kernel
theorem dX4_match_86 : decode cX4_match 86 = .ok (.if_icmp .le 5, 3) := by decide +kernel
theorem dX4_match_89 : decode cX4_match 89 = .ok (.iload_n 2, 1) := by decide +kernel
theorem dX4_match_90 : decode cX4_match 90 = .ok (.istore_n 1, 1) := by decide +kernel
theorem dX4_match_91 : decode cX4_match 91 = .ok (.iinc 2 1, 3) := by decide +kernel
theorem dX4_match_94 : decode cX4_match 94 = .ok (.goto (-65), 3) := by decide +kernel
theorem dX4_match_97 : decode cX4_match 97 = .ok (.aload_n 0, 1) := by decide +kernel
theorem dX4_match_98 : decode cX4_match 98 = .ok (.iload_n 1, 1) := by decide +kernel
theorem dX4_match_99 : decode cX4_match 99 = .ok (.iconst (-1), 1) := by decide +kernel
theorem dX4_match_100 : decode cX4_match 100 = .ok (.if_icmp .ne 7, 3) := by decide +kernel
theorem dX4_match_103 : decode cX4_match 103 = .ok (.lconst 0, 1) := by decide +kernel
theorem dX4_match_104 : decode cX4_match 104 = .ok (.goto 9, 3) := by decide +kernel
theorem dX4_match_107 : decode cX4_match 107 = .ok (.aload_n 0, 1) := by decide +kernel
theorem dX4_match_108 : decode cX4_match 108 = .ok (.getfield 35, 3) := by decide +kernel
theorem dX4_match_111 : decode cX4_match 111 = .ok (.iload_n 1, 1) := by decide +kernel
theorem dX4_match_112 : decode cX4_match 112 = .ok (.laload, 1) := by decide +kernel
theorem dX4_match_113 : decode cX4_match 113 = .ok (.putfield 55, 3) := by decide +kernel
theorem dX4_match_116 : decode cX4_match 116 = .ok (.iload_n 1, 1) := by decide +kernel
theorem dX4_match_117 : decode cX4_match 117 = .ok (.iconst (-1), 1) := by decide +kernel
theorem dX4_match_118 : decode cX4_match 118 = .ok (.if_icmp .ne 7, 3) := by decide +kernel
theorem dX4_match_121 : decode cX4_match 121 = .ok (.iconst (-1), 1) := by decide +kernel
theorem dX4_match_122 : decode cX4_match 122 = .ok (.goto 9, 3) := by decide +kernel
theorem dX4_match_125 : decode cX4_match 125 = .ok (.aload_n 0, 1) := by decide +kernel
theorem dX4_match_126 : decode cX4_match 126 = .ok (.getfield 32, 3) := by decide +kernel
theorem dX4_match_129 : decode cX4_match 129 = .ok (.iload_n 1, 1) := by decide +kernel
theorem dX4_match_130 : decode cX4_match 130 = .ok (.iaload, 1) := by decide +kernel
theorem dX4_match_131 : decode cX4_match 131 = .ok (.ireturn, 1) := by decide +kernel
theorem dX4_datum_0 : decode cX4_datum 0 = .ok (.aload_n 0, 1) := by decide +kernel
theorem dX4_datum_1 : decode cX4_datum 1 = .ok (.iconst 0, 1) := by decide +kernel
theorem dX4_datum_2 : decode cX4_datum 2 = .ok (.putfield 41, 3) := by decide +kernel
theorem dX4_datum_5 : decode cX4_datum 5 = .ok (.aload_n 0, 1) := by decide +kernel
theorem dX4_datum_6 : decode cX4_datum 6 = .ok (.getfield 55, 3) := by decide +kernel
theorem dX4_datum_9 : decode cX4_datum 9 = .ok (.lreturn, 1) := by decide +kernel
theorem dX4_bucket_0 : decode cX4_bucket 0 = .ok (.aload_n 0, 1) := by decide +kernel
theorem dX4_bucket_1 : decode cX4_bucket 1 = .ok (.iconst 0, 1) := by decide +kernel
theorem dX4_bucket_2 : decode cX4_bucket 2 = .ok (.putfield 41, 3) := by decide +kernel
theorem dX4_bucket_5 : decode cX4_bucket 5 = .ok (.aload_n 0, 1) := by decide +kernel
theorem dX4_bucket_6 : decode cX4_bucket 6 = .ok (.getfield 48, 3) := by decide +kernel
theorem dX4_bucket_9 : decode cX4_bucket 9 = .ok (.ifCond .eq 22, 3) := by decide +kernel
theorem dX4_bucket_12 : decode cX4_bucket 12 = .ok (.aload_n 0, 1) := by decide +kernel
theorem dX4_bucket_13 : decode cX4_bucket 13 = .ok (.invokevirtual 63, 3) := by decide +kernel
theorem dX4_bucket_16 : decode cX4_bucket 16 = .ok (.ifCond .eq 15, 3) := by decide +kernel
theorem dX4_bucket_19 : decode cX4_bucket 19 = .ok (.aload_n 0, 1) := by decide +kernel
theorem dX4_bucket_20 : decode cX4_bucket 20 = .ok (.aload_n 0, 1) := by decide +kernel
theorem dX4_bucket_21 : decode cX4_bucket 21 = .ok (.getfield 16, 3) := by decide +kernel
theorem dX4_bucket_24 : decode cX4_bucket 24 = .ok (.iconst 0, 1) := by decide +kernel
theorem dX4_bucket_25 : decode cX4_bucket 25 = .ok (.invokevirtual 84, 3) := by decide +kernel
theorem dX4_bucket_28 : decode cX4_bucket 28 = .ok (.goto 4, 3) := by decide +kernel
theorem dX4_bucket_31 : decode cX4_bucket 31 = .ok (.iconst (-1), 1) := by decide +kernel
theorem dX4_bucket_32 : decode cX4_bucket 32 = .ok (.ireturn, 1) := by decide +kernel
theorem dX4_most_0 : decode cX4_most 0 = .ok (.aload_n 0, 1) := by decide +kernel
theorem dX4_most_1 : decode cX4_most 1 = .ok (.invokevirtual 63, 3) := by decide +kernel
theorem dX4_most_4 : decode cX4_most 4 = .ok (.ifCond .eq 20, 3) := by decide +kernel
theorem dX4_most_7 : decode cX4_most 7 = .ok (.aload_n 0, 1) := by decide +kernel
theorem dX4_most_8 : decode cX4_most 8 = .ok (.getfield 67, 3) := by decide +kernel
theorem dX4_most_11 : decode cX4_most 11 = .ok (.aload_n 0, 1) := by decide +kernel
theorem dX4_most_12 : decode cX4_most 12 = .ok (.getfield 70, 3) := by decide +kernel
theorem dX4_most_15 : decode cX4_most 15 = .ok (.imul, 1) := by decide +kernel
theorem dX4_most_16 : decode cX4_most 16 = .ok (.aload_n 0, 1) := by decide +kernel
theorem dX4_most_17 : decode cX4_most 17 = .ok (.getfield 73, 3) := by decide +kernel
theorem dX4_most_20 : decode cX4_most 20 = .ok (.iadd, 1) := by decide +kernel
theorem dX4_most_21 : decode cX4_most 21 = .ok (.goto 7, 3) := by decide +kernel
theorem dX4_most_24 : decode cX4_most 24 = .ok (.aload_n 0, 1) := by decide +kernel
theorem dX4_most_25 : decode cX4_most 25 = .ok (.getfield 67, 3) := by decide +kernel
theorem dX4_most_28 : decode cX4_most 28 = .ok (.ireturn, 1) := by decide +kernel
theorem dX4_count_0 : decode cX4_count 0 = .ok (.aload_n 0, 1) := by decide +kernel
theorem dX4_count_1 : decode cX4_count 1 = .ok (.iconst 0, 1) := by decide +kernel
theorem dX4_count_2 : decode cX4_count 2 = .ok (.putfield 41, 3) := by decide +kernel
theorem dX4_count_5 : decode cX4_count 5 = .ok (.iload_n 1, 1) := by decide +kernel
theorem dX4_count_6 : decode cX4_count 6 = .ok (.iconst 2, 1) := by decide +kernel
theorem dX4_count_7 : decode cX4_count 7 = .ok (.if_icmp .ne 8, 3) := by decide +kernel
theorem dX4_count_10 : decode cX4_count 10 = .ok (.aload_n 0, 1) := by decide +kernel
theorem dX4_count_11 : decode cX4_count 11 = .ok (.getfield 45, 3) := by decide +kernel
theorem dX4_count_14 : decode cX4_count 14 = .ok (.ireturn, 1) := by decide +kernel
theorem dX4_count_15 : decode cX4_count 15 = .ok (.aload_n 0, 1) := by decide +kernel
theorem dX4_count_16 : decode cX4_count 16 = .ok (.getfield 48, 3) := by decide +kernel
theorem dX4_count_19 : decode cX4_count 19 = .ok (.ifCond .eq 12, 3) := by decide +kernel
theorem dX4_count_22 : decode cX4_count 22 = .ok (.iload_n 1, 1) := by decide +kernel
theorem dX4_count_23 : decode cX4_count 23 = .ok (.ifCond .lt 8, 3) := by decide +kernel
theorem dX4_count_26 : decode cX4_count 26 = .ok (.iload_n 1, 1) := by decide +kernel
theorem dX4_count_27 : decode cX4_count 27 = .ok (.iconst 3, 1) := by decide +kernel
theorem dX4_count_28 : decode cX4_count 28 = .ok (.if_icmp .le 5, 3) := by decide +kernel
theorem dX4_count_31 : decode cX4_count 31 = .ok (.iconst (-1), 1) := by decide +kernel
theorem dX4_count_32 : decode cX4_count 32 = .ok (.ireturn, 1) := by decide +kernel
theorem dX4_count_33 : decode cX4_count 33 = .ok (.iload_n 1, 1) := by decide +kernel
theorem dX4_count_34 : decode cX4_count 34 = .ok (.ifCond .ne 8, 3) := by decide +kernel
theorem dX4_count_37 : decode cX4_count 37 = .ok (.aload_n 0, 1) := by decide +kernel
theorem dX4_count_38 : decode cX4_count 38 = .ok (.getfield 52, 3) := by decide +kernel
theorem dX4_count_41 : decode cX4_count 41 = .ok (.ireturn, 1) := by decide +kernel
theorem dX4_count_42 : decode cX4_count 42 = .ok (.iload_n 1, 1) := by decide +kernel
theorem dX4_count_43 : decode cX4_count 43 = .ok (.iconst 3, 1) := by decide +kernel
theorem dX4_count_44 : decode cX4_count 44 = .ok (.if_icmp .ne 10, 3) := by decide +kernel
theorem dX4_count_47 : decode cX4_count 47 = .ok (.aload_n 0, 1) := by decide +kernel
theorem dX4_count_48 : decode cX4_count 48 = .ok (.invokevirtual 95, 3) := by decide +kernel
theorem dX4_count_51 : decode cX4_count 51 = .ok (.goto 18, 3) := by decide +kernel
theorem dX4_count_54 : decode cX4_count 54 = .ok (.aload_n 0, 1) := by decide +kernel
theorem dX4_count_55 : decode cX4_count 55 = .ok (.invokevirtual 63, 3) := by decide +kernel
theorem dX4_count_58 : decode cX4_count 58 = .ok (.ifCond .eq 10, 3) := by decide +kernel
theorem dX4_count_61 : decode cX4_count 61 = .ok (.aload_n 0, 1) := by decide +kernel
theorem dX4_count_62 : decode cX4_count 62 = .ok (.invokevirtual 102, 3) := by decide +kernel
theorem dX4_count_65 : decode cX4_count 65 = .ok (.goto 4, 3) := by decide +kernel
theorem dX4_count_68 : decode cX4_count 68 = .ok (.iconst 0, 1) := by decide +kernel
theorem dX4_count_69 : decode cX4_count 69 = .ok (.ireturn, 1) := by decide +kernel

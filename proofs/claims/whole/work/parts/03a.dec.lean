theorem dX3_init_0 : decode cX3_init 0 = .ok (.aload_n 0, 1) := by decide +kernel
theorem dX3_init_1 : decode cX3_init 1 = .ok (.invokespecial 3, 3) := by decide +kernel
theorem dX3_init_4 : decode cX3_init 4 = .ok (.aload_n 0, 1) := by decide +kernel
theorem dX3_init_5 : decode cX3_init 5 = .ok (.new 9, 3) := by decide +kernel
theorem dX3_init_8 : decode cX3_init 8 = .ok (.dup, 1) := by decide +kernel
theorem dX3_init_9 : decode cX3_init 9 = .ok (.invokespecial 11, 3) := by decide +kernel
theorem dX3_init_12 : decode cX3_init 12 = .ok (.putfield 12, 3) := by decide +kernel
theorem dX3_init_15 : decode cX3_init 15 = .ok (.aload_n 0, 1) := by decide +kernel
theorem dX3_init_16 : decode cX3_init 16 = .ok (.new 16, 3) := by decide +kernel
theorem dX3_init_19 : decode cX3_init 19 = .ok (.dup, 1) := by decide +kernel
theorem dX3_init_20 : decode cX3_init 20 = .ok (.invokespecial 18, 3) := by decide +kernel
theorem dX3_init_23 : decode cX3_init 23 = .ok (.putfield 19, 3) := by decide +kernel
theorem dX3_init_26 : decode cX3_init 26 = .ok (.aload_n 0, 1) := by decide +kernel
theorem dX3_init_27 : decode cX3_init 27 = .ok (.new 23, 3) := by decide +kernel
theorem dX3_init_30 : decode cX3_init 30 = .ok (.dup, 1) := by decide +kernel
theorem dX3_init_31 : decode cX3_init 31 = .ok (.invokespecial 25, 3) := by decide +kernel
theorem dX3_init_34 : decode cX3_init 34 = .ok (.putfield 26, 3) := by decide +kernel
theorem dX3_init_37 : decode cX3_init 37 = .ok (.aload_n 0, 1) := by decide +kernel
theorem dX3_init_38 : decode cX3_init 38 = .ok (.iconst 4, 1) := by decide +kernel
theorem dX3_init_39 : decode cX3_init 39 = .ok (.newarray .long, 2) := by decide +kernel
theorem dX3_init_41 : decode cX3_init 41 = .ok (.putfield 30, 3) := by decide +kernel
theorem dX3_init_44 : decode cX3_init 44 = .ok (.aload_n 0, 1) := by decide +kernel
theorem dX3_init_45 : decode cX3_init 45 = .ok (.iconst 4, 1) := by decide +kernel
theorem dX3_init_46 : decode cX3_init 46 = .ok (.newarray .long, 2) := by decide +kernel
theorem dX3_init_48 : decode cX3_init 48 = .ok (.putfield 34, 3) := by decide +kernel
theorem dX3_init_51 : decode cX3_init 51 = .ok (.return_, 1) := by decide +kernel
theorem dX3_clear_0 : decode cX3_clear 0 = .ok (.aload_n 0, 1) := by decide +kernel
theorem dX3_clear_1 : decode cX3_clear 1 = .ok (.getfield 12, 3) := by decide +kernel
theorem dX3_clear_4 : decode cX3_clear 4 = .ok (.iconst 0, 1) := by decide +kernel
theorem dX3_clear_5 : decode cX3_clear 5 = .ok (.putfield 37, 3) := by decide +kernel
theorem dX3_clear_8 : decode cX3_clear 8 = .ok (.aload_n 0, 1) := by decide +kernel
theorem dX3_clear_9 : decode cX3_clear 9 = .ok (.getfield 19, 3) := by decide +kernel
theorem dX3_clear_12 : decode cX3_clear 12 = .ok (.iconst 0, 1) := by decide +kernel
theorem dX3_clear_13 : decode cX3_clear 13 = .ok (.putfield 41, 3) := by decide +kernel
theorem dX3_clear_16 : decode cX3_clear 16 = .ok (.aload_n 0, 1) := by decide +kernel
theorem dX3_clear_17 : decode cX3_clear 17 = .ok (.getfield 26, 3) := by decide +kernel
theorem dX3_clear_20 : decode cX3_clear 20 = .ok (.iconst 0, 1) := by decide +kernel
theorem dX3_clear_21 : decode cX3_clear 21 = .ok (.iconst 0, 1) := by decide +kernel
theorem dX3_clear_22 : decode cX3_clear 22 = .ok (.iconst 0, 1) := by decide +kernel
theorem dX3_clear_23 : decode cX3_clear 23 = .ok (.invokevirtual 42, 3) := by decide +kernel
theorem dX3_clear_26 : decode cX3_clear 26 = .ok (.aload_n 0, 1) := by decide +kernel
theorem dX3_clear_27 : decode cX3_clear 27 = .ok (.getfield 30, 3) := by decide +kernel
theorem dX3_clear_30 : decode cX3_clear 30 = .ok (.lconst 0, 1) := by decide +kernel
theorem dX3_clear_31 : decode cX3_clear 31 = .ok (.invokestatic 46, 3) := by decide +kernel
theorem dX3_clear_34 : decode cX3_clear 34 = .ok (.aload_n 0, 1) := by decide +kernel
theorem dX3_clear_35 : decode cX3_clear 35 = .ok (.getfield 34, 3) := by decide +kernel
theorem dX3_clear_38 : decode cX3_clear 38 = .ok (.lconst 0, 1) := by decide +kernel
theorem dX3_clear_39 : decode cX3_clear 39 = .ok (.invokestatic 46, 3) := by decide +kernel
theorem dX3_clear_42 : decode cX3_clear 42 = .ok (.aload_n 0, 1) := by decide +kernel
theorem dX3_clear_43 : decode cX3_clear 43 = .ok (.iconst 0, 1) := by decide +kernel
theorem dX3_clear_44 : decode cX3_clear 44 = .ok (.putfield 52, 3) := by decide +kernel
theorem dX3_clear_47 : decode cX3_clear 47 = .ok (.aload_n 0, 1) := by decide +kernel
theorem dX3_clear_48 : decode cX3_clear 48 = .ok (.iconst 0, 1) := by decide +kernel
theorem dX3_clear_49 : decode cX3_clear 49 = .ok (.putfield 56, 3) := by decide +kernel
theorem dX3_clear_52 : decode cX3_clear 52 = .ok (.aload_n 0, 1) := by decide +kernel
theorem dX3_clear_53 : decode cX3_clear 53 = .ok (.iconst 0, 1) := by decide +kernel
theorem dX3_clear_54 : decode cX3_clear 54 = .ok (.putfield 59, 3) := by decide +kernel
theorem dX3_clear_57 : decode cX3_clear 57 = .ok (.aload_n 0, 1) := by decide +kernel
theorem dX3_clear_58 : decode cX3_clear 58 = .ok (.lconst 0, 1) := by decide +kernel
theorem dX3_clear_59 : decode cX3_clear 59 = .ok (.putfield 62, 3) := by decide +kernel
theorem dX3_clear_62 : decode cX3_clear 62 = .ok (.return_, 1) := by decide +kernel
theorem dX3_key_0 : decode cX3_key 0 = .ok (.iload_n 1, 1) := by decide +kernel
theorem dX3_key_1 : decode cX3_key 1 = .ok (.iconst 1, 1) := by decide +kernel
theorem dX3_key_2 : decode cX3_key 2 = .ok (.if_icmp .lt 18, 3) := by decide +kernel
theorem dX3_key_5 : decode cX3_key 5 = .ok (.iload_n 1, 1) := by decide +kernel
theorem dX3_key_6 : decode cX3_key 6 = .ok (.bipush 64, 2) := by decide +kernel
theorem dX3_key_8 : decode cX3_key 8 = .ok (.if_icmp .gt 12, 3) := by decide +kernel
theorem dX3_key_11 : decode cX3_key 11 = .ok (.iload_n 2, 1) := by decide +kernel
theorem dX3_key_12 : decode cX3_key 12 = .ok (.ifCond .lt 8, 3) := by decide +kernel
theorem dX3_key_15 : decode cX3_key 15 = .ok (.iload_n 2, 1) := by decide +kernel
theorem dX3_key_16 : decode cX3_key 16 = .ok (.iconst 2, 1) := by decide +kernel
theorem dX3_key_17 : decode cX3_key 17 = .ok (.if_icmp .le 13, 3) := by decide +kernel
theorem dX3_key_20 : decode cX3_key 20 = .ok (.new 66, 3) := by decide +kernel
theorem dX3_key_23 : decode cX3_key 23 = .ok (.dup, 1) := by decide +kernel
theorem dX3_key_24 : decode cX3_key 24 = .ok (.ldc 68, 2) := by decide +kernel
theorem dX3_key_26 : decode cX3_key 26 = .ok (.invokespecial 70, 3) := by decide +kernel
theorem dX3_key_29 : decode cX3_key 29 = .ok (.athrow, 1) := by decide +kernel
theorem dX3_key_30 : decode cX3_key 30 = .ok (.aload_n 0, 1) := by decide +kernel
theorem dX3_key_31 : decode cX3_key 31 = .ok (.getfield 52, 3) := by decide +kernel
theorem dX3_key_34 : decode cX3_key 34 = .ok (.ifCond .ne 14, 3) := by decide +kernel
theorem dX3_key_37 : decode cX3_key 37 = .ok (.aload_n 0, 1) := by decide +kernel
theorem dX3_key_38 : decode cX3_key 38 = .ok (.getfield 12, 3) := by decide +kernel
theorem dX3_key_41 : decode cX3_key 41 = .ok (.getfield 37, 3) := by decide +kernel
theorem dX3_key_44 : decode cX3_key 44 = .ok (.iconst 4, 1) := by decide +kernel
theorem dX3_key_45 : decode cX3_key 45 = .ok (.if_icmp .lt 13, 3) := by decide +kernel
theorem dX3_key_48 : decode cX3_key 48 = .ok (.new 73, 3) := by decide +kernel
theorem dX3_key_51 : decode cX3_key 51 = .ok (.dup, 1) := by decide +kernel
theorem dX3_key_52 : decode cX3_key 52 = .ok (.ldc 75, 2) := by decide +kernel
theorem dX3_key_54 : decode cX3_key 54 = .ok (.invokespecial 77, 3) := by decide +kernel
theorem dX3_key_57 : decode cX3_key 57 = .ok (.athrow, 1) := by decide +kernel
theorem dX3_key_58 : decode cX3_key 58 = .ok (.aload_n 0, 1) := by decide +kernel
theorem dX3_key_59 : decode cX3_key 59 = .ok (.getfield 12, 3) := by decide +kernel
theorem dX3_key_62 : decode cX3_key 62 = .ok (.iload_n 2, 1) := by decide +kernel
theorem dX3_key_63 : decode cX3_key 63 = .ok (.invokevirtual 78, 3) := by decide +kernel
theorem dX3_key_66 : decode cX3_key 66 = .ok (.ifCond .ne 13, 3) := by decide +kernel
theorem dX3_key_69 : decode cX3_key 69 = .ok (.new 66, 3) := by decide +kernel
theorem dX3_key_72 : decode cX3_key 72 = .ok (.dup, 1) := by decide +kernel
theorem dX3_key_73 : decode cX3_key 73 = .ok (.ldc 82, 2) := by decide +kernel
theorem dX3_key_75 : decode cX3_key 75 = .ok (.invokespecial 70, 3) := by decide +kernel
theorem dX3_key_78 : decode cX3_key 78 = .ok (.athrow, 1) := by decide +kernel
theorem dX3_key_79 : decode cX3_key 79 = .ok (.aload_n 0, 1) := by decide +kernel
theorem dX3_key_80 : decode cX3_key 80 = .ok (.getfield 12, 3) := by decide +kernel
theorem dX3_key_83 : decode cX3_key 83 = .ok (.iload_n 1, 1) := by decide +kernel
theorem dX3_key_84 : decode cX3_key 84 = .ok (.iload_n 2, 1) := by decide +kernel
theorem dX3_key_85 : decode cX3_key 85 = .ok (.invokevirtual 84, 3) := by decide +kernel
theorem dX3_key_88 : decode cX3_key 88 = .ok (.ireturn, 1) := by decide +kernel
theorem dX3_make_0 : decode cX3_make 0 = .ok (.aload_n 0, 1) := by decide +kernel
theorem dX3_make_1 : decode cX3_make 1 = .ok (.getfield 52, 3) := by decide +kernel
theorem dX3_make_4 : decode cX3_make 4 = .ok (.ifCond .ne 13, 3) := by decide +kernel
theorem dX3_make_7 : decode cX3_make 7 = .ok (.aload_n 0, 1) := by decide +kernel
theorem dX3_make_8 : decode cX3_make 8 = .ok (.getfield 12, 3) := by decide +kernel
theorem dX3_make_11 : decode cX3_make 11 = .ok (.getfield 37, 3) := by decide +kernel
theorem dX3_make_14 : decode cX3_make 14 = .ok (.ifCond .ne 13, 3) := by decide +kernel
theorem dX3_make_17 : decode cX3_make 17 = .ok (.new 73, 3) := by decide +kernel
theorem dX3_make_20 : decode cX3_make 20 = .ok (.dup, 1) := by decide +kernel
theorem dX3_make_21 : decode cX3_make 21 = .ok (.ldc 88, 2) := by decide +kernel
theorem dX3_make_23 : decode cX3_make 23 = .ok (.invokespecial 77, 3) := by decide +kernel
theorem dX3_make_26 : decode cX3_make 26 = .ok (.athrow, 1) := by decide +kernel
theorem dX3_make_27 : decode cX3_make 27 = .ok (.aload_n 0, 1) := by decide +kernel
theorem dX3_make_28 : decode cX3_make 28 = .ok (.getfield 12, 3) := by decide +kernel
theorem dX3_make_31 : decode cX3_make 31 = .ok (.invokevirtual 90, 3) := by decide +kernel
theorem dX3_make_34 : decode cX3_make 34 = .ok (.istore 4, 2) := by decide +kernel
theorem dX3_make_36 : decode cX3_make 36 = .ok (.iload 4, 2) := by decide +kernel
theorem dX3_make_38 : decode cX3_make 38 = .ok (.ifCond .eq 15, 3) := by decide +kernel
theorem dX3_make_41 : decode cX3_make 41 = .ok (.iload_n 1, 1) := by decide +kernel
theorem dX3_make_42 : decode cX3_make 42 = .ok (.iload_n 2, 1) := by decide +kernel
theorem dX3_make_43 : decode cX3_make 43 = .ok (.iload_n 3, 1) := by decide +kernel
theorem dX3_make_44 : decode cX3_make 44 = .ok (.invokestatic 94, 3) := by decide +kernel
theorem dX3_make_47 : decode cX3_make 47 = .ok (.ifCond .ne 23, 3) := by decide +kernel
theorem dX3_make_50 : decode cX3_make 50 = .ok (.goto 10, 3) := by decide +kernel
theorem dX3_make_53 : decode cX3_make 53 = .ok (.iload_n 1, 1) := by decide +kernel
theorem dX3_make_54 : decode cX3_make 54 = .ok (.invokestatic 98, 3) := by decide +kernel
theorem dX3_make_57 : decode cX3_make 57 = .ok (.ifCond .ne 13, 3) := by decide +kernel
theorem dX3_make_60 : decode cX3_make 60 = .ok (.new 66, 3) := by decide +kernel
theorem dX3_make_63 : decode cX3_make 63 = .ok (.dup, 1) := by decide +kernel
theorem dX3_make_64 : decode cX3_make 64 = .ok (.ldc 101, 2) := by decide +kernel
theorem dX3_make_66 : decode cX3_make 66 = .ok (.invokespecial 70, 3) := by decide +kernel
theorem dX3_make_69 : decode cX3_make 69 = .ok (.athrow, 1) := by decide +kernel
theorem dX3_make_70 : decode cX3_make 70 = .ok (.iload 4, 2) := by decide +kernel
theorem dX3_make_72 : decode cX3_make 72 = .ok (.ifCond .eq 13, 3) := by decide +kernel
theorem dX3_make_75 : decode cX3_make 75 = .ok (.aload_n 0, 1) := by decide +kernel
theorem dX3_make_76 : decode cX3_make 76 = .ok (.getfield 26, 3) := by decide +kernel
theorem dX3_make_79 : decode cX3_make 79 = .ok (.iload_n 1, 1) := by decide +kernel
theorem dX3_make_80 : decode cX3_make 80 = .ok (.iload_n 2, 1) := by decide +kernel
theorem dX3_make_81 : decode cX3_make 81 = .ok (.iload_n 3, 1) := by decide +kernel
theorem dX3_make_82 : decode cX3_make 82 = .ok (.invokevirtual 42, 3) := by decide +kernel
theorem dX3_make_85 : decode cX3_make 85 = .ok (.aload_n 0, 1) := by decide +kernel
theorem dX3_make_86 : decode cX3_make 86 = .ok (.iload 4, 2) := by decide +kernel
theorem dX3_make_88 : decode cX3_make 88 = .ok (.ifCond .eq 11, 3) := by decide +kernel
theorem dX3_make_91 : decode cX3_make 91 = .ok (.iload_n 1, 1) := by decide +kernel
theorem dX3_make_92 : decode cX3_make 92 = .ok (.iload_n 2, 1) := by decide +kernel
theorem dX3_make_93 : decode cX3_make 93 = .ok (.imul, 1) := by decide +kernel
theorem dX3_make_94 : decode cX3_make 94 = .ok (.iload_n 3, 1) := by decide +kernel
theorem dX3_make_95 : decode cX3_make 95 = .ok (.iadd, 1) := by decide +kernel
theorem dX3_make_96 : decode cX3_make 96 = .ok (.goto 4, 3) := by decide +kernel
theorem dX3_make_99 : decode cX3_make 99 = .ok (.iload_n 1, 1) := by decide +kernel
theorem dX3_make_100 : decode cX3_make 100 = .ok (.putfield 59, 3) := by decide +kernel
theorem dX3_make_103 : decode cX3_make 103 = .ok (.aload_n 0, 1) := by decide +kernel
theorem dX3_make_104 : decode cX3_make 104 = .ok (.iload 4, 2) := by decide +kernel
theorem dX3_make_106 : decode cX3_make 106 = .ok (.putfield 56, 3) := by decide +kernel
theorem dX3_make_109 : decode cX3_make 109 = .ok (.aload_n 0, 1) := by decide +kernel
theorem dX3_make_110 : decode cX3_make 110 = .ok (.iconst 1, 1) := by decide +kernel
theorem dX3_make_111 : decode cX3_make 111 = .ok (.putfield 52, 3) := by decide +kernel
theorem dX3_make_114 : decode cX3_make 114 = .ok (.return_, 1) := by decide +kernel
theorem dX3_set_0 : decode cX3_set 0 = .ok (.iload_n 1, 1) := by decide +kernel
theorem dX3_set_1 : decode cX3_set 1 = .ok (.ifCond .lt 8, 3) := by decide +kernel
theorem dX3_set_4 : decode cX3_set 4 = .ok (.iload_n 1, 1) := by decide +kernel
theorem dX3_set_5 : decode cX3_set 5 = .ok (.iconst 4, 1) := by decide +kernel
theorem dX3_set_6 : decode cX3_set 6 = .ok (.if_icmp .lt 13, 3) := by decide +kernel
theorem dX3_set_9 : decode cX3_set 9 = .ok (.new 103, 3) := by decide +kernel
theorem dX3_set_12 : decode cX3_set 12 = .ok (.dup, 1) := by decide +kernel
theorem dX3_set_13 : decode cX3_set 13 = .ok (.ldc 105, 2) := by decide +kernel
theorem dX3_set_15 : decode cX3_set 15 = .ok (.invokespecial 107, 3) := by decide +kernel
theorem dX3_set_18 : decode cX3_set 18 = .ok (.athrow, 1) := by decide +kernel
theorem dX3_set_19 : decode cX3_set 19 = .ok (.aload_n 0, 1) := by decide +kernel
theorem dX3_set_20 : decode cX3_set 20 = .ok (.getfield 30, 3) := by decide +kernel
theorem dX3_set_23 : decode cX3_set 23 = .ok (.iload_n 1, 1) := by decide +kernel
theorem dX3_set_24 : decode cX3_set 24 = .ok (.lload_n 2, 1) := by decide +kernel
theorem dX3_set_25 : decode cX3_set 25 = .ok (.lastore, 1) := by decide +kernel
theorem dX3_set_26 : decode cX3_set 26 = .ok (.aload_n 0, 1) := by decide +kernel
theorem dX3_set_27 : decode cX3_set 27 = .ok (.getfield 34, 3) := by decide +kernel
theorem dX3_set_30 : decode cX3_set 30 = .ok (.iload_n 1, 1) := by decide +kernel
theorem dX3_set_31 : decode cX3_set 31 = .ok (.lload 4, 2) := by decide +kernel
theorem dX3_set_33 : decode cX3_set 33 = .ok (.lastore, 1) := by decide +kernel
theorem dX3_set_34 : decode cX3_set 34 = .ok (.return_, 1) := by decide +kernel
theorem dX3_insert_0 : decode cX3_insert 0 = .ok (.aload_n 0, 1) := by decide +kernel
theorem dX3_insert_1 : decode cX3_insert 1 = .ok (.invokevirtual 108, 3) := by decide +kernel
theorem dX3_insert_4 : decode cX3_insert 4 = .ok (.iload_n 2, 1) := by decide +kernel
theorem dX3_insert_5 : decode cX3_insert 5 = .ok (.invokestatic 111, 3) := by decide +kernel
theorem dX3_insert_8 : decode cX3_insert 8 = .ok (.ifCond .eq 25, 3) := by decide +kernel
theorem dX3_insert_11 : decode cX3_insert 11 = .ok (.aload_n 0, 1) := by decide +kernel
theorem dX3_insert_12 : decode cX3_insert 12 = .ok (.invokevirtual 114, 3) := by decide +kernel
theorem dX3_insert_15 : decode cX3_insert 15 = .ok (.ifCond .eq 18, 3) := by decide +kernel
theorem dX3_insert_18 : decode cX3_insert 18 = .ok (.aload_n 0, 1) := by decide +kernel
theorem dX3_insert_19 : decode cX3_insert 19 = .ok (.invokevirtual 117, 3) := by decide +kernel
theorem dX3_insert_22 : decode cX3_insert 22 = .ok (.iconst (-1), 1) := by decide +kernel
theorem dX3_insert_23 : decode cX3_insert 23 = .ok (.if_icmp .ne 10, 3) := by decide +kernel
theorem dX3_insert_26 : decode cX3_insert 26 = .ok (.aload_n 0, 1) := by decide +kernel
theorem dX3_insert_27 : decode cX3_insert 27 = .ok (.invokevirtual 121, 3) := by decide +kernel
theorem dX3_insert_30 : decode cX3_insert 30 = .ok (.ifCond .ne 5, 3) := by decide +kernel
theorem dX3_insert_33 : decode cX3_insert 33 = .ok (.iconst 0, 1) := by decide +kernel
theorem dX3_insert_34 : decode cX3_insert 34 = .ok (.ireturn, 1) := by decide +kernel
theorem dX3_insert_35 : decode cX3_insert 35 = .ok (.aload_n 0, 1) := by decide +kernel
theorem dX3_insert_36 : decode cX3_insert 36 = .ok (.iload_n 1, 1) := by decide +kernel
theorem dX3_insert_37 : decode cX3_insert 37 = .ok (.iload_n 2, 1) := by decide +kernel
theorem dX3_insert_38 : decode cX3_insert 38 = .ok (.lload_n 3, 1) := by decide +kernel
theorem dX3_insert_39 : decode cX3_insert 39 = .ok (.invokevirtual 124, 3) := by decide +kernel
theorem dX3_insert_42 : decode cX3_insert 42 = .ok (.aload_n 0, 1) := by decide +kernel
theorem dX3_insert_43 : decode cX3_insert 43 = .ok (.getfield 26, 3) := by decide +kernel
theorem dX3_insert_46 : decode cX3_insert 46 = .ok (.aload_n 0, 1) := by decide +kernel
theorem dX3_insert_47 : decode cX3_insert 47 = .ok (.invokevirtual 128, 3) := by decide +kernel
theorem dX3_insert_50 : decode cX3_insert 50 = .ok (.invokevirtual 131, 3) := by decide +kernel
theorem dX3_insert_53 : decode cX3_insert 53 = .ok (.iconst 1, 1) := by decide +kernel
theorem dX3_insert_54 : decode cX3_insert 54 = .ok (.ireturn, 1) := by decide +kernel
theorem dX3_change_0 : decode cX3_change 0 = .ok (.aload_n 0, 1) := by decide +kernel
theorem dX3_change_1 : decode cX3_change 1 = .ok (.invokevirtual 108, 3) := by decide +kernel
theorem dX3_change_4 : decode cX3_change 4 = .ok (.aload_n 0, 1) := by decide +kernel
theorem dX3_change_5 : decode cX3_change 5 = .ok (.invokevirtual 117, 3) := by decide +kernel
theorem dX3_change_8 : decode cX3_change 8 = .ok (.istore 4, 2) := by decide +kernel
theorem dX3_change_10 : decode cX3_change 10 = .ok (.iload 4, 2) := by decide +kernel
theorem dX3_change_12 : decode cX3_change 12 = .ok (.iconst (-1), 1) := by decide +kernel
theorem dX3_change_13 : decode cX3_change 13 = .ok (.if_icmp .eq 10, 3) := by decide +kernel
theorem dX3_change_16 : decode cX3_change 16 = .ok (.iload_n 1, 1) := by decide +kernel
theorem dX3_change_17 : decode cX3_change 17 = .ok (.invokestatic 111, 3) := by decide +kernel
theorem dX3_change_20 : decode cX3_change 20 = .ok (.ifCond .ne 5, 3) := by decide +kernel
theorem dX3_change_23 : decode cX3_change 23 = .ok (.iconst 0, 1) := by decide +kernel
theorem dX3_change_24 : decode cX3_change 24 = .ok (.ireturn, 1) := by decide +kernel
theorem dX3_change_25 : decode cX3_change 25 = .ok (.aload_n 0, 1) := by decide +kernel
theorem dX3_change_26 : decode cX3_change 26 = .ok (.getfield 19, 3) := by decide +kernel
theorem dX3_change_29 : decode cX3_change 29 = .ok (.getfield 134, 3) := by decide +kernel
theorem dX3_change_32 : decode cX3_change 32 = .ok (.iload 4, 2) := by decide +kernel
theorem dX3_change_34 : decode cX3_change 34 = .ok (.iload_n 1, 1) := by decide +kernel
theorem dX3_change_35 : decode cX3_change 35 = .ok (.iastore, 1) := by decide +kernel
theorem dX3_change_36 : decode cX3_change 36 = .ok (.aload_n 0, 1) := by decide +kernel
theorem dX3_change_37 : decode cX3_change 37 = .ok (.getfield 19, 3) := by decide +kernel
theorem dX3_change_40 : decode cX3_change 40 = .ok (.getfield 138, 3) := by decide +kernel
theorem dX3_change_43 : decode cX3_change 43 = .ok (.iload 4, 2) := by decide +kernel
theorem dX3_change_45 : decode cX3_change 45 = .ok (.lload_n 2, 1) := by decide +kernel
theorem dX3_change_46 : decode cX3_change 46 = .ok (.lastore, 1) := by decide +kernel
theorem dX3_change_47 : decode cX3_change 47 = .ok (.iconst 1, 1) := by decide +kernel
theorem dX3_change_48 : decode cX3_change 48 = .ok (.ireturn, 1) := by decide +kernel
theorem dX3_remove_0 : decode cX3_remove 0 = .ok (.aload_n 0, 1) := by decide +kernel
theorem dX3_remove_1 : decode cX3_remove 1 = .ok (.invokevirtual 108, 3) := by decide +kernel
theorem dX3_remove_4 : decode cX3_remove 4 = .ok (.aload_n 0, 1) := by decide +kernel
theorem dX3_remove_5 : decode cX3_remove 5 = .ok (.invokevirtual 117, 3) := by decide +kernel
theorem dX3_remove_8 : decode cX3_remove 8 = .ok (.istore_n 1, 1) := by decide +kernel
theorem dX3_remove_9 : decode cX3_remove 9 = .ok (.iload_n 1, 1) := by decide +kernel
theorem dX3_remove_10 : decode cX3_remove 10 = .ok (.iconst (-1), 1) := by decide +kernel
theorem dX3_remove_11 : decode cX3_remove 11 = .ok (.if_icmp .ne 5, 3) := by decide +kernel
theorem dX3_remove_14 : decode cX3_remove 14 = .ok (.iconst 0, 1) := by decide +kernel
theorem dX3_remove_15 : decode cX3_remove 15 = .ok (.ireturn, 1) := by decide +kernel
theorem dX3_remove_16 : decode cX3_remove 16 = .ok (.aload_n 0, 1) := by decide +kernel
theorem dX3_remove_17 : decode cX3_remove 17 = .ok (.getfield 19, 3) := by decide +kernel
theorem dX3_remove_20 : decode cX3_remove 20 = .ok (.iload_n 1, 1) := by decide +kernel
theorem dX3_remove_21 : decode cX3_remove 21 = .ok (.invokevirtual 141, 3) := by decide +kernel
theorem dX3_remove_24 : decode cX3_remove 24 = .ok (.aload_n 0, 1) := by decide +kernel
theorem dX3_remove_25 : decode cX3_remove 25 = .ok (.getfield 26, 3) := by decide +kernel
theorem dX3_remove_28 : decode cX3_remove 28 = .ok (.aload_n 0, 1) := by decide +kernel
theorem dX3_remove_29 : decode cX3_remove 29 = .ok (.invokevirtual 128, 3) := by decide +kernel
theorem dX3_remove_32 : decode cX3_remove 32 = .ok (.invokevirtual 144, 3) := by decide +kernel
theorem dX3_remove_35 : decode cX3_remove 35 = .ok (.iconst 1, 1) := by decide +kernel
theorem dX3_remove_36 : decode cX3_remove 36 = .ok (.ireturn, 1) := by decide +kernel
theorem dX3_match_0 : decode cX3_match 0 = .ok (.aload_n 0, 1) := by decide +kernel
theorem dX3_match_1 : decode cX3_match 1 = .ok (.invokevirtual 108, 3) := by decide +kernel
theorem dX3_match_4 : decode cX3_match 4 = .ok (.iconst (-1), 1) := by decide +kernel
theorem dX3_match_5 : decode cX3_match 5 = .ok (.istore_n 1, 1) := by decide +kernel
theorem dX3_match_6 : decode cX3_match 6 = .ok (.iconst 0, 1) := by decide +kernel
theorem dX3_match_7 : decode cX3_match 7 = .ok (.istore_n 2, 1) := by decide +kernel
theorem dX3_match_8 : decode cX3_match 8 = .ok (.iload_n 2, 1) := by decide +kernel
theorem dX3_match_9 : decode cX3_match 9 = .ok (.aload_n 0, 1) := by decide +kernel
theorem dX3_match_10 : decode cX3_match 10 = .ok (.getfield 19, 3) := by decide +kernel
theorem dX3_match_13 : decode cX3_match 13 = .ok (.getfield 41, 3) := by decide +kernel
theorem dX3_match_16 : decode cX3_match 16 = .ok (.if_icmp .ge 36, 3) := by decide +kernel
theorem dX3_match_19 : decode cX3_match 19 = .ok (.aload_n 0, 1) := by decide +kernel
theorem dX3_match_20 : decode cX3_match 20 = .ok (.iload_n 2, 1) := by decide +kernel
theorem dX3_match_21 : decode cX3_match 21 = .ok (.invokevirtual 147, 3) := by decide +kernel
theorem dX3_match_24 : decode cX3_match 24 = .ok (.ifCond .eq 22, 3) := by decide +kernel
theorem dX3_match_27 : decode cX3_match 27 = .ok (.iload_n 1, 1) := by decide +kernel
theorem dX3_match_28 : decode cX3_match 28 = .ok (.iconst (-1), 1) := by decide +kernel
theorem dX3_match_29 : decode cX3_match 29 = .ok (.if_icmp .eq 15, 3) := by decide +kernel
theorem dX3_match_32 : decode cX3_match 32 = .ok (.aload_n 0, 1) := by decide +kernel
theorem dX3_match_33 : decode cX3_match 33 = .ok (.getfield 19, 3) := by decide +kernel
theorem dX3_match_36 : decode cX3_match 36 = .ok (.iload_n 2, 1) := by decide +kernel
theorem dX3_match_37 : decode cX3_match 37 = .ok (.iload_n 1, 1) := by decide +kernel
theorem dX3_match_38 : decode cX3_match 38 = .ok (.invokevirtual 150, 3) := by decide +kernel
theorem dX3_match_41 : decode cX3_match 41 = .ok (.ifCond .eq 5, 3) := by decide +kernel
theorem dX3_match_44 : decode cX3_match 44 = .ok (.iload_n 2, 1) := by decide +kernel
theorem dX3_match_45 : decode cX3_match 45 = .ok (.istore_n 1, 1) := by decide +kernel
theorem dX3_match_46 : decode cX3_match 46 = .ok (.iinc 2 1, 3) := by decide +kernel
theorem dX3_match_49 : decode cX3_match 49 = .ok (.goto (-41), 3) := by decide +kernel
theorem dX3_match_52 : decode cX3_match 52 = .ok (.aload_n 0, 1) := by decide +kernel
theorem dX3_match_53 : decode cX3_match 53 = .ok (.iload_n 1, 1) := by decide +kernel
theorem dX3_match_54 : decode cX3_match 54 = .ok (.iconst (-1), 1) := by decide +kernel
theorem dX3_match_55 : decode cX3_match 55 = .ok (.if_icmp .ne 7, 3) := by decide +kernel
theorem dX3_match_58 : decode cX3_match 58 = .ok (.lconst 0, 1) := by decide +kernel
theorem dX3_match_59 : decode cX3_match 59 = .ok (.goto 12, 3) := by decide +kernel
theorem dX3_match_62 : decode cX3_match 62 = .ok (.aload_n 0, 1) := by decide +kernel
theorem dX3_match_63 : decode cX3_match 63 = .ok (.getfield 19, 3) := by decide +kernel
theorem dX3_match_66 : decode cX3_match 66 = .ok (.getfield 138, 3) := by decide +kernel
theorem dX3_match_69 : decode cX3_match 69 = .ok (.iload_n 1, 1) := by decide +kernel
theorem dX3_match_70 : decode cX3_match 70 = .ok (.laload, 1) := by decide +kernel
theorem dX3_match_71 : decode cX3_match 71 = .ok (.putfield 62, 3) := by decide +kernel
theorem dX3_match_74 : decode cX3_match 74 = .ok (.iload_n 1, 1) := by decide +kernel
theorem dX3_match_75 : decode cX3_match 75 = .ok (.iconst (-1), 1) := by decide +kernel
theorem dX3_match_76 : decode cX3_match 76 = .ok (.if_icmp .ne 7, 3) := by decide +kernel
theorem dX3_match_79 : decode cX3_match 79 = .ok (.iconst (-1), 1) := by decide +kernel
theorem dX3_match_80 : decode cX3_match 80 = .ok (.goto 12, 3) := by decide +kernel
theorem dX3_match_83 : decode cX3_match 83 = .ok (.aload_n 0, 1) := by decide +kernel
theorem dX3_match_84 : decode cX3_match 84 = .ok (.getfield 19, 3) := by decide +kernel
theorem dX3_match_87 : decode cX3_match 87 = .ok (.getfield 134, 3) := by decide +kernel
theorem dX3_match_90 : decode cX3_match 90 = .ok (.iload_n 1, 1) := by decide +kernel
theorem dX3_match_91 : decode cX3_match 91 = .ok (.iaload, 1) := by decide +kernel
theorem dX3_match_92 : decode cX3_match 92 = .ok (.ireturn, 1) := by decide +kernel
theorem dX3_datum_0 : decode cX3_datum 0 = .ok (.aload_n 0, 1) := by decide +kernel
theorem dX3_datum_1 : decode cX3_datum 1 = .ok (.getfield 62, 3) := by decide +kernel
theorem dX3_datum_4 : decode cX3_datum 4 = .ok (.lreturn, 1) := by decide +kernel
theorem dX3_bucket_0 : decode cX3_bucket 0 = .ok (.aload_n 0, 1) := by decide +kernel
theorem dX3_bucket_1 : decode cX3_bucket 1 = .ok (.getfield 56, 3) := by decide +kernel
theorem dX3_bucket_4 : decode cX3_bucket 4 = .ok (.ifCond .ne 5, 3) := by decide +kernel
theorem dX3_bucket_7 : decode cX3_bucket 7 = .ok (.iconst (-1), 1) := by decide +kernel
theorem dX3_bucket_8 : decode cX3_bucket 8 = .ok (.ireturn, 1) := by decide +kernel
theorem dX3_bucket_9 : decode cX3_bucket 9 = .ok (.lconst 0, 1) := by decide +kernel
theorem dX3_bucket_10 : decode cX3_bucket 10 = .ok (.lstore_n 1, 1) := by decide +kernel
theorem dX3_bucket_11 : decode cX3_bucket 11 = .ok (.iconst 0, 1) := by decide +kernel
theorem dX3_bucket_12 : decode cX3_bucket 12 = .ok (.istore_n 3, 1) := by decide +kernel
theorem dX3_bucket_13 : decode cX3_bucket 13 = .ok (.iload_n 3, 1) := by decide +kernel
theorem dX3_bucket_14 : decode cX3_bucket 14 = .ok (.aload_n 0, 1) := by decide +kernel
theorem dX3_bucket_15 : decode cX3_bucket 15 = .ok (.getfield 12, 3) := by decide +kernel
theorem dX3_bucket_18 : decode cX3_bucket 18 = .ok (.getfield 37, 3) := by decide +kernel
theorem dX3_bucket_21 : decode cX3_bucket 21 = .ok (.if_icmp .ge 48, 3) := by decide +kernel
theorem dX3_bucket_24 : decode cX3_bucket 24 = .ok (.aload_n 0, 1) := by decide +kernel
theorem dX3_bucket_25 : decode cX3_bucket 25 = .ok (.getfield 30, 3) := by decide +kernel
theorem dX3_bucket_28 : decode cX3_bucket 28 = .ok (.iload_n 3, 1) := by decide +kernel
theorem dX3_bucket_29 : decode cX3_bucket 29 = .ok (.laload, 1) := by decide +kernel
theorem dX3_bucket_30 : decode cX3_bucket 30 = .ok (.aload_n 0, 1) := by decide +kernel
theorem dX3_bucket_31 : decode cX3_bucket 31 = .ok (.getfield 12, 3) := by decide +kernel
theorem dX3_bucket_34 : decode cX3_bucket 34 = .ok (.getfield 154, 3) := by decide +kernel
theorem dX3_bucket_37 : decode cX3_bucket 37 = .ok (.iload_n 3, 1) := by decide +kernel
theorem dX3_bucket_38 : decode cX3_bucket 38 = .ok (.laload, 1) := by decide +kernel
theorem dX3_bucket_39 : decode cX3_bucket 39 = .ok (.land, 1) := by decide +kernel
theorem dX3_bucket_40 : decode cX3_bucket 40 = .ok (.lstore 4, 2) := by decide +kernel
theorem dX3_bucket_42 : decode cX3_bucket 42 = .ok (.ldc2_w 157, 3) := by decide +kernel
theorem dX3_bucket_45 : decode cX3_bucket 45 = .ok (.lload_n 1, 1) := by decide +kernel
theorem dX3_bucket_46 : decode cX3_bucket 46 = .ok (.lmul, 1) := by decide +kernel
theorem dX3_bucket_47 : decode cX3_bucket 47 = .ok (.lload 4, 2) := by decide +kernel
theorem dX3_bucket_49 : decode cX3_bucket 49 = .ok (.lload 4, 2) := by decide +kernel
theorem dX3_bucket_51 : decode cX3_bucket 51 = .ok (.bipush 32, 2) := by decide +kernel
theorem dX3_bucket_53 : decode cX3_bucket 53 = .ok (.lushr, 1) := by decide +kernel
theorem dX3_bucket_54 : decode cX3_bucket 54 = .ok (.lxor, 1) := by decide +kernel
theorem dX3_bucket_55 : decode cX3_bucket 55 = .ok (.lload 4, 2) := by decide +kernel
theorem dX3_bucket_57 : decode cX3_bucket 57 = .ok (.bipush 17, 2) := by decide +kernel
theorem dX3_bucket_59 : decode cX3_bucket 59 = .ok (.lushr, 1) := by decide +kernel
theorem dX3_bucket_60 : decode cX3_bucket 60 = .ok (.lxor, 1) := by decide +kernel
theorem dX3_bucket_61 : decode cX3_bucket 61 = .ok (.ladd, 1) := by decide +kernel
theorem dX3_bucket_62 : decode cX3_bucket 62 = .ok (.lstore_n 1, 1) := by decide +kernel
theorem dX3_bucket_63 : decode cX3_bucket 63 = .ok (.iinc 3 1, 3) := by decide +kernel
theorem dX3_bucket_66 : decode cX3_bucket 66 = .ok (.goto (-53), 3) := by decide +kernel
theorem dX3_bucket_69 : decode cX3_bucket 69 = .ok (.aload_n 0, 1) := by decide +kernel
theorem dX3_bucket_70 : decode cX3_bucket 70 = .ok (.getfield 26, 3) := by decide +kernel
theorem dX3_bucket_73 : decode cX3_bucket 73 = .ok (.lload_n 1, 1) := by decide +kernel
theorem dX3_bucket_74 : decode cX3_bucket 74 = .ok (.lload_n 1, 1) := by decide +kernel
theorem dX3_bucket_75 : decode cX3_bucket 75 = .ok (.bipush 20, 2) := by decide +kernel
theorem dX3_bucket_77 : decode cX3_bucket 77 = .ok (.lushr, 1) := by decide +kernel
theorem dX3_bucket_78 : decode cX3_bucket 78 = .ok (.lxor, 1) := by decide +kernel
theorem dX3_bucket_79 : decode cX3_bucket 79 = .ok (.lload_n 1, 1) := by decide +kernel
theorem dX3_bucket_80 : decode cX3_bucket 80 = .ok (.bipush 7, 2) := by decide +kernel
theorem dX3_bucket_82 : decode cX3_bucket 82 = .ok (.lushr, 1) := by decide +kernel
theorem dX3_bucket_83 : decode cX3_bucket 83 = .ok (.lxor, 1) := by decide +kernel
theorem dX3_bucket_84 : decode cX3_bucket 84 = .ok (.invokevirtual 159, 3) := by decide +kernel
theorem dX3_bucket_87 : decode cX3_bucket 87 = .ok (.ireturn, 1) := by decide +kernel
theorem dX3_count_0 : decode cX3_count 0 = .ok (.iload_n 1, 1) := by decide +kernel
theorem dX3_count_1 : decode cX3_count 1 = .ok (.iconst 2, 1) := by decide +kernel
theorem dX3_count_2 : decode cX3_count 2 = .ok (.if_icmp .ne 11, 3) := by decide +kernel
theorem dX3_count_5 : decode cX3_count 5 = .ok (.aload_n 0, 1) := by decide +kernel
theorem dX3_count_6 : decode cX3_count 6 = .ok (.getfield 12, 3) := by decide +kernel
theorem dX3_count_9 : decode cX3_count 9 = .ok (.getfield 37, 3) := by decide +kernel
theorem dX3_count_12 : decode cX3_count 12 = .ok (.ireturn, 1) := by decide +kernel
theorem dX3_count_13 : decode cX3_count 13 = .ok (.aload_n 0, 1) := by decide +kernel
theorem dX3_count_14 : decode cX3_count 14 = .ok (.getfield 52, 3) := by decide +kernel
theorem dX3_count_17 : decode cX3_count 17 = .ok (.ifCond .ne 5, 3) := by decide +kernel
theorem dX3_count_20 : decode cX3_count 20 = .ok (.iconst (-1), 1) := by decide +kernel
theorem dX3_count_21 : decode cX3_count 21 = .ok (.ireturn, 1) := by decide +kernel
theorem dX3_count_22 : decode cX3_count 22 = .ok (.iload_n 1, 1) := by decide +kernel
theorem dX3_count_23 : decode cX3_count 23 = .ok (.tableswitch 50 0 3 #[29, 37, 50, 45], 29) := by decide +kernel
theorem dX3_count_52 : decode cX3_count 52 = .ok (.aload_n 0, 1) := by decide +kernel
theorem dX3_count_53 : decode cX3_count 53 = .ok (.getfield 19, 3) := by decide +kernel
theorem dX3_count_56 : decode cX3_count 56 = .ok (.getfield 41, 3) := by decide +kernel
theorem dX3_count_59 : decode cX3_count 59 = .ok (.ireturn, 1) := by decide +kernel
theorem dX3_count_60 : decode cX3_count 60 = .ok (.aload_n 0, 1) := by decide +kernel
theorem dX3_count_61 : decode cX3_count 61 = .ok (.getfield 26, 3) := by decide +kernel
theorem dX3_count_64 : decode cX3_count 64 = .ok (.invokevirtual 163, 3) := by decide +kernel
theorem dX3_count_67 : decode cX3_count 67 = .ok (.ireturn, 1) := by decide +kernel
theorem dX3_count_68 : decode cX3_count 68 = .ok (.aload_n 0, 1) := by decide +kernel
theorem dX3_count_69 : decode cX3_count 69 = .ok (.getfield 59, 3) := by decide +kernel
theorem dX3_count_72 : decode cX3_count 72 = .ok (.ireturn, 1) := by decide +kernel
theorem dX3_count_73 : decode cX3_count 73 = .ok (.iconst (-1), 1) := by decide +kernel
theorem dX3_count_74 : decode cX3_count 74 = .ok (.ireturn, 1) := by decide +kernel
theorem dX3_requireTable_0 : decode cX3_requireTable 0 = .ok (.aload_n 0, 1) := by decide +kernel
theorem dX3_requireTable_1 : decode cX3_requireTable 1 = .ok (.getfield 52, 3) := by decide +kernel
theorem dX3_requireTable_4 : decode cX3_requireTable 4 = .ok (.ifCond .ne 13, 3) := by decide +kernel
theorem dX3_requireTable_7 : decode cX3_requireTable 7 = .ok (.new 73, 3) := by decide +kernel
theorem dX3_requireTable_10 : decode cX3_requireTable 10 = .ok (.dup, 1) := by decide +kernel
theorem dX3_requireTable_11 : decode cX3_requireTable 11 = .ok (.ldc 166, 2) := by decide +kernel
theorem dX3_requireTable_13 : decode cX3_requireTable 13 = .ok (.invokespecial 77, 3) := by decide +kernel
theorem dX3_requireTable_16 : decode cX3_requireTable 16 = .ok (.athrow, 1) := by decide +kernel
theorem dX3_requireTable_17 : decode cX3_requireTable 17 = .ok (.return_, 1) := by decide +kernel
theorem dX3_isHashedShape_0 : decode cX3_isHashedShape 0 = .ok (.iload_n 0, 1) := by decide +kernel
theorem dX3_isHashedShape_1 : decode cX3_isHashedShape 1 = .ok (.iconst 1, 1) := by decide +kernel
theorem dX3_isHashedShape_2 : decode cX3_isHashedShape 2 = .ok (.if_icmp .lt 41, 3) := by decide +kernel
theorem dX3_isHashedShape_5 : decode cX3_isHashedShape 5 = .ok (.iload_n 0, 1) := by decide +kernel
theorem dX3_isHashedShape_6 : decode cX3_isHashedShape 6 = .ok (.bipush 16, 2) := by decide +kernel
theorem dX3_isHashedShape_8 : decode cX3_isHashedShape 8 = .ok (.if_icmp .gt 35, 3) := by decide +kernel
theorem dX3_isHashedShape_11 : decode cX3_isHashedShape 11 = .ok (.iload_n 0, 1) := by decide +kernel
theorem dX3_isHashedShape_12 : decode cX3_isHashedShape 12 = .ok (.invokestatic 168, 3) := by decide +kernel
theorem dX3_isHashedShape_15 : decode cX3_isHashedShape 15 = .ok (.iconst 1, 1) := by decide +kernel
theorem dX3_isHashedShape_16 : decode cX3_isHashedShape 16 = .ok (.if_icmp .ne 27, 3) := by decide +kernel
theorem dX3_isHashedShape_19 : decode cX3_isHashedShape 19 = .ok (.iload_n 1, 1) := by decide +kernel
theorem dX3_isHashedShape_20 : decode cX3_isHashedShape 20 = .ok (.iconst 1, 1) := by decide +kernel
theorem dX3_isHashedShape_21 : decode cX3_isHashedShape 21 = .ok (.if_icmp .lt 22, 3) := by decide +kernel
theorem dX3_isHashedShape_24 : decode cX3_isHashedShape 24 = .ok (.iload_n 1, 1) := by decide +kernel
theorem dX3_isHashedShape_25 : decode cX3_isHashedShape 25 = .ok (.iconst 4, 1) := by decide +kernel
theorem dX3_isHashedShape_26 : decode cX3_isHashedShape 26 = .ok (.if_icmp .gt 17, 3) := by decide +kernel
theorem dX3_isHashedShape_29 : decode cX3_isHashedShape 29 = .ok (.iload_n 2, 1) := by decide +kernel
theorem dX3_isHashedShape_30 : decode cX3_isHashedShape 30 = .ok (.ifCond .lt 13, 3) := by decide +kernel
theorem dX3_isHashedShape_33 : decode cX3_isHashedShape 33 = .ok (.iload_n 2, 1) := by decide +kernel
theorem dX3_isHashedShape_34 : decode cX3_isHashedShape 34 = .ok (.bipush 8, 2) := by decide +kernel
theorem dX3_isHashedShape_36 : decode cX3_isHashedShape 36 = .ok (.if_icmp .gt 7, 3) := by decide +kernel
theorem dX3_isHashedShape_39 : decode cX3_isHashedShape 39 = .ok (.iconst 1, 1) := by decide +kernel
theorem dX3_isHashedShape_40 : decode cX3_isHashedShape 40 = .ok (.goto 4, 3) := by decide +kernel
theorem dX3_isHashedShape_43 : decode cX3_isHashedShape 43 = .ok (.iconst 0, 1) := by decide +kernel
theorem dX3_isHashedShape_44 : decode cX3_isHashedShape 44 = .ok (.ireturn, 1) := by decide +kernel
theorem dX3_isListedShape_0 : decode cX3_isListedShape 0 = .ok (.iload_n 0, 1) := by decide +kernel
theorem dX3_isListedShape_1 : decode cX3_isListedShape 1 = .ok (.iconst 1, 1) := by decide +kernel
theorem dX3_isListedShape_2 : decode cX3_isListedShape 2 = .ok (.if_icmp .lt 13, 3) := by decide +kernel
theorem dX3_isListedShape_5 : decode cX3_isListedShape 5 = .ok (.iload_n 0, 1) := by decide +kernel
theorem dX3_isListedShape_6 : decode cX3_isListedShape 6 = .ok (.bipush 32, 2) := by decide +kernel
theorem dX3_isListedShape_8 : decode cX3_isListedShape 8 = .ok (.if_icmp .gt 7, 3) := by decide +kernel
theorem dX3_isListedShape_11 : decode cX3_isListedShape 11 = .ok (.iconst 1, 1) := by decide +kernel
theorem dX3_isListedShape_12 : decode cX3_isListedShape 12 = .ok (.goto 4, 3) := by decide +kernel
theorem dX3_isListedShape_15 : decode cX3_isListedShape 15 = .ok (.iconst 0, 1) := by decide +kernel
theorem dX3_isListedShape_16 : decode cX3_isListedShape 16 = .ok (.ireturn, 1) := by decide +kernel
theorem dX3_isAction_0 : decode cX3_isAction 0 = .ok (.iload_n 0, 1) := by decide +kernel
theorem dX3_isAction_1 : decode cX3_isAction 1 = .ok (.ifCond .lt 13, 3) := by decide +kernel
theorem dX3_isAction_4 : decode cX3_isAction 4 = .ok (.iload_n 0, 1) := by decide +kernel
theorem dX3_isAction_5 : decode cX3_isAction 5 = .ok (.bipush 7, 2) := by decide +kernel
theorem dX3_isAction_7 : decode cX3_isAction 7 = .ok (.if_icmp .gt 7, 3) := by decide +kernel
theorem dX3_isAction_10 : decode cX3_isAction 10 = .ok (.iconst 1, 1) := by decide +kernel
theorem dX3_isAction_11 : decode cX3_isAction 11 = .ok (.goto 4, 3) := by decide +kernel
theorem dX3_isAction_14 : decode cX3_isAction 14 = .ok (.iconst 0, 1) := by decide +kernel
theorem dX3_isAction_15 : decode cX3_isAction 15 = .ok (.ireturn, 1) := by decide +kernel
theorem dX3_askedMask_0 : decode cX3_askedMask 0 = .ok (.aload_n 0, 1) := by decide +kernel
theorem dX3_askedMask_1 : decode cX3_askedMask 1 = .ok (.getfield 34, 3) := by decide +kernel
theorem dX3_askedMask_4 : decode cX3_askedMask 4 = .ok (.iload_n 1, 1) := by decide +kernel
theorem dX3_askedMask_5 : decode cX3_askedMask 5 = .ok (.laload, 1) := by decide +kernel
theorem dX3_askedMask_6 : decode cX3_askedMask 6 = .ok (.aload_n 0, 1) := by decide +kernel
theorem dX3_askedMask_7 : decode cX3_askedMask 7 = .ok (.getfield 12, 3) := by decide +kernel
theorem dX3_askedMask_10 : decode cX3_askedMask 10 = .ok (.getfield 154, 3) := by decide +kernel
theorem dX3_askedMask_13 : decode cX3_askedMask 13 = .ok (.iload_n 1, 1) := by decide +kernel
theorem dX3_askedMask_14 : decode cX3_askedMask 14 = .ok (.laload, 1) := by decide +kernel
theorem dX3_askedMask_15 : decode cX3_askedMask 15 = .ok (.land, 1) := by decide +kernel
theorem dX3_askedMask_16 : decode cX3_askedMask 16 = .ok (.lreturn, 1) := by decide +kernel
theorem dX3_areMasksRight_0 : decode cX3_areMasksRight 0 = .ok (.iconst 0, 1) := by decide +kernel
theorem dX3_areMasksRight_1 : decode cX3_areMasksRight 1 = .ok (.istore_n 1, 1) := by decide +kernel
theorem dX3_areMasksRight_2 : decode cX3_areMasksRight 2 = .ok (.iload_n 1, 1) := by decide +kernel
theorem dX3_areMasksRight_3 : decode cX3_areMasksRight 3 = .ok (.aload_n 0, 1) := by decide +kernel
theorem dX3_areMasksRight_4 : decode cX3_areMasksRight 4 = .ok (.getfield 12, 3) := by decide +kernel
theorem dX3_areMasksRight_7 : decode cX3_areMasksRight 7 = .ok (.getfield 37, 3) := by decide +kernel
theorem dX3_areMasksRight_10 : decode cX3_areMasksRight 10 = .ok (.if_icmp .ge 27, 3) := by decide +kernel
theorem dX3_areMasksRight_13 : decode cX3_areMasksRight 13 = .ok (.aload_n 0, 1) := by decide +kernel
theorem dX3_areMasksRight_14 : decode cX3_areMasksRight 14 = .ok (.getfield 12, 3) := by decide +kernel
theorem dX3_areMasksRight_17 : decode cX3_areMasksRight 17 = .ok (.iload_n 1, 1) := by decide +kernel
theorem dX3_areMasksRight_18 : decode cX3_areMasksRight 18 = .ok (.aload_n 0, 1) := by decide +kernel
theorem dX3_areMasksRight_19 : decode cX3_areMasksRight 19 = .ok (.iload_n 1, 1) := by decide +kernel
theorem dX3_areMasksRight_20 : decode cX3_areMasksRight 20 = .ok (.invokevirtual 174, 3) := by decide +kernel
theorem dX3_areMasksRight_23 : decode cX3_areMasksRight 23 = .ok (.invokevirtual 178, 3) := by decide +kernel
theorem dX3_areMasksRight_26 : decode cX3_areMasksRight 26 = .ok (.ifCond .ne 5, 3) := by decide +kernel
theorem dX3_areMasksRight_29 : decode cX3_areMasksRight 29 = .ok (.iconst 0, 1) := by decide +kernel
theorem dX3_areMasksRight_30 : decode cX3_areMasksRight 30 = .ok (.ireturn, 1) := by decide +kernel
theorem dX3_areMasksRight_31 : decode cX3_areMasksRight 31 = .ok (.iinc 1 1, 3) := by decide +kernel
theorem dX3_areMasksRight_34 : decode cX3_areMasksRight 34 = .ok (.goto (-32), 3) := by decide +kernel
theorem dX3_areMasksRight_37 : decode cX3_areMasksRight 37 = .ok (.iconst 1, 1) := by decide +kernel
theorem dX3_areMasksRight_38 : decode cX3_areMasksRight 38 = .ok (.ireturn, 1) := by decide +kernel
theorem dX3_findAsked_0 : decode cX3_findAsked 0 = .ok (.iconst 0, 1) := by decide +kernel
theorem dX3_findAsked_1 : decode cX3_findAsked 1 = .ok (.istore_n 1, 1) := by decide +kernel
theorem dX3_findAsked_2 : decode cX3_findAsked 2 = .ok (.iload_n 1, 1) := by decide +kernel
theorem dX3_findAsked_3 : decode cX3_findAsked 3 = .ok (.aload_n 0, 1) := by decide +kernel
theorem dX3_findAsked_4 : decode cX3_findAsked 4 = .ok (.getfield 19, 3) := by decide +kernel
theorem dX3_findAsked_7 : decode cX3_findAsked 7 = .ok (.getfield 41, 3) := by decide +kernel
theorem dX3_findAsked_10 : decode cX3_findAsked 10 = .ok (.if_icmp .ge 19, 3) := by decide +kernel
theorem dX3_findAsked_13 : decode cX3_findAsked 13 = .ok (.aload_n 0, 1) := by decide +kernel
theorem dX3_findAsked_14 : decode cX3_findAsked 14 = .ok (.iload_n 1, 1) := by decide +kernel
theorem dX3_findAsked_15 : decode cX3_findAsked 15 = .ok (.invokevirtual 182, 3) := by decide +kernel
theorem dX3_findAsked_18 : decode cX3_findAsked 18 = .ok (.ifCond .eq 5, 3) := by decide +kernel
theorem dX3_findAsked_21 : decode cX3_findAsked 21 = .ok (.iload_n 1, 1) := by decide +kernel
theorem dX3_findAsked_22 : decode cX3_findAsked 22 = .ok (.ireturn, 1) := by decide +kernel
theorem dX3_findAsked_23 : decode cX3_findAsked 23 = .ok (.iinc 1 1, 3) := by decide +kernel
theorem dX3_findAsked_26 : decode cX3_findAsked 26 = .ok (.goto (-24), 3) := by decide +kernel
theorem dX3_findAsked_29 : decode cX3_findAsked 29 = .ok (.iconst (-1), 1) := by decide +kernel
theorem dX3_findAsked_30 : decode cX3_findAsked 30 = .ok (.ireturn, 1) := by decide +kernel
theorem dX3_isAsked_0 : decode cX3_isAsked 0 = .ok (.iconst 0, 1) := by decide +kernel
theorem dX3_isAsked_1 : decode cX3_isAsked 1 = .ok (.istore_n 2, 1) := by decide +kernel
theorem dX3_isAsked_2 : decode cX3_isAsked 2 = .ok (.iload_n 2, 1) := by decide +kernel
theorem dX3_isAsked_3 : decode cX3_isAsked 3 = .ok (.aload_n 0, 1) := by decide +kernel
theorem dX3_isAsked_4 : decode cX3_isAsked 4 = .ok (.getfield 12, 3) := by decide +kernel
theorem dX3_isAsked_7 : decode cX3_isAsked 7 = .ok (.getfield 37, 3) := by decide +kernel
theorem dX3_isAsked_10 : decode cX3_isAsked 10 = .ok (.if_icmp .ge 61, 3) := by decide +kernel
theorem dX3_isAsked_13 : decode cX3_isAsked 13 = .ok (.iload_n 1, 1) := by decide +kernel
theorem dX3_isAsked_14 : decode cX3_isAsked 14 = .ok (.iload_n 2, 1) := by decide +kernel
theorem dX3_isAsked_15 : decode cX3_isAsked 15 = .ok (.invokestatic 185, 3) := by decide +kernel
theorem dX3_isAsked_18 : decode cX3_isAsked 18 = .ok (.istore_n 3, 1) := by decide +kernel
theorem dX3_isAsked_19 : decode cX3_isAsked 19 = .ok (.aload_n 0, 1) := by decide +kernel
theorem dX3_isAsked_20 : decode cX3_isAsked 20 = .ok (.iload_n 2, 1) := by decide +kernel
theorem dX3_isAsked_21 : decode cX3_isAsked 21 = .ok (.invokevirtual 174, 3) := by decide +kernel
theorem dX3_isAsked_24 : decode cX3_isAsked 24 = .ok (.lstore 4, 2) := by decide +kernel
theorem dX3_isAsked_26 : decode cX3_isAsked 26 = .ok (.aload_n 0, 1) := by decide +kernel
theorem dX3_isAsked_27 : decode cX3_isAsked 27 = .ok (.getfield 19, 3) := by decide +kernel
theorem dX3_isAsked_30 : decode cX3_isAsked 30 = .ok (.getfield 188, 3) := by decide +kernel
theorem dX3_isAsked_33 : decode cX3_isAsked 33 = .ok (.iload_n 3, 1) := by decide +kernel
theorem dX3_isAsked_34 : decode cX3_isAsked 34 = .ok (.laload, 1) := by decide +kernel
theorem dX3_isAsked_35 : decode cX3_isAsked 35 = .ok (.lload 4, 2) := by decide +kernel
theorem dX3_isAsked_37 : decode cX3_isAsked 37 = .ok (.lcmp, 1) := by decide +kernel
theorem dX3_isAsked_38 : decode cX3_isAsked 38 = .ok (.ifCond .ne 25, 3) := by decide +kernel
theorem dX3_isAsked_41 : decode cX3_isAsked 41 = .ok (.aload_n 0, 1) := by decide +kernel
theorem dX3_isAsked_42 : decode cX3_isAsked 42 = .ok (.getfield 19, 3) := by decide +kernel
theorem dX3_isAsked_45 : decode cX3_isAsked 45 = .ok (.getfield 191, 3) := by decide +kernel
theorem dX3_isAsked_48 : decode cX3_isAsked 48 = .ok (.iload_n 3, 1) := by decide +kernel
theorem dX3_isAsked_49 : decode cX3_isAsked 49 = .ok (.laload, 1) := by decide +kernel
theorem dX3_isAsked_50 : decode cX3_isAsked 50 = .ok (.aload_n 0, 1) := by decide +kernel
theorem dX3_isAsked_51 : decode cX3_isAsked 51 = .ok (.getfield 30, 3) := by decide +kernel
theorem dX3_isAsked_54 : decode cX3_isAsked 54 = .ok (.iload_n 2, 1) := by decide +kernel
theorem dX3_isAsked_55 : decode cX3_isAsked 55 = .ok (.laload, 1) := by decide +kernel
theorem dX3_isAsked_56 : decode cX3_isAsked 56 = .ok (.lload 4, 2) := by decide +kernel
theorem dX3_isAsked_58 : decode cX3_isAsked 58 = .ok (.land, 1) := by decide +kernel
theorem dX3_isAsked_59 : decode cX3_isAsked 59 = .ok (.lcmp, 1) := by decide +kernel
theorem dX3_isAsked_60 : decode cX3_isAsked 60 = .ok (.ifCond .eq 5, 3) := by decide +kernel
theorem dX3_isAsked_63 : decode cX3_isAsked 63 = .ok (.iconst 0, 1) := by decide +kernel
theorem dX3_isAsked_64 : decode cX3_isAsked 64 = .ok (.ireturn, 1) := by decide +kernel
theorem dX3_isAsked_65 : decode cX3_isAsked 65 = .ok (.iinc 2 1, 3) := by decide +kernel
theorem dX3_isAsked_68 : decode cX3_isAsked 68 = .ok (.goto (-66), 3) := by decide +kernel
theorem dX3_isAsked_71 : decode cX3_isAsked 71 = .ok (.iconst 1, 1) := by decide +kernel
theorem dX3_isAsked_72 : decode cX3_isAsked 72 = .ok (.ireturn, 1) := by decide +kernel
theorem dX3_fitsAsked_0 : decode cX3_fitsAsked 0 = .ok (.iconst 0, 1) := by decide +kernel
theorem dX3_fitsAsked_1 : decode cX3_fitsAsked 1 = .ok (.istore_n 2, 1) := by decide +kernel
theorem dX3_fitsAsked_2 : decode cX3_fitsAsked 2 = .ok (.iload_n 2, 1) := by decide +kernel
theorem dX3_fitsAsked_3 : decode cX3_fitsAsked 3 = .ok (.aload_n 0, 1) := by decide +kernel
theorem dX3_fitsAsked_4 : decode cX3_fitsAsked 4 = .ok (.getfield 12, 3) := by decide +kernel
theorem dX3_fitsAsked_7 : decode cX3_fitsAsked 7 = .ok (.getfield 37, 3) := by decide +kernel
theorem dX3_fitsAsked_10 : decode cX3_fitsAsked 10 = .ok (.if_icmp .ge 46, 3) := by decide +kernel
theorem dX3_fitsAsked_13 : decode cX3_fitsAsked 13 = .ok (.iload_n 1, 1) := by decide +kernel
theorem dX3_fitsAsked_14 : decode cX3_fitsAsked 14 = .ok (.iload_n 2, 1) := by decide +kernel
theorem dX3_fitsAsked_15 : decode cX3_fitsAsked 15 = .ok (.invokestatic 185, 3) := by decide +kernel
theorem dX3_fitsAsked_18 : decode cX3_fitsAsked 18 = .ok (.istore_n 3, 1) := by decide +kernel
theorem dX3_fitsAsked_19 : decode cX3_fitsAsked 19 = .ok (.aload_n 0, 1) := by decide +kernel
theorem dX3_fitsAsked_20 : decode cX3_fitsAsked 20 = .ok (.getfield 30, 3) := by decide +kernel
theorem dX3_fitsAsked_23 : decode cX3_fitsAsked 23 = .ok (.iload_n 2, 1) := by decide +kernel
theorem dX3_fitsAsked_24 : decode cX3_fitsAsked 24 = .ok (.laload, 1) := by decide +kernel
theorem dX3_fitsAsked_25 : decode cX3_fitsAsked 25 = .ok (.aload_n 0, 1) := by decide +kernel
theorem dX3_fitsAsked_26 : decode cX3_fitsAsked 26 = .ok (.getfield 19, 3) := by decide +kernel
theorem dX3_fitsAsked_29 : decode cX3_fitsAsked 29 = .ok (.getfield 188, 3) := by decide +kernel
theorem dX3_fitsAsked_32 : decode cX3_fitsAsked 32 = .ok (.iload_n 3, 1) := by decide +kernel
theorem dX3_fitsAsked_33 : decode cX3_fitsAsked 33 = .ok (.laload, 1) := by decide +kernel
theorem dX3_fitsAsked_34 : decode cX3_fitsAsked 34 = .ok (.land, 1) := by decide +kernel
theorem dX3_fitsAsked_35 : decode cX3_fitsAsked 35 = .ok (.aload_n 0, 1) := by decide +kernel
theorem dX3_fitsAsked_36 : decode cX3_fitsAsked 36 = .ok (.getfield 19, 3) := by decide +kernel
theorem dX3_fitsAsked_39 : decode cX3_fitsAsked 39 = .ok (.getfield 191, 3) := by decide +kernel
theorem dX3_fitsAsked_42 : decode cX3_fitsAsked 42 = .ok (.iload_n 3, 1) := by decide +kernel
theorem dX3_fitsAsked_43 : decode cX3_fitsAsked 43 = .ok (.laload, 1) := by decide +kernel
theorem dX3_fitsAsked_44 : decode cX3_fitsAsked 44 = .ok (.lcmp, 1) := by decide +kernel
theorem dX3_fitsAsked_45 : decode cX3_fitsAsked 45 = .ok (.ifCond .eq 5, 3) := by decide +kernel
theorem dX3_fitsAsked_48 : decode cX3_fitsAsked 48 = .ok (.iconst 0, 1) := by decide +kernel
theorem dX3_fitsAsked_49 : decode cX3_fitsAsked 49 = .ok (.ireturn, 1) := by decide +kernel
theorem dX3_fitsAsked_50 : decode cX3_fitsAsked 50 = .ok (.iinc 2 1, 3) := by decide +kernel
theorem dX3_fitsAsked_53 : decode cX3_fitsAsked 53 = .ok (.goto (-51), 3) := by decide +kernel
theorem dX3_fitsAsked_56 : decode cX3_fitsAsked 56 = .ok (.iconst 1, 1) := by decide +kernel
theorem dX3_fitsAsked_57 : decode cX3_fitsAsked 57 = .ok (.ireturn, 1) := by decide +kernel
theorem dX3_hasRoom_0 : decode cX3_hasRoom 0 = .ok (.aload_n 0, 1) := by decide +kernel
theorem dX3_hasRoom_1 : decode cX3_hasRoom 1 = .ok (.getfield 19, 3) := by decide +kernel
theorem dX3_hasRoom_4 : decode cX3_hasRoom 4 = .ok (.getfield 41, 3) := by decide +kernel
theorem dX3_hasRoom_7 : decode cX3_hasRoom 7 = .ok (.aload_n 0, 1) := by decide +kernel
theorem dX3_hasRoom_8 : decode cX3_hasRoom 8 = .ok (.getfield 59, 3) := by decide +kernel
theorem dX3_hasRoom_11 : decode cX3_hasRoom 11 = .ok (.if_icmp .ge 28, 3) := by decide +kernel
theorem dX3_hasRoom_14 : decode cX3_hasRoom 14 = .ok (.aload_n 0, 1) := by decide +kernel
theorem dX3_hasRoom_15 : decode cX3_hasRoom 15 = .ok (.getfield 56, 3) := by decide +kernel
theorem dX3_hasRoom_18 : decode cX3_hasRoom 18 = .ok (.ifCond .eq 17, 3) := by decide +kernel
theorem dX3_hasRoom_21 : decode cX3_hasRoom 21 = .ok (.aload_n 0, 1) := by decide +kernel
theorem dX3_hasRoom_22 : decode cX3_hasRoom 22 = .ok (.getfield 26, 3) := by decide +kernel
theorem dX3_hasRoom_25 : decode cX3_hasRoom 25 = .ok (.aload_n 0, 1) := by decide +kernel
theorem dX3_hasRoom_26 : decode cX3_hasRoom 26 = .ok (.invokevirtual 128, 3) := by decide +kernel
theorem dX3_hasRoom_29 : decode cX3_hasRoom 29 = .ok (.invokevirtual 194, 3) := by decide +kernel
theorem dX3_hasRoom_32 : decode cX3_hasRoom 32 = .ok (.ifCond .eq 7, 3) := by decide +kernel
theorem dX3_hasRoom_35 : decode cX3_hasRoom 35 = .ok (.iconst 1, 1) := by decide +kernel
theorem dX3_hasRoom_36 : decode cX3_hasRoom 36 = .ok (.goto 4, 3) := by decide +kernel
theorem dX3_hasRoom_39 : decode cX3_hasRoom 39 = .ok (.iconst 0, 1) := by decide +kernel
theorem dX3_hasRoom_40 : decode cX3_hasRoom 40 = .ok (.ireturn, 1) := by decide +kernel
theorem dX3_addAsked_0 : decode cX3_addAsked 0 = .ok (.aload_n 0, 1) := by decide +kernel
theorem dX3_addAsked_1 : decode cX3_addAsked 1 = .ok (.getfield 19, 3) := by decide +kernel
theorem dX3_addAsked_4 : decode cX3_addAsked 4 = .ok (.getfield 41, 3) := by decide +kernel
theorem dX3_addAsked_7 : decode cX3_addAsked 7 = .ok (.istore 5, 2) := by decide +kernel
theorem dX3_addAsked_9 : decode cX3_addAsked 9 = .ok (.iconst 0, 1) := by decide +kernel
theorem dX3_addAsked_10 : decode cX3_addAsked 10 = .ok (.istore 6, 2) := by decide +kernel
theorem dX3_addAsked_12 : decode cX3_addAsked 12 = .ok (.iconst 0, 1) := by decide +kernel
theorem dX3_addAsked_13 : decode cX3_addAsked 13 = .ok (.istore 7, 2) := by decide +kernel
theorem dX3_addAsked_15 : decode cX3_addAsked 15 = .ok (.iload 7, 2) := by decide +kernel
theorem dX3_addAsked_17 : decode cX3_addAsked 17 = .ok (.aload_n 0, 1) := by decide +kernel
theorem dX3_addAsked_18 : decode cX3_addAsked 18 = .ok (.getfield 12, 3) := by decide +kernel
theorem dX3_addAsked_21 : decode cX3_addAsked 21 = .ok (.getfield 37, 3) := by decide +kernel
theorem dX3_addAsked_24 : decode cX3_addAsked 24 = .ok (.if_icmp .ge 79, 3) := by decide +kernel
theorem dX3_addAsked_27 : decode cX3_addAsked 27 = .ok (.iload 5, 2) := by decide +kernel
theorem dX3_addAsked_29 : decode cX3_addAsked 29 = .ok (.iload 7, 2) := by decide +kernel
theorem dX3_addAsked_31 : decode cX3_addAsked 31 = .ok (.invokestatic 185, 3) := by decide +kernel
theorem dX3_addAsked_34 : decode cX3_addAsked 34 = .ok (.istore 8, 2) := by decide +kernel
theorem dX3_addAsked_36 : decode cX3_addAsked 36 = .ok (.aload_n 0, 1) := by decide +kernel
theorem dX3_addAsked_37 : decode cX3_addAsked 37 = .ok (.iload 7, 2) := by decide +kernel
theorem dX3_addAsked_39 : decode cX3_addAsked 39 = .ok (.invokevirtual 174, 3) := by decide +kernel
theorem dX3_addAsked_42 : decode cX3_addAsked 42 = .ok (.lstore 9, 2) := by decide +kernel
theorem dX3_addAsked_44 : decode cX3_addAsked 44 = .ok (.aload_n 0, 1) := by decide +kernel
theorem dX3_addAsked_45 : decode cX3_addAsked 45 = .ok (.getfield 19, 3) := by decide +kernel
theorem dX3_addAsked_48 : decode cX3_addAsked 48 = .ok (.getfield 188, 3) := by decide +kernel
theorem dX3_addAsked_51 : decode cX3_addAsked 51 = .ok (.iload 8, 2) := by decide +kernel
theorem dX3_addAsked_53 : decode cX3_addAsked 53 = .ok (.lload 9, 2) := by decide +kernel
theorem dX3_addAsked_55 : decode cX3_addAsked 55 = .ok (.lastore, 1) := by decide +kernel
theorem dX3_addAsked_56 : decode cX3_addAsked 56 = .ok (.aload_n 0, 1) := by decide +kernel
theorem dX3_addAsked_57 : decode cX3_addAsked 57 = .ok (.getfield 19, 3) := by decide +kernel
theorem dX3_addAsked_60 : decode cX3_addAsked 60 = .ok (.getfield 191, 3) := by decide +kernel
theorem dX3_addAsked_63 : decode cX3_addAsked 63 = .ok (.iload 8, 2) := by decide +kernel
theorem dX3_addAsked_65 : decode cX3_addAsked 65 = .ok (.aload_n 0, 1) := by decide +kernel
theorem dX3_addAsked_66 : decode cX3_addAsked 66 = .ok (.getfield 30, 3) := by decide +kernel
theorem dX3_addAsked_69 : decode cX3_addAsked 69 = .ok (.iload 7, 2) := by decide +kernel
theorem dX3_addAsked_71 : decode cX3_addAsked 71 = .ok (.laload, 1) := by decide +kernel
theorem dX3_addAsked_72 : decode cX3_addAsked 72 = .ok (.lload 9, 2) := by decide +kernel
theorem dX3_addAsked_74 : decode cX3_addAsked 74 = .ok (.land, 1) := by decide +kernel
theorem dX3_addAsked_75 : decode cX3_addAsked 75 = .ok (.lastore, 1) := by decide +kernel
theorem dX3_addAsked_76 : decode cX3_addAsked 76 = .ok (.aload_n 0, 1) := by decide +kernel
theorem dX3_addAsked_77 : decode cX3_addAsked 77 = .ok (.getfield 12, 3) := by decide +kernel
theorem dX3_addAsked_80 : decode cX3_addAsked 80 = .ok (.getfield 197, 3) := by decide +kernel
theorem dX3_addAsked_83 : decode cX3_addAsked 83 = .ok (.iload 7, 2) := by decide +kernel
theorem dX3_addAsked_85 : decode cX3_addAsked 85 = .ok (.iaload, 1) := by decide +kernel
theorem dX3_addAsked_86 : decode cX3_addAsked 86 = .ok (.iconst 1, 1) := by decide +kernel
theorem dX3_addAsked_87 : decode cX3_addAsked 87 = .ok (.if_icmp .ne 10, 3) := by decide +kernel
theorem dX3_addAsked_90 : decode cX3_addAsked 90 = .ok (.lload 9, 2) := by decide +kernel
theorem dX3_addAsked_92 : decode cX3_addAsked 92 = .ok (.invokestatic 200, 3) := by decide +kernel
theorem dX3_addAsked_95 : decode cX3_addAsked 95 = .ok (.istore 6, 2) := by decide +kernel
theorem dX3_addAsked_97 : decode cX3_addAsked 97 = .ok (.iinc 7 1, 3) := by decide +kernel
theorem dX3_addAsked_100 : decode cX3_addAsked 100 = .ok (.goto (-85), 3) := by decide +kernel
theorem dX3_addAsked_103 : decode cX3_addAsked 103 = .ok (.aload_n 0, 1) := by decide +kernel
theorem dX3_addAsked_104 : decode cX3_addAsked 104 = .ok (.getfield 19, 3) := by decide +kernel
theorem dX3_addAsked_107 : decode cX3_addAsked 107 = .ok (.getfield 204, 3) := by decide +kernel
theorem dX3_addAsked_110 : decode cX3_addAsked 110 = .ok (.iload 5, 2) := by decide +kernel
theorem dX3_addAsked_112 : decode cX3_addAsked 112 = .ok (.iload 6, 2) := by decide +kernel
theorem dX3_addAsked_114 : decode cX3_addAsked 114 = .ok (.iastore, 1) := by decide +kernel
theorem dX3_addAsked_115 : decode cX3_addAsked 115 = .ok (.aload_n 0, 1) := by decide +kernel
theorem dX3_addAsked_116 : decode cX3_addAsked 116 = .ok (.getfield 19, 3) := by decide +kernel
theorem dX3_addAsked_119 : decode cX3_addAsked 119 = .ok (.getfield 207, 3) := by decide +kernel
theorem dX3_addAsked_122 : decode cX3_addAsked 122 = .ok (.iload 5, 2) := by decide +kernel
theorem dX3_addAsked_124 : decode cX3_addAsked 124 = .ok (.iload_n 1, 1) := by decide +kernel
theorem dX3_addAsked_125 : decode cX3_addAsked 125 = .ok (.iastore, 1) := by decide +kernel
theorem dX3_addAsked_126 : decode cX3_addAsked 126 = .ok (.aload_n 0, 1) := by decide +kernel
theorem dX3_addAsked_127 : decode cX3_addAsked 127 = .ok (.getfield 19, 3) := by decide +kernel
theorem dX3_addAsked_130 : decode cX3_addAsked 130 = .ok (.getfield 134, 3) := by decide +kernel
theorem dX3_addAsked_133 : decode cX3_addAsked 133 = .ok (.iload 5, 2) := by decide +kernel
theorem dX3_addAsked_135 : decode cX3_addAsked 135 = .ok (.iload_n 2, 1) := by decide +kernel
theorem dX3_addAsked_136 : decode cX3_addAsked 136 = .ok (.iastore, 1) := by decide +kernel
theorem dX3_addAsked_137 : decode cX3_addAsked 137 = .ok (.aload_n 0, 1) := by decide +kernel
theorem dX3_addAsked_138 : decode cX3_addAsked 138 = .ok (.getfield 19, 3) := by decide +kernel
theorem dX3_addAsked_141 : decode cX3_addAsked 141 = .ok (.getfield 138, 3) := by decide +kernel
theorem dX3_addAsked_144 : decode cX3_addAsked 144 = .ok (.iload 5, 2) := by decide +kernel
theorem dX3_addAsked_146 : decode cX3_addAsked 146 = .ok (.lload_n 3, 1) := by decide +kernel
theorem dX3_addAsked_147 : decode cX3_addAsked 147 = .ok (.lastore, 1) := by decide +kernel
theorem dX3_addAsked_148 : decode cX3_addAsked 148 = .ok (.aload_n 0, 1) := by decide +kernel
theorem dX3_addAsked_149 : decode cX3_addAsked 149 = .ok (.getfield 19, 3) := by decide +kernel
theorem dX3_addAsked_152 : decode cX3_addAsked 152 = .ok (.iload 5, 2) := by decide +kernel
theorem dX3_addAsked_154 : decode cX3_addAsked 154 = .ok (.iconst 1, 1) := by decide +kernel
theorem dX3_addAsked_155 : decode cX3_addAsked 155 = .ok (.iadd, 1) := by decide +kernel
theorem dX3_addAsked_156 : decode cX3_addAsked 156 = .ok (.putfield 41, 3) := by decide +kernel
theorem dX3_addAsked_159 : decode cX3_addAsked 159 = .ok (.return_, 1) := by decide +kernel
theorem dX0_init_0 : decode cX0_init 0 = .ok (.aload_n 0, 1) := by decide +kernel
theorem dX0_init_1 : decode cX0_init 1 = .ok (.invokespecial 3, 3) := by decide +kernel
theorem dX0_init_4 : decode cX0_init 4 = .ok (.aload_n 0, 1) := by decide +kernel
theorem dX0_init_5 : decode cX0_init 5 = .ok (.bipush 16, 2) := by decide +kernel
theorem dX0_init_7 : decode cX0_init 7 = .ok (.newarray .int, 2) := by decide +kernel
theorem dX0_init_9 : decode cX0_init 9 = .ok (.putfield 9, 3) := by decide +kernel
theorem dX0_init_12 : decode cX0_init 12 = .ok (.return_, 1) := by decide +kernel
theorem dX0_lay_0 : decode cX0_lay 0 = .ok (.aload_n 0, 1) := by decide +kernel
theorem dX0_lay_1 : decode cX0_lay 1 = .ok (.getfield 9, 3) := by decide +kernel
theorem dX0_lay_4 : decode cX0_lay 4 = .ok (.iconst 0, 1) := by decide +kernel
theorem dX0_lay_5 : decode cX0_lay 5 = .ok (.invokestatic 15, 3) := by decide +kernel
theorem dX0_lay_8 : decode cX0_lay 8 = .ok (.aload_n 0, 1) := by decide +kernel
theorem dX0_lay_9 : decode cX0_lay 9 = .ok (.iload_n 1, 1) := by decide +kernel
theorem dX0_lay_10 : decode cX0_lay 10 = .ok (.putfield 21, 3) := by decide +kernel
theorem dX0_lay_13 : decode cX0_lay 13 = .ok (.aload_n 0, 1) := by decide +kernel
theorem dX0_lay_14 : decode cX0_lay 14 = .ok (.iload_n 2, 1) := by decide +kernel
theorem dX0_lay_15 : decode cX0_lay 15 = .ok (.putfield 25, 3) := by decide +kernel
theorem dX0_lay_18 : decode cX0_lay 18 = .ok (.aload_n 0, 1) := by decide +kernel
theorem dX0_lay_19 : decode cX0_lay 19 = .ok (.iload_n 3, 1) := by decide +kernel
theorem dX0_lay_20 : decode cX0_lay 20 = .ok (.putfield 28, 3) := by decide +kernel
theorem dX0_lay_23 : decode cX0_lay 23 = .ok (.return_, 1) := by decide +kernel
theorem dX0_indexOf_0 : decode cX0_indexOf 0 = .ok (.aload_n 0, 1) := by decide +kernel
theorem dX0_indexOf_1 : decode cX0_indexOf 1 = .ok (.getfield 21, 3) := by decide +kernel
theorem dX0_indexOf_4 : decode cX0_indexOf 4 = .ok (.ifCond .ne 7, 3) := by decide +kernel
theorem dX0_indexOf_7 : decode cX0_indexOf 7 = .ok (.iconst (-1), 1) := by decide +kernel
theorem dX0_indexOf_8 : decode cX0_indexOf 8 = .ok (.goto 13, 3) := by decide +kernel
theorem dX0_indexOf_11 : decode cX0_indexOf 11 = .ok (.lload_n 1, 1) := by decide +kernel
theorem dX0_indexOf_12 : decode cX0_indexOf 12 = .ok (.aload_n 0, 1) := by decide +kernel
theorem dX0_indexOf_13 : decode cX0_indexOf 13 = .ok (.getfield 21, 3) := by decide +kernel
theorem dX0_indexOf_16 : decode cX0_indexOf 16 = .ok (.iconst 1, 1) := by decide +kernel
theorem dX0_indexOf_17 : decode cX0_indexOf 17 = .ok (.isub, 1) := by decide +kernel
theorem dX0_indexOf_18 : decode cX0_indexOf 18 = .ok (.i2l, 1) := by decide +kernel
theorem dX0_indexOf_19 : decode cX0_indexOf 19 = .ok (.land, 1) := by decide +kernel
theorem dX0_indexOf_20 : decode cX0_indexOf 20 = .ok (.l2i, 1) := by decide +kernel
theorem dX0_indexOf_21 : decode cX0_indexOf 21 = .ok (.ireturn, 1) := by decide +kernel
theorem dX0_isOne_0 : decode cX0_isOne 0 = .ok (.iload_n 1, 1) := by decide +kernel
theorem dX0_isOne_1 : decode cX0_isOne 1 = .ok (.ifCond .lt 15, 3) := by decide +kernel
theorem dX0_isOne_4 : decode cX0_isOne 4 = .ok (.iload_n 1, 1) := by decide +kernel
theorem dX0_isOne_5 : decode cX0_isOne 5 = .ok (.aload_n 0, 1) := by decide +kernel
theorem dX0_isOne_6 : decode cX0_isOne 6 = .ok (.getfield 21, 3) := by decide +kernel
theorem dX0_isOne_9 : decode cX0_isOne 9 = .ok (.if_icmp .ge 7, 3) := by decide +kernel
theorem dX0_isOne_12 : decode cX0_isOne 12 = .ok (.iconst 1, 1) := by decide +kernel
theorem dX0_isOne_13 : decode cX0_isOne 13 = .ok (.goto 4, 3) := by decide +kernel
theorem dX0_isOne_16 : decode cX0_isOne 16 = .ok (.iconst 0, 1) := by decide +kernel
theorem dX0_isOne_17 : decode cX0_isOne 17 = .ok (.ireturn, 1) := by decide +kernel
theorem dX0_haveRoom_0 : decode cX0_haveRoom 0 = .ok (.aload_n 0, 1) := by decide +kernel
theorem dX0_haveRoom_1 : decode cX0_haveRoom 1 = .ok (.iload_n 1, 1) := by decide +kernel
theorem dX0_haveRoom_2 : decode cX0_haveRoom 2 = .ok (.invokevirtual 31, 3) := by decide +kernel
theorem dX0_haveRoom_5 : decode cX0_haveRoom 5 = .ok (.ifCond .eq 31, 3) := by decide +kernel
theorem dX0_haveRoom_8 : decode cX0_haveRoom 8 = .ok (.aload_n 0, 1) := by decide +kernel
theorem dX0_haveRoom_9 : decode cX0_haveRoom 9 = .ok (.getfield 9, 3) := by decide +kernel
theorem dX0_haveRoom_12 : decode cX0_haveRoom 12 = .ok (.iload_n 1, 1) := by decide +kernel
theorem dX0_haveRoom_13 : decode cX0_haveRoom 13 = .ok (.iaload, 1) := by decide +kernel
theorem dX0_haveRoom_14 : decode cX0_haveRoom 14 = .ok (.aload_n 0, 1) := by decide +kernel
theorem dX0_haveRoom_15 : decode cX0_haveRoom 15 = .ok (.getfield 25, 3) := by decide +kernel
theorem dX0_haveRoom_18 : decode cX0_haveRoom 18 = .ok (.if_icmp .lt 14, 3) := by decide +kernel
theorem dX0_haveRoom_21 : decode cX0_haveRoom 21 = .ok (.aload_n 0, 1) := by decide +kernel
theorem dX0_haveRoom_22 : decode cX0_haveRoom 22 = .ok (.invokevirtual 35, 3) := by decide +kernel
theorem dX0_haveRoom_25 : decode cX0_haveRoom 25 = .ok (.aload_n 0, 1) := by decide +kernel
theorem dX0_haveRoom_26 : decode cX0_haveRoom 26 = .ok (.getfield 28, 3) := by decide +kernel
theorem dX0_haveRoom_29 : decode cX0_haveRoom 29 = .ok (.if_icmp .ge 7, 3) := by decide +kernel
theorem dX0_haveRoom_32 : decode cX0_haveRoom 32 = .ok (.iconst 1, 1) := by decide +kernel
theorem dX0_haveRoom_33 : decode cX0_haveRoom 33 = .ok (.goto 4, 3) := by decide +kernel
theorem dX0_haveRoom_36 : decode cX0_haveRoom 36 = .ok (.iconst 0, 1) := by decide +kernel
theorem dX0_haveRoom_37 : decode cX0_haveRoom 37 = .ok (.ireturn, 1) := by decide +kernel
theorem dX0_fill_0 : decode cX0_fill 0 = .ok (.aload_n 0, 1) := by decide +kernel
theorem dX0_fill_1 : decode cX0_fill 1 = .ok (.iload_n 1, 1) := by decide +kernel
theorem dX0_fill_2 : decode cX0_fill 2 = .ok (.invokevirtual 31, 3) := by decide +kernel
theorem dX0_fill_5 : decode cX0_fill 5 = .ok (.ifCond .eq 13, 3) := by decide +kernel
theorem dX0_fill_8 : decode cX0_fill 8 = .ok (.aload_n 0, 1) := by decide +kernel
theorem dX0_fill_9 : decode cX0_fill 9 = .ok (.getfield 9, 3) := by decide +kernel
theorem dX0_fill_12 : decode cX0_fill 12 = .ok (.iload_n 1, 1) := by decide +kernel
theorem dX0_fill_13 : decode cX0_fill 13 = .ok (.dup2, 1) := by decide +kernel
theorem dX0_fill_14 : decode cX0_fill 14 = .ok (.iaload, 1) := by decide +kernel
theorem dX0_fill_15 : decode cX0_fill 15 = .ok (.iconst 1, 1) := by decide +kernel
theorem dX0_fill_16 : decode cX0_fill 16 = .ok (.iadd, 1) := by decide +kernel
theorem dX0_fill_17 : decode cX0_fill 17 = .ok (.iastore, 1) := by decide +kernel
theorem dX0_fill_18 : decode cX0_fill 18 = .ok (.return_, 1) := by decide +kernel
theorem dX0_empty_0 : decode cX0_empty 0 = .ok (.aload_n 0, 1) := by decide +kernel
theorem dX0_empty_1 : decode cX0_empty 1 = .ok (.iload_n 1, 1) := by decide +kernel
theorem dX0_empty_2 : decode cX0_empty 2 = .ok (.invokevirtual 31, 3) := by decide +kernel
theorem dX0_empty_5 : decode cX0_empty 5 = .ok (.ifCond .eq 13, 3) := by decide +kernel
theorem dX0_empty_8 : decode cX0_empty 8 = .ok (.aload_n 0, 1) := by decide +kernel
theorem dX0_empty_9 : decode cX0_empty 9 = .ok (.getfield 9, 3) := by decide +kernel
theorem dX0_empty_12 : decode cX0_empty 12 = .ok (.iload_n 1, 1) := by decide +kernel
theorem dX0_empty_13 : decode cX0_empty 13 = .ok (.dup2, 1) := by decide +kernel
theorem dX0_empty_14 : decode cX0_empty 14 = .ok (.iaload, 1) := by decide +kernel
theorem dX0_empty_15 : decode cX0_empty 15 = .ok (.iconst 1, 1) := by decide +kernel
theorem dX0_empty_16 : decode cX0_empty 16 = .ok (.isub, 1) := by decide +kernel
theorem dX0_empty_17 : decode cX0_empty 17 = .ok (.iastore, 1) := by decide +kernel
theorem dX0_empty_18 : decode cX0_empty 18 = .ok (.return_, 1) := by decide +kernel
theorem dX0_above_0 : decode cX0_above 0 = .ok (.iconst 0, 1) := by decide +kernel
theorem dX0_above_1 : decode cX0_above 1 = .ok (.istore_n 1, 1) := by decide +kernel
theorem dX0_above_2 : decode cX0_above 2 = .ok (.iconst 0, 1) := by decide +kernel
theorem dX0_above_3 : decode cX0_above 3 = .ok (.istore_n 2, 1) := by decide +kernel
theorem dX0_above_4 : decode cX0_above 4 = .ok (.iload_n 2, 1) := by decide +kernel
theorem dX0_above_5 : decode cX0_above 5 = .ok (.aload_n 0, 1) := by decide +kernel
theorem dX0_above_6 : decode cX0_above 6 = .ok (.getfield 21, 3) := by decide +kernel
theorem dX0_above_9 : decode cX0_above 9 = .ok (.if_icmp .ge 27, 3) := by decide +kernel
theorem dX0_above_12 : decode cX0_above 12 = .ok (.iload_n 1, 1) := by decide +kernel
theorem dX0_above_13 : decode cX0_above 13 = .ok (.iconst 0, 1) := by decide +kernel
theorem dX0_above_14 : decode cX0_above 14 = .ok (.aload_n 0, 1) := by decide +kernel
theorem dX0_above_15 : decode cX0_above 15 = .ok (.getfield 9, 3) := by decide +kernel
theorem dX0_above_18 : decode cX0_above 18 = .ok (.iload_n 2, 1) := by decide +kernel
theorem dX0_above_19 : decode cX0_above 19 = .ok (.iaload, 1) := by decide +kernel
theorem dX0_above_20 : decode cX0_above 20 = .ok (.aload_n 0, 1) := by decide +kernel
theorem dX0_above_21 : decode cX0_above 21 = .ok (.getfield 25, 3) := by decide +kernel
theorem dX0_above_24 : decode cX0_above 24 = .ok (.isub, 1) := by decide +kernel
theorem dX0_above_25 : decode cX0_above 25 = .ok (.invokestatic 39, 3) := by decide +kernel
theorem dX0_above_28 : decode cX0_above 28 = .ok (.iadd, 1) := by decide +kernel
theorem dX0_above_29 : decode cX0_above 29 = .ok (.istore_n 1, 1) := by decide +kernel
theorem dX0_above_30 : decode cX0_above 30 = .ok (.iinc 2 1, 3) := by decide +kernel
theorem dX0_above_33 : decode cX0_above 33 = .ok (.goto (-29), 3) := by decide +kernel
theorem dX0_above_36 : decode cX0_above 36 = .ok (.iload_n 1, 1) := by decide +kernel
theorem dX0_above_37 : decode cX0_above 37 = .ok (.ireturn, 1) := by decide +kernel
theorem dX1_init_0 : decode cX1_init 0 = .ok (.aload_n 0, 1) := by decide +kernel
theorem dX1_init_1 : decode cX1_init 1 = .ok (.invokespecial 3, 3) := by decide +kernel
theorem dX1_init_4 : decode cX1_init 4 = .ok (.aload_n 0, 1) := by decide +kernel
theorem dX1_init_5 : decode cX1_init 5 = .ok (.sipush 288, 3) := by decide +kernel
theorem dX1_init_8 : decode cX1_init 8 = .ok (.newarray .long, 2) := by decide +kernel
theorem dX1_init_10 : decode cX1_init 10 = .ok (.putfield 9, 3) := by decide +kernel
theorem dX1_init_13 : decode cX1_init 13 = .ok (.aload_n 0, 1) := by decide +kernel
theorem dX1_init_14 : decode cX1_init 14 = .ok (.sipush 288, 3) := by decide +kernel
theorem dX1_init_17 : decode cX1_init 17 = .ok (.newarray .long, 2) := by decide +kernel
theorem dX1_init_19 : decode cX1_init 19 = .ok (.putfield 15, 3) := by decide +kernel
theorem dX1_init_22 : decode cX1_init 22 = .ok (.aload_n 0, 1) := by decide +kernel
theorem dX1_init_23 : decode cX1_init 23 = .ok (.bipush 72, 2) := by decide +kernel
theorem dX1_init_25 : decode cX1_init 25 = .ok (.newarray .int, 2) := by decide +kernel
theorem dX1_init_27 : decode cX1_init 27 = .ok (.putfield 18, 3) := by decide +kernel
theorem dX1_init_30 : decode cX1_init 30 = .ok (.aload_n 0, 1) := by decide +kernel
theorem dX1_init_31 : decode cX1_init 31 = .ok (.bipush 72, 2) := by decide +kernel
theorem dX1_init_33 : decode cX1_init 33 = .ok (.newarray .int, 2) := by decide +kernel
theorem dX1_init_35 : decode cX1_init 35 = .ok (.putfield 22, 3) := by decide +kernel
theorem dX1_init_38 : decode cX1_init 38 = .ok (.aload_n 0, 1) := by decide +kernel
theorem dX1_init_39 : decode cX1_init 39 = .ok (.bipush 72, 2) := by decide +kernel
theorem dX1_init_41 : decode cX1_init 41 = .ok (.newarray .int, 2) := by decide +kernel
theorem dX1_init_43 : decode cX1_init 43 = .ok (.putfield 25, 3) := by decide +kernel
theorem dX1_init_46 : decode cX1_init 46 = .ok (.aload_n 0, 1) := by decide +kernel
theorem dX1_init_47 : decode cX1_init 47 = .ok (.bipush 72, 2) := by decide +kernel
theorem dX1_init_49 : decode cX1_init 49 = .ok (.newarray .long, 2) := by decide +kernel
theorem dX1_init_51 : decode cX1_init 51 = .ok (.putfield 28, 3) := by decide +kernel
theorem dX1_init_54 : decode cX1_init 54 = .ok (.return_, 1) := by decide +kernel
theorem dX1_place_0 : decode cX1_place 0 = .ok (.iload_n 0, 1) := by decide +kernel
theorem dX1_place_1 : decode cX1_place 1 = .ok (.iconst 4, 1) := by decide +kernel
theorem dX1_place_2 : decode cX1_place 2 = .ok (.imul, 1) := by decide +kernel
theorem dX1_place_3 : decode cX1_place 3 = .ok (.iload_n 1, 1) := by decide +kernel
theorem dX1_place_4 : decode cX1_place 4 = .ok (.iadd, 1) := by decide +kernel
theorem dX1_place_5 : decode cX1_place 5 = .ok (.ireturn, 1) := by decide +kernel
theorem dX1_drop_0 : decode cX1_drop 0 = .ok (.iload_n 1, 1) := by decide +kernel
theorem dX1_drop_1 : decode cX1_drop 1 = .ok (.istore_n 2, 1) := by decide +kernel
theorem dX1_drop_2 : decode cX1_drop 2 = .ok (.iload_n 2, 1) := by decide +kernel
theorem dX1_drop_3 : decode cX1_drop 3 = .ok (.iconst 1, 1) := by decide +kernel
theorem dX1_drop_4 : decode cX1_drop 4 = .ok (.iadd, 1) := by decide +kernel
theorem dX1_drop_5 : decode cX1_drop 5 = .ok (.aload_n 0, 1) := by decide +kernel
theorem dX1_drop_6 : decode cX1_drop 6 = .ok (.getfield 31, 3) := by decide +kernel
theorem dX1_drop_9 : decode cX1_drop 9 = .ok (.if_icmp .ge 17, 3) := by decide +kernel
theorem dX1_drop_12 : decode cX1_drop 12 = .ok (.aload_n 0, 1) := by decide +kernel
theorem dX1_drop_13 : decode cX1_drop 13 = .ok (.iload_n 2, 1) := by decide +kernel
theorem dX1_drop_14 : decode cX1_drop 14 = .ok (.iconst 1, 1) := by decide +kernel
theorem dX1_drop_15 : decode cX1_drop 15 = .ok (.iadd, 1) := by decide +kernel
theorem dX1_drop_16 : decode cX1_drop 16 = .ok (.iload_n 2, 1) := by decide +kernel
theorem dX1_drop_17 : decode cX1_drop 17 = .ok (.invokevirtual 35, 3) := by decide +kernel
theorem dX1_drop_20 : decode cX1_drop 20 = .ok (.iinc 2 1, 3) := by decide +kernel
theorem dX1_drop_23 : decode cX1_drop 23 = .ok (.goto (-21), 3) := by decide +kernel
theorem dX1_drop_26 : decode cX1_drop 26 = .ok (.aload_n 0, 1) := by decide +kernel
theorem dX1_drop_27 : decode cX1_drop 27 = .ok (.dup, 1) := by decide +kernel
theorem dX1_drop_28 : decode cX1_drop 28 = .ok (.getfield 31, 3) := by decide +kernel
theorem dX1_drop_31 : decode cX1_drop 31 = .ok (.iconst 1, 1) := by decide +kernel
theorem dX1_drop_32 : decode cX1_drop 32 = .ok (.isub, 1) := by decide +kernel
theorem dX1_drop_33 : decode cX1_drop 33 = .ok (.putfield 31, 3) := by decide +kernel
theorem dX1_drop_36 : decode cX1_drop 36 = .ok (.return_, 1) := by decide +kernel
theorem dX1_copy_0 : decode cX1_copy 0 = .ok (.iconst 0, 1) := by decide +kernel
theorem dX1_copy_1 : decode cX1_copy 1 = .ok (.istore_n 3, 1) := by decide +kernel
theorem dX1_copy_2 : decode cX1_copy 2 = .ok (.iload_n 3, 1) := by decide +kernel
theorem dX1_copy_3 : decode cX1_copy 3 = .ok (.iconst 4, 1) := by decide +kernel
theorem dX1_copy_4 : decode cX1_copy 4 = .ok (.if_icmp .ge 49, 3) := by decide +kernel
theorem dX1_copy_7 : decode cX1_copy 7 = .ok (.aload_n 0, 1) := by decide +kernel
theorem dX1_copy_8 : decode cX1_copy 8 = .ok (.getfield 9, 3) := by decide +kernel
theorem dX1_copy_11 : decode cX1_copy 11 = .ok (.iload_n 2, 1) := by decide +kernel
theorem dX1_copy_12 : decode cX1_copy 12 = .ok (.iload_n 3, 1) := by decide +kernel
theorem dX1_copy_13 : decode cX1_copy 13 = .ok (.invokestatic 39, 3) := by decide +kernel
theorem dX1_copy_16 : decode cX1_copy 16 = .ok (.aload_n 0, 1) := by decide +kernel
theorem dX1_copy_17 : decode cX1_copy 17 = .ok (.getfield 9, 3) := by decide +kernel
theorem dX1_copy_20 : decode cX1_copy 20 = .ok (.iload_n 1, 1) := by decide +kernel
theorem dX1_copy_21 : decode cX1_copy 21 = .ok (.iload_n 3, 1) := by decide +kernel
theorem dX1_copy_22 : decode cX1_copy 22 = .ok (.invokestatic 39, 3) := by decide +kernel
theorem dX1_copy_25 : decode cX1_copy 25 = .ok (.laload, 1) := by decide +kernel
theorem dX1_copy_26 : decode cX1_copy 26 = .ok (.lastore, 1) := by decide +kernel
theorem dX1_copy_27 : decode cX1_copy 27 = .ok (.aload_n 0, 1) := by decide +kernel
theorem dX1_copy_28 : decode cX1_copy 28 = .ok (.getfield 15, 3) := by decide +kernel
theorem dX1_copy_31 : decode cX1_copy 31 = .ok (.iload_n 2, 1) := by decide +kernel
theorem dX1_copy_32 : decode cX1_copy 32 = .ok (.iload_n 3, 1) := by decide +kernel
theorem dX1_copy_33 : decode cX1_copy 33 = .ok (.invokestatic 39, 3) := by decide +kernel
theorem dX1_copy_36 : decode cX1_copy 36 = .ok (.aload_n 0, 1) := by decide +kernel
theorem dX1_copy_37 : decode cX1_copy 37 = .ok (.getfield 15, 3) := by decide +kernel
theorem dX1_copy_40 : decode cX1_copy 40 = .ok (.iload_n 1, 1) := by decide +kernel
theorem dX1_copy_41 : decode cX1_copy 41 = .ok (.iload_n 3, 1) := by decide +kernel
theorem dX1_copy_42 : decode cX1_copy 42 = .ok (.invokestatic 39, 3) := by decide +kernel
theorem dX1_copy_45 : decode cX1_copy 45 = .ok (.laload, 1) := by decide +kernel
theorem dX1_copy_46 : decode cX1_copy 46 = .ok (.lastore, 1) := by decide +kernel
theorem dX1_copy_47 : decode cX1_copy 47 = .ok (.iinc 3 1, 3) := by decide +kernel
theorem dX1_copy_50 : decode cX1_copy 50 = .ok (.goto (-48), 3) := by decide +kernel
theorem dX1_copy_53 : decode cX1_copy 53 = .ok (.aload_n 0, 1) := by decide +kernel
theorem dX1_copy_54 : decode cX1_copy 54 = .ok (.getfield 18, 3) := by decide +kernel
theorem dX1_copy_57 : decode cX1_copy 57 = .ok (.iload_n 2, 1) := by decide +kernel
theorem dX1_copy_58 : decode cX1_copy 58 = .ok (.aload_n 0, 1) := by decide +kernel
theorem dX1_copy_59 : decode cX1_copy 59 = .ok (.getfield 18, 3) := by decide +kernel
theorem dX1_copy_62 : decode cX1_copy 62 = .ok (.iload_n 1, 1) := by decide +kernel
theorem dX1_copy_63 : decode cX1_copy 63 = .ok (.iaload, 1) := by decide +kernel
theorem dX1_copy_64 : decode cX1_copy 64 = .ok (.iastore, 1) := by decide +kernel
theorem dX1_copy_65 : decode cX1_copy 65 = .ok (.aload_n 0, 1) := by decide +kernel
theorem dX1_copy_66 : decode cX1_copy 66 = .ok (.getfield 22, 3) := by decide +kernel
theorem dX1_copy_69 : decode cX1_copy 69 = .ok (.iload_n 2, 1) := by decide +kernel
theorem dX1_copy_70 : decode cX1_copy 70 = .ok (.aload_n 0, 1) := by decide +kernel
theorem dX1_copy_71 : decode cX1_copy 71 = .ok (.getfield 22, 3) := by decide +kernel
theorem dX1_copy_74 : decode cX1_copy 74 = .ok (.iload_n 1, 1) := by decide +kernel
theorem dX1_copy_75 : decode cX1_copy 75 = .ok (.iaload, 1) := by decide +kernel
theorem dX1_copy_76 : decode cX1_copy 76 = .ok (.iastore, 1) := by decide +kernel
theorem dX1_copy_77 : decode cX1_copy 77 = .ok (.aload_n 0, 1) := by decide +kernel
theorem dX1_copy_78 : decode cX1_copy 78 = .ok (.getfield 25, 3) := by decide +kernel
theorem dX1_copy_81 : decode cX1_copy 81 = .ok (.iload_n 2, 1) := by decide +kernel
theorem dX1_copy_82 : decode cX1_copy 82 = .ok (.aload_n 0, 1) := by decide +kernel
theorem dX1_copy_83 : decode cX1_copy 83 = .ok (.getfield 25, 3) := by decide +kernel
theorem dX1_copy_86 : decode cX1_copy 86 = .ok (.iload_n 1, 1) := by decide +kernel
theorem dX1_copy_87 : decode cX1_copy 87 = .ok (.iaload, 1) := by decide +kernel
theorem dX1_copy_88 : decode cX1_copy 88 = .ok (.iastore, 1) := by decide +kernel
theorem dX1_copy_89 : decode cX1_copy 89 = .ok (.aload_n 0, 1) := by decide +kernel
theorem dX1_copy_90 : decode cX1_copy 90 = .ok (.getfield 28, 3) := by decide +kernel
theorem dX1_copy_93 : decode cX1_copy 93 = .ok (.iload_n 2, 1) := by decide +kernel
theorem dX1_copy_94 : decode cX1_copy 94 = .ok (.aload_n 0, 1) := by decide +kernel
theorem dX1_copy_95 : decode cX1_copy 95 = .ok (.getfield 28, 3) := by decide +kernel
theorem dX1_copy_98 : decode cX1_copy 98 = .ok (.iload_n 1, 1) := by decide +kernel
theorem dX1_copy_99 : decode cX1_copy 99 = .ok (.laload, 1) := by decide +kernel
theorem dX1_copy_100 : decode cX1_copy 100 = .ok (.lastore, 1) := by decide +kernel
theorem dX1_copy_101 : decode cX1_copy 101 = .ok (.return_, 1) := by decide +kernel
theorem dX1_isWorthMore_0 : decode cX1_isWorthMore 0 = .ok (.aload_n 0, 1) := by decide +kernel
theorem dX1_isWorthMore_1 : decode cX1_isWorthMore 1 = .ok (.getfield 18, 3) := by decide +kernel
theorem dX1_isWorthMore_4 : decode cX1_isWorthMore 4 = .ok (.iload_n 1, 1) := by decide +kernel
theorem dX1_isWorthMore_5 : decode cX1_isWorthMore 5 = .ok (.iaload, 1) := by decide +kernel
theorem dX1_isWorthMore_6 : decode cX1_isWorthMore 6 = .ok (.aload_n 0, 1) := by decide +kernel
theorem dX1_isWorthMore_7 : decode cX1_isWorthMore 7 = .ok (.getfield 18, 3) := by decide +kernel
theorem dX1_isWorthMore_10 : decode cX1_isWorthMore 10 = .ok (.iload_n 2, 1) := by decide +kernel
theorem dX1_isWorthMore_11 : decode cX1_isWorthMore 11 = .ok (.iaload, 1) := by decide +kernel
theorem dX1_isWorthMore_12 : decode cX1_isWorthMore 12 = .ok (.if_icmp .eq 24, 3) := by decide +kernel
theorem dX1_isWorthMore_15 : decode cX1_isWorthMore 15 = .ok (.aload_n 0, 1) := by decide +kernel
theorem dX1_isWorthMore_16 : decode cX1_isWorthMore 16 = .ok (.getfield 18, 3) := by decide +kernel
theorem dX1_isWorthMore_19 : decode cX1_isWorthMore 19 = .ok (.iload_n 1, 1) := by decide +kernel
theorem dX1_isWorthMore_20 : decode cX1_isWorthMore 20 = .ok (.iaload, 1) := by decide +kernel
theorem dX1_isWorthMore_21 : decode cX1_isWorthMore 21 = .ok (.aload_n 0, 1) := by decide +kernel
theorem dX1_isWorthMore_22 : decode cX1_isWorthMore 22 = .ok (.getfield 18, 3) := by decide +kernel
theorem dX1_isWorthMore_25 : decode cX1_isWorthMore 25 = .ok (.iload_n 2, 1) := by decide +kernel
theorem dX1_isWorthMore_26 : decode cX1_isWorthMore 26 = .ok (.iaload, 1) := by decide +kernel
theorem dX1_isWorthMore_27 : decode cX1_isWorthMore 27 = .ok (.if_icmp .le 7, 3) := by decide +kernel
theorem dX1_isWorthMore_30 : decode cX1_isWorthMore 30 = .ok (.iconst 1, 1) := by decide +kernel
theorem dX1_isWorthMore_31 : decode cX1_isWorthMore 31 = .ok (.goto 4, 3) := by decide +kernel
theorem dX1_isWorthMore_34 : decode cX1_isWorthMore 34 = .ok (.iconst 0, 1) := by decide +kernel
theorem dX1_isWorthMore_35 : decode cX1_isWorthMore 35 = .ok (.ireturn, 1) := by decide +kernel
theorem dX1_isWorthMore_36 : decode cX1_isWorthMore 36 = .ok (.aload_n 0, 1) := by decide +kernel
theorem dX1_isWorthMore_37 : decode cX1_isWorthMore 37 = .ok (.getfield 22, 3) := by decide +kernel
theorem dX1_isWorthMore_40 : decode cX1_isWorthMore 40 = .ok (.iload_n 1, 1) := by decide +kernel
theorem dX1_isWorthMore_41 : decode cX1_isWorthMore 41 = .ok (.iaload, 1) := by decide +kernel
theorem dX1_isWorthMore_42 : decode cX1_isWorthMore 42 = .ok (.aload_n 0, 1) := by decide +kernel
theorem dX1_isWorthMore_43 : decode cX1_isWorthMore 43 = .ok (.getfield 22, 3) := by decide +kernel
theorem dX1_isWorthMore_46 : decode cX1_isWorthMore 46 = .ok (.iload_n 2, 1) := by decide +kernel
theorem dX1_isWorthMore_47 : decode cX1_isWorthMore 47 = .ok (.iaload, 1) := by decide +kernel
theorem dX1_isWorthMore_48 : decode cX1_isWorthMore 48 = .ok (.if_icmp .le 7, 3) := by decide +kernel
theorem dX1_isWorthMore_51 : decode cX1_isWorthMore 51 = .ok (.iconst 1, 1) := by decide +kernel
theorem dX1_isWorthMore_52 : decode cX1_isWorthMore 52 = .ok (.goto 4, 3) := by decide +kernel
theorem dX1_isWorthMore_55 : decode cX1_isWorthMore 55 = .ok (.iconst 0, 1) := by decide +kernel
theorem dX1_isWorthMore_56 : decode cX1_isWorthMore 56 = .ok (.ireturn, 1) := by decide +kernel
theorem dX2_init_0 : decode cX2_init 0 = .ok (.aload_n 0, 1) := by decide +kernel
theorem dX2_init_1 : decode cX2_init 1 = .ok (.invokespecial 3, 3) := by decide +kernel
theorem dX2_init_4 : decode cX2_init 4 = .ok (.aload_n 0, 1) := by decide +kernel
theorem dX2_init_5 : decode cX2_init 5 = .ok (.iconst 4, 1) := by decide +kernel
theorem dX2_init_6 : decode cX2_init 6 = .ok (.newarray .int, 2) := by decide +kernel
theorem dX2_init_8 : decode cX2_init 8 = .ok (.putfield 9, 3) := by decide +kernel
theorem dX2_init_11 : decode cX2_init 11 = .ok (.aload_n 0, 1) := by decide +kernel
theorem dX2_init_12 : decode cX2_init 12 = .ok (.iconst 4, 1) := by decide +kernel
theorem dX2_init_13 : decode cX2_init 13 = .ok (.newarray .long, 2) := by decide +kernel
theorem dX2_init_15 : decode cX2_init 15 = .ok (.putfield 15, 3) := by decide +kernel
theorem dX2_init_18 : decode cX2_init 18 = .ok (.return_, 1) := by decide +kernel
theorem dX2_have_0 : decode cX2_have 0 = .ok (.iconst 0, 1) := by decide +kernel
theorem dX2_have_1 : decode cX2_have 1 = .ok (.istore_n 2, 1) := by decide +kernel
theorem dX2_have_2 : decode cX2_have 2 = .ok (.iload_n 2, 1) := by decide +kernel
theorem dX2_have_3 : decode cX2_have 3 = .ok (.aload_n 0, 1) := by decide +kernel
theorem dX2_have_4 : decode cX2_have 4 = .ok (.getfield 19, 3) := by decide +kernel
theorem dX2_have_7 : decode cX2_have 7 = .ok (.if_icmp .ge 21, 3) := by decide +kernel
theorem dX2_have_10 : decode cX2_have 10 = .ok (.aload_n 0, 1) := by decide +kernel
theorem dX2_have_11 : decode cX2_have 11 = .ok (.getfield 9, 3) := by decide +kernel
theorem dX2_have_14 : decode cX2_have 14 = .ok (.iload_n 2, 1) := by decide +kernel
theorem dX2_have_15 : decode cX2_have 15 = .ok (.iaload, 1) := by decide +kernel
theorem dX2_have_16 : decode cX2_have 16 = .ok (.iload_n 1, 1) := by decide +kernel
theorem dX2_have_17 : decode cX2_have 17 = .ok (.if_icmp .ne 5, 3) := by decide +kernel
theorem dX2_have_20 : decode cX2_have 20 = .ok (.iconst 1, 1) := by decide +kernel
theorem dX2_have_21 : decode cX2_have 21 = .ok (.ireturn, 1) := by decide +kernel
theorem dX2_have_22 : decode cX2_have 22 = .ok (.iinc 2 1, 3) := by decide +kernel
theorem dX2_have_25 : decode cX2_have 25 = .ok (.goto (-23), 3) := by decide +kernel
theorem dX2_have_28 : decode cX2_have 28 = .ok (.iconst 0, 1) := by decide +kernel
theorem dX2_have_29 : decode cX2_have 29 = .ok (.ireturn, 1) := by decide +kernel
theorem dX2_areExact_0 : decode cX2_areExact 0 = .ok (.aload_n 0, 1) := by decide +kernel
theorem dX2_areExact_1 : decode cX2_areExact 1 = .ok (.iconst 1, 1) := by decide +kernel
theorem dX2_areExact_2 : decode cX2_areExact 2 = .ok (.invokevirtual 23, 3) := by decide +kernel
theorem dX2_areExact_5 : decode cX2_areExact 5 = .ok (.ifCond .ne 15, 3) := by decide +kernel
theorem dX2_areExact_8 : decode cX2_areExact 8 = .ok (.aload_n 0, 1) := by decide +kernel
theorem dX2_areExact_9 : decode cX2_areExact 9 = .ok (.iconst 2, 1) := by decide +kernel
theorem dX2_areExact_10 : decode cX2_areExact 10 = .ok (.invokevirtual 23, 3) := by decide +kernel
theorem dX2_areExact_13 : decode cX2_areExact 13 = .ok (.ifCond .ne 7, 3) := by decide +kernel
theorem dX2_areExact_16 : decode cX2_areExact 16 = .ok (.iconst 1, 1) := by decide +kernel
theorem dX2_areExact_17 : decode cX2_areExact 17 = .ok (.goto 4, 3) := by decide +kernel
theorem dX2_areExact_20 : decode cX2_areExact 20 = .ok (.iconst 0, 1) := by decide +kernel
theorem dX2_areExact_21 : decode cX2_areExact 21 = .ok (.ireturn, 1) := by decide +kernel
theorem dX2_allow_0 : decode cX2_allow 0 = .ok (.iload_n 1, 1) := by decide +kernel
theorem dX2_allow_1 : decode cX2_allow 1 = .ok (.lookupswitch 46 #[(1, 27), (2, 32)], 27) := by decide +kernel
theorem dX2_allow_28 : decode cX2_allow 28 = .ok (.aload_n 0, 1) := by decide +kernel
theorem dX2_allow_29 : decode cX2_allow 29 = .ok (.invokevirtual 27, 3) := by decide +kernel
theorem dX2_allow_32 : decode cX2_allow 32 = .ok (.ireturn, 1) := by decide +kernel
theorem dX2_allow_33 : decode cX2_allow 33 = .ok (.aload_n 0, 1) := by decide +kernel
theorem dX2_allow_34 : decode cX2_allow 34 = .ok (.iconst 1, 1) := by decide +kernel
theorem dX2_allow_35 : decode cX2_allow 35 = .ok (.invokevirtual 23, 3) := by decide +kernel
theorem dX2_allow_38 : decode cX2_allow 38 = .ok (.ifCond .ne 7, 3) := by decide +kernel
theorem dX2_allow_41 : decode cX2_allow 41 = .ok (.iconst 1, 1) := by decide +kernel
theorem dX2_allow_42 : decode cX2_allow 42 = .ok (.goto 4, 3) := by decide +kernel
theorem dX2_allow_45 : decode cX2_allow 45 = .ok (.iconst 0, 1) := by decide +kernel
theorem dX2_allow_46 : decode cX2_allow 46 = .ok (.ireturn, 1) := by decide +kernel
theorem dX2_allow_47 : decode cX2_allow 47 = .ok (.iconst 1, 1) := by decide +kernel
theorem dX2_allow_48 : decode cX2_allow 48 = .ok (.ireturn, 1) := by decide +kernel
theorem dX2_add_0 : decode cX2_add 0 = .ok (.aload_n 0, 1) := by decide +kernel
theorem dX2_add_1 : decode cX2_add 1 = .ok (.getfield 19, 3) := by decide +kernel
theorem dX2_add_4 : decode cX2_add 4 = .ok (.istore_n 3, 1) := by decide +kernel
theorem dX2_add_5 : decode cX2_add 5 = .ok (.aload_n 0, 1) := by decide +kernel
theorem dX2_add_6 : decode cX2_add 6 = .ok (.getfield 9, 3) := by decide +kernel
theorem dX2_add_9 : decode cX2_add 9 = .ok (.iload_n 3, 1) := by decide +kernel
theorem dX2_add_10 : decode cX2_add 10 = .ok (.iload_n 2, 1) := by decide +kernel
theorem dX2_add_11 : decode cX2_add 11 = .ok (.iastore, 1) := by decide +kernel
theorem dX2_add_12 : decode cX2_add 12 = .ok (.aload_n 0, 1) := by decide +kernel
theorem dX2_add_13 : decode cX2_add 13 = .ok (.getfield 15, 3) := by decide +kernel
theorem dX2_add_16 : decode cX2_add 16 = .ok (.iload_n 3, 1) := by decide +kernel
theorem dX2_add_17 : decode cX2_add 17 = .ok (.ldc2_w 31, 3) := by decide +kernel
theorem dX2_add_20 : decode cX2_add 20 = .ok (.bipush 64, 2) := by decide +kernel
theorem dX2_add_22 : decode cX2_add 22 = .ok (.iload_n 1, 1) := by decide +kernel
theorem dX2_add_23 : decode cX2_add 23 = .ok (.isub, 1) := by decide +kernel
theorem dX2_add_24 : decode cX2_add 24 = .ok (.lushr, 1) := by decide +kernel
theorem dX2_add_25 : decode cX2_add 25 = .ok (.lastore, 1) := by decide +kernel
theorem dX2_add_26 : decode cX2_add 26 = .ok (.aload_n 0, 1) := by decide +kernel
theorem dX2_add_27 : decode cX2_add 27 = .ok (.iload_n 3, 1) := by decide +kernel
theorem dX2_add_28 : decode cX2_add 28 = .ok (.iconst 1, 1) := by decide +kernel
theorem dX2_add_29 : decode cX2_add 29 = .ok (.iadd, 1) := by decide +kernel
theorem dX2_add_30 : decode cX2_add 30 = .ok (.putfield 19, 3) := by decide +kernel
theorem dX2_add_33 : decode cX2_add 33 = .ok (.iload_n 3, 1) := by decide +kernel
theorem dX2_add_34 : decode cX2_add 34 = .ok (.ireturn, 1) := by decide +kernel
theorem dX2_takeMask_0 : decode cX2_takeMask 0 = .ok (.aload_n 0, 1) := by decide +kernel
theorem dX2_takeMask_1 : decode cX2_takeMask 1 = .ok (.getfield 15, 3) := by decide +kernel
theorem dX2_takeMask_4 : decode cX2_takeMask 4 = .ok (.iload_n 1, 1) := by decide +kernel
theorem dX2_takeMask_5 : decode cX2_takeMask 5 = .ok (.laload, 1) := by decide +kernel
theorem dX2_takeMask_6 : decode cX2_takeMask 6 = .ok (.lload_n 2, 1) := by decide +kernel
theorem dX2_takeMask_7 : decode cX2_takeMask 7 = .ok (.ldc2_w 31, 3) := by decide +kernel
theorem dX2_takeMask_10 : decode cX2_takeMask 10 = .ok (.lxor, 1) := by decide +kernel
theorem dX2_takeMask_11 : decode cX2_takeMask 11 = .ok (.land, 1) := by decide +kernel
theorem dX2_takeMask_12 : decode cX2_takeMask 12 = .ok (.lstore 4, 2) := by decide +kernel
theorem dX2_takeMask_14 : decode cX2_takeMask 14 = .ok (.aload_n 0, 1) := by decide +kernel
theorem dX2_takeMask_15 : decode cX2_takeMask 15 = .ok (.getfield 9, 3) := by decide +kernel
theorem dX2_takeMask_18 : decode cX2_takeMask 18 = .ok (.iload_n 1, 1) := by decide +kernel
theorem dX2_takeMask_19 : decode cX2_takeMask 19 = .ok (.iaload, 1) := by decide +kernel
theorem dX2_takeMask_20 : decode cX2_takeMask 20 = .ok (.lookupswitch 59 #[(0, 28), (1, 41)], 28) := by decide +kernel
theorem dX2_takeMask_48 : decode cX2_takeMask 48 = .ok (.lload 4, 2) := by decide +kernel
theorem dX2_takeMask_50 : decode cX2_takeMask 50 = .ok (.lconst 0, 1) := by decide +kernel
theorem dX2_takeMask_51 : decode cX2_takeMask 51 = .ok (.lcmp, 1) := by decide +kernel
theorem dX2_takeMask_52 : decode cX2_takeMask 52 = .ok (.ifCond .ne 7, 3) := by decide +kernel
theorem dX2_takeMask_55 : decode cX2_takeMask 55 = .ok (.iconst 1, 1) := by decide +kernel
theorem dX2_takeMask_56 : decode cX2_takeMask 56 = .ok (.goto 4, 3) := by decide +kernel
theorem dX2_takeMask_59 : decode cX2_takeMask 59 = .ok (.iconst 0, 1) := by decide +kernel
theorem dX2_takeMask_60 : decode cX2_takeMask 60 = .ok (.ireturn, 1) := by decide +kernel
theorem dX2_takeMask_61 : decode cX2_takeMask 61 = .ok (.lload 4, 2) := by decide +kernel
theorem dX2_takeMask_63 : decode cX2_takeMask 63 = .ok (.lload 4, 2) := by decide +kernel
theorem dX2_takeMask_65 : decode cX2_takeMask 65 = .ok (.lconst 1, 1) := by decide +kernel
theorem dX2_takeMask_66 : decode cX2_takeMask 66 = .ok (.ladd, 1) := by decide +kernel
theorem dX2_takeMask_67 : decode cX2_takeMask 67 = .ok (.land, 1) := by decide +kernel
theorem dX2_takeMask_68 : decode cX2_takeMask 68 = .ok (.lconst 0, 1) := by decide +kernel
theorem dX2_takeMask_69 : decode cX2_takeMask 69 = .ok (.lcmp, 1) := by decide +kernel
theorem dX2_takeMask_70 : decode cX2_takeMask 70 = .ok (.ifCond .ne 7, 3) := by decide +kernel
theorem dX2_takeMask_73 : decode cX2_takeMask 73 = .ok (.iconst 1, 1) := by decide +kernel
theorem dX2_takeMask_74 : decode cX2_takeMask 74 = .ok (.goto 4, 3) := by decide +kernel
theorem dX2_takeMask_77 : decode cX2_takeMask 77 = .ok (.iconst 0, 1) := by decide +kernel
theorem dX2_takeMask_78 : decode cX2_takeMask 78 = .ok (.ireturn, 1) := by decide +kernel
theorem dX2_takeMask_79 : decode cX2_takeMask 79 = .ok (.iconst 1, 1) := by decide +kernel
theorem dX2_takeMask_80 : decode cX2_takeMask 80 = .ok (.ireturn, 1) := by decide +kernel

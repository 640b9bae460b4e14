theorem dX0_init_0 : decode cX0_init 0 = .ok (.aload_n 0, 1) := by decide +kernel
theorem dX0_init_1 : decode cX0_init 1 = .ok (.invokespecial 3, 3) := by decide +kernel
theorem dX0_init_4 : decode cX0_init 4 = .ok (.aload_n 0, 1) := by decide +kernel
theorem dX0_init_5 : decode cX0_init 5 = .ok (.bipush 40, 2) := by decide +kernel
theorem dX0_init_7 : decode cX0_init 7 = .ok (.newarray .int, 2) := by decide +kernel
theorem dX0_init_9 : decode cX0_init 9 = .ok (.putfield 9, 3) := by decide +kernel
theorem dX0_init_12 : decode cX0_init 12 = .ok (.aload_n 0, 1) := by decide +kernel
theorem dX0_init_13 : decode cX0_init 13 = .ok (.bipush 40, 2) := by decide +kernel
theorem dX0_init_15 : decode cX0_init 15 = .ok (.newarray .int, 2) := by decide +kernel
theorem dX0_init_17 : decode cX0_init 17 = .ok (.putfield 15, 3) := by decide +kernel
theorem dX0_init_20 : decode cX0_init 20 = .ok (.aload_n 0, 1) := by decide +kernel
theorem dX0_init_21 : decode cX0_init 21 = .ok (.iconst 0, 1) := by decide +kernel
theorem dX0_init_22 : decode cX0_init 22 = .ok (.putfield 18, 3) := by decide +kernel
theorem dX0_init_25 : decode cX0_init 25 = .ok (.aload_n 0, 1) := by decide +kernel
theorem dX0_init_26 : decode cX0_init 26 = .ok (.aload_n 1, 1) := by decide +kernel
theorem dX0_init_27 : decode cX0_init 27 = .ok (.putfield 22, 3) := by decide +kernel
theorem dX0_init_30 : decode cX0_init 30 = .ok (.aload_n 0, 1) := by decide +kernel
theorem dX0_init_31 : decode cX0_init 31 = .ok (.aload_n 1, 1) := by decide +kernel
theorem dX0_init_32 : decode cX0_init 32 = .ok (.getfield 26, 3) := by decide +kernel
theorem dX0_init_35 : decode cX0_init 35 = .ok (.newarray .boolean, 2) := by decide +kernel
theorem dX0_init_37 : decode cX0_init 37 = .ok (.putfield 31, 3) := by decide +kernel
theorem dX0_init_40 : decode cX0_init 40 = .ok (.return_, 1) := by decide +kernel
theorem dX0_has_0 : decode cX0_has 0 = .ok (.iload_n 1, 1) := by decide +kernel
theorem dX0_has_1 : decode cX0_has 1 = .ok (.ifCond .lt 21, 3) := by decide +kernel
theorem dX0_has_4 : decode cX0_has 4 = .ok (.iload_n 1, 1) := by decide +kernel
theorem dX0_has_5 : decode cX0_has 5 = .ok (.aload_n 0, 1) := by decide +kernel
theorem dX0_has_6 : decode cX0_has 6 = .ok (.getfield 18, 3) := by decide +kernel
theorem dX0_has_9 : decode cX0_has 9 = .ok (.if_icmp .ge 13, 3) := by decide +kernel
theorem dX0_has_12 : decode cX0_has 12 = .ok (.iload_n 1, 1) := by decide +kernel
theorem dX0_has_13 : decode cX0_has 13 = .ok (.bipush 40, 2) := by decide +kernel
theorem dX0_has_15 : decode cX0_has 15 = .ok (.if_icmp .ge 7, 3) := by decide +kernel
theorem dX0_has_18 : decode cX0_has 18 = .ok (.iconst 1, 1) := by decide +kernel
theorem dX0_has_19 : decode cX0_has 19 = .ok (.goto 4, 3) := by decide +kernel
theorem dX0_has_22 : decode cX0_has 22 = .ok (.iconst 0, 1) := by decide +kernel
theorem dX0_has_23 : decode cX0_has 23 = .ok (.ireturn, 1) := by decide +kernel
theorem dX0_add_0 : decode cX0_add 0 = .ok (.aload_n 0, 1) := by decide +kernel
theorem dX0_add_1 : decode cX0_add 1 = .ok (.getfield 22, 3) := by decide +kernel
theorem dX0_add_4 : decode cX0_add 4 = .ok (.iload_n 1, 1) := by decide +kernel
theorem dX0_add_5 : decode cX0_add 5 = .ok (.invokevirtual 35, 3) := by decide +kernel
theorem dX0_add_8 : decode cX0_add 8 = .ok (.ifCond .eq 14, 3) := by decide +kernel
theorem dX0_add_11 : decode cX0_add 11 = .ok (.iload_n 2, 1) := by decide +kernel
theorem dX0_add_12 : decode cX0_add 12 = .ok (.iconst 1, 1) := by decide +kernel
theorem dX0_add_13 : decode cX0_add 13 = .ok (.if_icmp .lt 9, 3) := by decide +kernel
theorem dX0_add_16 : decode cX0_add 16 = .ok (.iload_n 2, 1) := by decide +kernel
theorem dX0_add_17 : decode cX0_add 17 = .ok (.bipush 9, 2) := by decide +kernel
theorem dX0_add_19 : decode cX0_add 19 = .ok (.if_icmp .le 5, 3) := by decide +kernel
theorem dX0_add_22 : decode cX0_add 22 = .ok (.iconst 0, 1) := by decide +kernel
theorem dX0_add_23 : decode cX0_add 23 = .ok (.ireturn, 1) := by decide +kernel
theorem dX0_add_24 : decode cX0_add 24 = .ok (.aload_n 0, 1) := by decide +kernel
theorem dX0_add_25 : decode cX0_add 25 = .ok (.getfield 31, 3) := by decide +kernel
theorem dX0_add_28 : decode cX0_add 28 = .ok (.iload_n 1, 1) := by decide +kernel
theorem dX0_add_29 : decode cX0_add 29 = .ok (.baload, 1) := by decide +kernel
theorem dX0_add_30 : decode cX0_add 30 = .ok (.ifCond .ne 12, 3) := by decide +kernel
theorem dX0_add_33 : decode cX0_add 33 = .ok (.aload_n 0, 1) := by decide +kernel
theorem dX0_add_34 : decode cX0_add 34 = .ok (.getfield 18, 3) := by decide +kernel
theorem dX0_add_37 : decode cX0_add 37 = .ok (.bipush 40, 2) := by decide +kernel
theorem dX0_add_39 : decode cX0_add 39 = .ok (.if_icmp .lt 5, 3) := by decide +kernel
theorem dX0_add_42 : decode cX0_add 42 = .ok (.iconst 0, 1) := by decide +kernel
theorem dX0_add_43 : decode cX0_add 43 = .ok (.ireturn, 1) := by decide +kernel
theorem dX0_add_44 : decode cX0_add 44 = .ok (.aload_n 0, 1) := by decide +kernel
theorem dX0_add_45 : decode cX0_add 45 = .ok (.getfield 9, 3) := by decide +kernel
theorem dX0_add_48 : decode cX0_add 48 = .ok (.aload_n 0, 1) := by decide +kernel
theorem dX0_add_49 : decode cX0_add 49 = .ok (.getfield 18, 3) := by decide +kernel
theorem dX0_add_52 : decode cX0_add 52 = .ok (.iload_n 1, 1) := by decide +kernel
theorem dX0_add_53 : decode cX0_add 53 = .ok (.iastore, 1) := by decide +kernel
theorem dX0_add_54 : decode cX0_add 54 = .ok (.aload_n 0, 1) := by decide +kernel
theorem dX0_add_55 : decode cX0_add 55 = .ok (.getfield 15, 3) := by decide +kernel
theorem dX0_add_58 : decode cX0_add 58 = .ok (.aload_n 0, 1) := by decide +kernel
theorem dX0_add_59 : decode cX0_add 59 = .ok (.getfield 18, 3) := by decide +kernel
theorem dX0_add_62 : decode cX0_add 62 = .ok (.iload_n 2, 1) := by decide +kernel
theorem dX0_add_63 : decode cX0_add 63 = .ok (.iastore, 1) := by decide +kernel
theorem dX0_add_64 : decode cX0_add 64 = .ok (.aload_n 0, 1) := by decide +kernel
theorem dX0_add_65 : decode cX0_add 65 = .ok (.getfield 31, 3) := by decide +kernel
theorem dX0_add_68 : decode cX0_add 68 = .ok (.iload_n 1, 1) := by decide +kernel
theorem dX0_add_69 : decode cX0_add 69 = .ok (.iconst 1, 1) := by decide +kernel
theorem dX0_add_70 : decode cX0_add 70 = .ok (.bastore, 1) := by decide +kernel
theorem dX0_add_71 : decode cX0_add 71 = .ok (.aload_n 0, 1) := by decide +kernel
theorem dX0_add_72 : decode cX0_add 72 = .ok (.dup, 1) := by decide +kernel
theorem dX0_add_73 : decode cX0_add 73 = .ok (.getfield 18, 3) := by decide +kernel
theorem dX0_add_76 : decode cX0_add 76 = .ok (.iconst 1, 1) := by decide +kernel
theorem dX0_add_77 : decode cX0_add 77 = .ok (.iadd, 1) := by decide +kernel
theorem dX0_add_78 : decode cX0_add 78 = .ok (.putfield 18, 3) := by decide +kernel
theorem dX0_add_81 : decode cX0_add 81 = .ok (.iconst 1, 1) := by decide +kernel
theorem dX0_add_82 : decode cX0_add 82 = .ok (.ireturn, 1) := by decide +kernel
theorem dX0_drop_0 : decode cX0_drop 0 = .ok (.aload_n 0, 1) := by decide +kernel
theorem dX0_drop_1 : decode cX0_drop 1 = .ok (.getfield 22, 3) := by decide +kernel
theorem dX0_drop_4 : decode cX0_drop 4 = .ok (.iload_n 1, 1) := by decide +kernel
theorem dX0_drop_5 : decode cX0_drop 5 = .ok (.invokevirtual 35, 3) := by decide +kernel
theorem dX0_drop_8 : decode cX0_drop 8 = .ok (.ifCond .eq 12, 3) := by decide +kernel
theorem dX0_drop_11 : decode cX0_drop 11 = .ok (.aload_n 0, 1) := by decide +kernel
theorem dX0_drop_12 : decode cX0_drop 12 = .ok (.getfield 31, 3) := by decide +kernel
theorem dX0_drop_15 : decode cX0_drop 15 = .ok (.iload_n 1, 1) := by decide +kernel
theorem dX0_drop_16 : decode cX0_drop 16 = .ok (.baload, 1) := by decide +kernel
theorem dX0_drop_17 : decode cX0_drop 17 = .ok (.ifCond .ne 5, 3) := by decide +kernel
theorem dX0_drop_20 : decode cX0_drop 20 = .ok (.iconst 0, 1) := by decide +kernel
theorem dX0_drop_21 : decode cX0_drop 21 = .ok (.ireturn, 1) := by decide +kernel
theorem dX0_drop_22 : decode cX0_drop 22 = .ok (.aload_n 0, 1) := by decide +kernel
theorem dX0_drop_23 : decode cX0_drop 23 = .ok (.getfield 31, 3) := by decide +kernel
theorem dX0_drop_26 : decode cX0_drop 26 = .ok (.iload_n 1, 1) := by decide +kernel
theorem dX0_drop_27 : decode cX0_drop 27 = .ok (.iconst 0, 1) := by decide +kernel
theorem dX0_drop_28 : decode cX0_drop 28 = .ok (.bastore, 1) := by decide +kernel
theorem dX0_drop_29 : decode cX0_drop 29 = .ok (.iconst 0, 1) := by decide +kernel
theorem dX0_drop_30 : decode cX0_drop 30 = .ok (.istore_n 2, 1) := by decide +kernel
theorem dX0_drop_31 : decode cX0_drop 31 = .ok (.iconst 0, 1) := by decide +kernel
theorem dX0_drop_32 : decode cX0_drop 32 = .ok (.istore_n 3, 1) := by decide +kernel
theorem dX0_drop_33 : decode cX0_drop 33 = .ok (.iload_n 3, 1) := by decide +kernel
theorem dX0_drop_34 : decode cX0_drop 34 = .ok (.aload_n 0, 1) := by decide +kernel
theorem dX0_drop_35 : decode cX0_drop 35 = .ok (.getfield 18, 3) := by decide +kernel
theorem dX0_drop_38 : decode cX0_drop 38 = .ok (.if_icmp .ge 46, 3) := by decide +kernel
theorem dX0_drop_41 : decode cX0_drop 41 = .ok (.aload_n 0, 1) := by decide +kernel
theorem dX0_drop_42 : decode cX0_drop 42 = .ok (.getfield 9, 3) := by decide +kernel
theorem dX0_drop_45 : decode cX0_drop 45 = .ok (.iload_n 3, 1) := by decide +kernel
theorem dX0_drop_46 : decode cX0_drop 46 = .ok (.iaload, 1) := by decide +kernel
theorem dX0_drop_47 : decode cX0_drop 47 = .ok (.iload_n 1, 1) := by decide +kernel
theorem dX0_drop_48 : decode cX0_drop 48 = .ok (.if_icmp .eq 30, 3) := by decide +kernel
theorem dX0_drop_51 : decode cX0_drop 51 = .ok (.aload_n 0, 1) := by decide +kernel
theorem dX0_drop_52 : decode cX0_drop 52 = .ok (.getfield 9, 3) := by decide +kernel
theorem dX0_drop_55 : decode cX0_drop 55 = .ok (.iload_n 2, 1) := by decide +kernel
theorem dX0_drop_56 : decode cX0_drop 56 = .ok (.aload_n 0, 1) := by decide +kernel
theorem dX0_drop_57 : decode cX0_drop 57 = .ok (.getfield 9, 3) := by decide +kernel
theorem dX0_drop_60 : decode cX0_drop 60 = .ok (.iload_n 3, 1) := by decide +kernel
theorem dX0_drop_61 : decode cX0_drop 61 = .ok (.iaload, 1) := by decide +kernel
theorem dX0_drop_62 : decode cX0_drop 62 = .ok (.iastore, 1) := by decide +kernel
theorem dX0_drop_63 : decode cX0_drop 63 = .ok (.aload_n 0, 1) := by decide +kernel
theorem dX0_drop_64 : decode cX0_drop 64 = .ok (.getfield 15, 3) := by decide +kernel
theorem dX0_drop_67 : decode cX0_drop 67 = .ok (.iload_n 2, 1) := by decide +kernel
theorem dX0_drop_68 : decode cX0_drop 68 = .ok (.aload_n 0, 1) := by decide +kernel
theorem dX0_drop_69 : decode cX0_drop 69 = .ok (.getfield 15, 3) := by decide +kernel
theorem dX0_drop_72 : decode cX0_drop 72 = .ok (.iload_n 3, 1) := by decide +kernel
theorem dX0_drop_73 : decode cX0_drop 73 = .ok (.iaload, 1) := by decide +kernel
theorem dX0_drop_74 : decode cX0_drop 74 = .ok (.iastore, 1) := by decide +kernel
theorem dX0_drop_75 : decode cX0_drop 75 = .ok (.iinc 2 1, 3) := by decide +kernel
theorem dX0_drop_78 : decode cX0_drop 78 = .ok (.iinc 3 1, 3) := by decide +kernel
theorem dX0_drop_81 : decode cX0_drop 81 = .ok (.goto (-48), 3) := by decide +kernel
theorem dX0_drop_84 : decode cX0_drop 84 = .ok (.aload_n 0, 1) := by decide +kernel
theorem dX0_drop_85 : decode cX0_drop 85 = .ok (.iload_n 2, 1) := by decide +kernel
theorem dX0_drop_86 : decode cX0_drop 86 = .ok (.putfield 18, 3) := by decide +kernel
theorem dX0_drop_89 : decode cX0_drop 89 = .ok (.iconst 1, 1) := by decide +kernel
theorem dX0_drop_90 : decode cX0_drop 90 = .ok (.ireturn, 1) := by decide +kernel
theorem dX0_become_0 : decode cX0_become 0 = .ok (.aload_n 1, 1) := by decide +kernel
theorem dX0_become_1 : decode cX0_become 1 = .ok (.getfield 9, 3) := by decide +kernel
theorem dX0_become_4 : decode cX0_become 4 = .ok (.iconst 0, 1) := by decide +kernel
theorem dX0_become_5 : decode cX0_become 5 = .ok (.aload_n 0, 1) := by decide +kernel
theorem dX0_become_6 : decode cX0_become 6 = .ok (.getfield 9, 3) := by decide +kernel
theorem dX0_become_9 : decode cX0_become 9 = .ok (.iconst 0, 1) := by decide +kernel
theorem dX0_become_10 : decode cX0_become 10 = .ok (.bipush 40, 2) := by decide +kernel
theorem dX0_become_12 : decode cX0_become 12 = .ok (.invokestatic 39, 3) := by decide +kernel
theorem dX0_become_15 : decode cX0_become 15 = .ok (.aload_n 1, 1) := by decide +kernel
theorem dX0_become_16 : decode cX0_become 16 = .ok (.getfield 15, 3) := by decide +kernel
theorem dX0_become_19 : decode cX0_become 19 = .ok (.iconst 0, 1) := by decide +kernel
theorem dX0_become_20 : decode cX0_become 20 = .ok (.aload_n 0, 1) := by decide +kernel
theorem dX0_become_21 : decode cX0_become 21 = .ok (.getfield 15, 3) := by decide +kernel
theorem dX0_become_24 : decode cX0_become 24 = .ok (.iconst 0, 1) := by decide +kernel
theorem dX0_become_25 : decode cX0_become 25 = .ok (.bipush 40, 2) := by decide +kernel
theorem dX0_become_27 : decode cX0_become 27 = .ok (.invokestatic 39, 3) := by decide +kernel
theorem dX0_become_30 : decode cX0_become 30 = .ok (.iconst 0, 1) := by decide +kernel
theorem dX0_become_31 : decode cX0_become 31 = .ok (.istore_n 2, 1) := by decide +kernel
theorem dX0_become_32 : decode cX0_become 32 = .ok (.iload_n 2, 1) := by decide +kernel
theorem dX0_become_33 : decode cX0_become 33 = .ok (.aload_n 0, 1) := by decide +kernel
theorem dX0_become_34 : decode cX0_become 34 = .ok (.getfield 31, 3) := by decide +kernel
theorem dX0_become_37 : decode cX0_become 37 = .ok (.arraylength, 1) := by decide +kernel
theorem dX0_become_38 : decode cX0_become 38 = .ok (.if_icmp .ge 30, 3) := by decide +kernel
theorem dX0_become_41 : decode cX0_become 41 = .ok (.iload_n 2, 1) := by decide +kernel
theorem dX0_become_42 : decode cX0_become 42 = .ok (.aload_n 1, 1) := by decide +kernel
theorem dX0_become_43 : decode cX0_become 43 = .ok (.getfield 31, 3) := by decide +kernel
theorem dX0_become_46 : decode cX0_become 46 = .ok (.arraylength, 1) := by decide +kernel
theorem dX0_become_47 : decode cX0_become 47 = .ok (.if_icmp .ge 21, 3) := by decide +kernel
theorem dX0_become_50 : decode cX0_become 50 = .ok (.aload_n 0, 1) := by decide +kernel
theorem dX0_become_51 : decode cX0_become 51 = .ok (.getfield 31, 3) := by decide +kernel
theorem dX0_become_54 : decode cX0_become 54 = .ok (.iload_n 2, 1) := by decide +kernel
theorem dX0_become_55 : decode cX0_become 55 = .ok (.aload_n 1, 1) := by decide +kernel
theorem dX0_become_56 : decode cX0_become 56 = .ok (.getfield 31, 3) := by decide +kernel
theorem dX0_become_59 : decode cX0_become 59 = .ok (.iload_n 2, 1) := by decide +kernel
theorem dX0_become_60 : decode cX0_become 60 = .ok (.baload, 1) := by decide +kernel
theorem dX0_become_61 : decode cX0_become 61 = .ok (.bastore, 1) := by decide +kernel
theorem dX0_become_62 : decode cX0_become 62 = .ok (.iinc 2 1, 3) := by decide +kernel
theorem dX0_become_65 : decode cX0_become 65 = .ok (.goto (-33), 3) := by decide +kernel
theorem dX0_become_68 : decode cX0_become 68 = .ok (.aload_n 0, 1) := by decide +kernel
theorem dX0_become_69 : decode cX0_become 69 = .ok (.aload_n 1, 1) := by decide +kernel
theorem dX0_become_70 : decode cX0_become 70 = .ok (.getfield 18, 3) := by decide +kernel
theorem dX0_become_73 : decode cX0_become 73 = .ok (.putfield 18, 3) := by decide +kernel
theorem dX0_become_76 : decode cX0_become 76 = .ok (.return_, 1) := by decide +kernel
theorem dX0_sameEnds_0 : decode cX0_sameEnds 0 = .ok (.aload_n 0, 1) := by decide +kernel
theorem dX0_sameEnds_1 : decode cX0_sameEnds 1 = .ok (.getfield 22, 3) := by decide +kernel
theorem dX0_sameEnds_4 : decode cX0_sameEnds 4 = .ok (.getfield 45, 3) := by decide +kernel
theorem dX0_sameEnds_7 : decode cX0_sameEnds 7 = .ok (.aload_n 0, 1) := by decide +kernel
theorem dX0_sameEnds_8 : decode cX0_sameEnds 8 = .ok (.getfield 22, 3) := by decide +kernel
theorem dX0_sameEnds_11 : decode cX0_sameEnds 11 = .ok (.getfield 48, 3) := by decide +kernel
theorem dX0_sameEnds_14 : decode cX0_sameEnds 14 = .ok (.iload_n 3, 1) := by decide +kernel
theorem dX0_sameEnds_15 : decode cX0_sameEnds 15 = .ok (.isub, 1) := by decide +kernel
theorem dX0_sameEnds_16 : decode cX0_sameEnds 16 = .ok (.invokestatic 51, 3) := by decide +kernel
theorem dX0_sameEnds_19 : decode cX0_sameEnds 19 = .ok (.istore 4, 2) := by decide +kernel
theorem dX0_sameEnds_21 : decode cX0_sameEnds 21 = .ok (.iload 4, 2) := by decide +kernel
theorem dX0_sameEnds_23 : decode cX0_sameEnds 23 = .ok (.ifCond .gt 5, 3) := by decide +kernel
theorem dX0_sameEnds_26 : decode cX0_sameEnds 26 = .ok (.iconst 0, 1) := by decide +kernel
theorem dX0_sameEnds_27 : decode cX0_sameEnds 27 = .ok (.ireturn, 1) := by decide +kernel
theorem dX0_sameEnds_28 : decode cX0_sameEnds 28 = .ok (.iload_n 1, 1) := by decide +kernel
theorem dX0_sameEnds_29 : decode cX0_sameEnds 29 = .ok (.iload_n 1, 1) := by decide +kernel
theorem dX0_sameEnds_30 : decode cX0_sameEnds 30 = .ok (.iload 4, 2) := by decide +kernel
theorem dX0_sameEnds_32 : decode cX0_sameEnds 32 = .ok (.irem, 1) := by decide +kernel
theorem dX0_sameEnds_33 : decode cX0_sameEnds 33 = .ok (.isub, 1) := by decide +kernel
theorem dX0_sameEnds_34 : decode cX0_sameEnds 34 = .ok (.istore 5, 2) := by decide +kernel
theorem dX0_sameEnds_36 : decode cX0_sameEnds 36 = .ok (.iload_n 2, 1) := by decide +kernel
theorem dX0_sameEnds_37 : decode cX0_sameEnds 37 = .ok (.iload_n 2, 1) := by decide +kernel
theorem dX0_sameEnds_38 : decode cX0_sameEnds 38 = .ok (.iload 4, 2) := by decide +kernel
theorem dX0_sameEnds_40 : decode cX0_sameEnds 40 = .ok (.irem, 1) := by decide +kernel
theorem dX0_sameEnds_41 : decode cX0_sameEnds 41 = .ok (.isub, 1) := by decide +kernel
theorem dX0_sameEnds_42 : decode cX0_sameEnds 42 = .ok (.istore 6, 2) := by decide +kernel
theorem dX0_sameEnds_44 : decode cX0_sameEnds 44 = .ok (.iload 5, 2) := by decide +kernel
theorem dX0_sameEnds_46 : decode cX0_sameEnds 46 = .ok (.iload 6, 2) := by decide +kernel
theorem dX0_sameEnds_48 : decode cX0_sameEnds 48 = .ok (.if_icmp .ne 5, 3) := by decide +kernel
theorem dX0_sameEnds_51 : decode cX0_sameEnds 51 = .ok (.iconst 1, 1) := by decide +kernel
theorem dX0_sameEnds_52 : decode cX0_sameEnds 52 = .ok (.ireturn, 1) := by decide +kernel
theorem dX0_sameEnds_53 : decode cX0_sameEnds 53 = .ok (.iconst 0, 1) := by decide +kernel
theorem dX0_sameEnds_54 : decode cX0_sameEnds 54 = .ok (.istore 7, 2) := by decide +kernel
theorem dX0_sameEnds_56 : decode cX0_sameEnds 56 = .ok (.iload 7, 2) := by decide +kernel
theorem dX0_sameEnds_58 : decode cX0_sameEnds 58 = .ok (.iload 4, 2) := by decide +kernel
theorem dX0_sameEnds_60 : decode cX0_sameEnds 60 = .ok (.if_icmp .ge 34, 3) := by decide +kernel
theorem dX0_sameEnds_63 : decode cX0_sameEnds 63 = .ok (.aload_n 0, 1) := by decide +kernel
theorem dX0_sameEnds_64 : decode cX0_sameEnds 64 = .ok (.getfield 31, 3) := by decide +kernel
theorem dX0_sameEnds_67 : decode cX0_sameEnds 67 = .ok (.iload 5, 2) := by decide +kernel
theorem dX0_sameEnds_69 : decode cX0_sameEnds 69 = .ok (.iload 7, 2) := by decide +kernel
theorem dX0_sameEnds_71 : decode cX0_sameEnds 71 = .ok (.iadd, 1) := by decide +kernel
theorem dX0_sameEnds_72 : decode cX0_sameEnds 72 = .ok (.baload, 1) := by decide +kernel
theorem dX0_sameEnds_73 : decode cX0_sameEnds 73 = .ok (.aload_n 0, 1) := by decide +kernel
theorem dX0_sameEnds_74 : decode cX0_sameEnds 74 = .ok (.getfield 31, 3) := by decide +kernel
theorem dX0_sameEnds_77 : decode cX0_sameEnds 77 = .ok (.iload 6, 2) := by decide +kernel
theorem dX0_sameEnds_79 : decode cX0_sameEnds 79 = .ok (.iload 7, 2) := by decide +kernel
theorem dX0_sameEnds_81 : decode cX0_sameEnds 81 = .ok (.iadd, 1) := by decide +kernel
theorem dX0_sameEnds_82 : decode cX0_sameEnds 82 = .ok (.baload, 1) := by decide +kernel
theorem dX0_sameEnds_83 : decode cX0_sameEnds 83 = .ok (.if_icmp .eq 5, 3) := by decide +kernel
theorem dX0_sameEnds_86 : decode cX0_sameEnds 86 = .ok (.iconst 0, 1) := by decide +kernel
theorem dX0_sameEnds_87 : decode cX0_sameEnds 87 = .ok (.ireturn, 1) := by decide +kernel
theorem dX0_sameEnds_88 : decode cX0_sameEnds 88 = .ok (.iinc 7 1, 3) := by decide +kernel
theorem dX0_sameEnds_91 : decode cX0_sameEnds 91 = .ok (.goto (-35), 3) := by decide +kernel
theorem dX0_sameEnds_94 : decode cX0_sameEnds 94 = .ok (.iconst 1, 1) := by decide +kernel
theorem dX0_sameEnds_95 : decode cX0_sameEnds 95 = .ok (.ireturn, 1) := by decide +kernel
theorem dX0_treeAt_0 : decode cX0_treeAt 0 = .ok (.iconst 0, 1) := by decide +kernel
theorem dX0_treeAt_1 : decode cX0_treeAt 1 = .ok (.istore_n 3, 1) := by decide +kernel
theorem dX0_treeAt_2 : decode cX0_treeAt 2 = .ok (.iconst 0, 1) := by decide +kernel
theorem dX0_treeAt_3 : decode cX0_treeAt 3 = .ok (.istore 4, 2) := by decide +kernel
theorem dX0_treeAt_5 : decode cX0_treeAt 5 = .ok (.iload 4, 2) := by decide +kernel
theorem dX0_treeAt_7 : decode cX0_treeAt 7 = .ok (.aload_n 0, 1) := by decide +kernel
theorem dX0_treeAt_8 : decode cX0_treeAt 8 = .ok (.getfield 18, 3) := by decide +kernel
theorem dX0_treeAt_11 : decode cX0_treeAt 11 = .ok (.if_icmp .ge 42, 3) := by decide +kernel
theorem dX0_treeAt_14 : decode cX0_treeAt 14 = .ok (.aload_n 0, 1) := by decide +kernel
theorem dX0_treeAt_15 : decode cX0_treeAt 15 = .ok (.iload 4, 2) := by decide +kernel
theorem dX0_treeAt_17 : decode cX0_treeAt 17 = .ok (.iload_n 1, 1) := by decide +kernel
theorem dX0_treeAt_18 : decode cX0_treeAt 18 = .ok (.invokevirtual 55, 3) := by decide +kernel
theorem dX0_treeAt_21 : decode cX0_treeAt 21 = .ok (.ifCond .eq 26, 3) := by decide +kernel
theorem dX0_treeAt_24 : decode cX0_treeAt 24 = .ok (.iload_n 3, 1) := by decide +kernel
theorem dX0_treeAt_25 : decode cX0_treeAt 25 = .ok (.iload_n 2, 1) := by decide +kernel
theorem dX0_treeAt_26 : decode cX0_treeAt 26 = .ok (.ifCond .eq 18, 3) := by decide +kernel
theorem dX0_treeAt_29 : decode cX0_treeAt 29 = .ok (.aload_n 0, 1) := by decide +kernel
theorem dX0_treeAt_30 : decode cX0_treeAt 30 = .ok (.aload_n 0, 1) := by decide +kernel
theorem dX0_treeAt_31 : decode cX0_treeAt 31 = .ok (.getfield 9, 3) := by decide +kernel
theorem dX0_treeAt_34 : decode cX0_treeAt 34 = .ok (.iload 4, 2) := by decide +kernel
theorem dX0_treeAt_36 : decode cX0_treeAt 36 = .ok (.iaload, 1) := by decide +kernel
theorem dX0_treeAt_37 : decode cX0_treeAt 37 = .ok (.iload_n 1, 1) := by decide +kernel
theorem dX0_treeAt_38 : decode cX0_treeAt 38 = .ok (.invokevirtual 59, 3) := by decide +kernel
theorem dX0_treeAt_41 : decode cX0_treeAt 41 = .ok (.goto 4, 3) := by decide +kernel
theorem dX0_treeAt_44 : decode cX0_treeAt 44 = .ok (.iconst 1, 1) := by decide +kernel
theorem dX0_treeAt_45 : decode cX0_treeAt 45 = .ok (.iadd, 1) := by decide +kernel
theorem dX0_treeAt_46 : decode cX0_treeAt 46 = .ok (.istore_n 3, 1) := by decide +kernel
theorem dX0_treeAt_47 : decode cX0_treeAt 47 = .ok (.iinc 4 1, 3) := by decide +kernel
theorem dX0_treeAt_50 : decode cX0_treeAt 50 = .ok (.goto (-45), 3) := by decide +kernel
theorem dX0_treeAt_53 : decode cX0_treeAt 53 = .ok (.iload_n 3, 1) := by decide +kernel
theorem dX0_treeAt_54 : decode cX0_treeAt 54 = .ok (.ireturn, 1) := by decide +kernel
theorem dX0_isFirstOfNode_0 : decode cX0_isFirstOfNode 0 = .ok (.iconst 0, 1) := by decide +kernel
theorem dX0_isFirstOfNode_1 : decode cX0_isFirstOfNode 1 = .ok (.istore_n 3, 1) := by decide +kernel
theorem dX0_isFirstOfNode_2 : decode cX0_isFirstOfNode 2 = .ok (.iload_n 3, 1) := by decide +kernel
theorem dX0_isFirstOfNode_3 : decode cX0_isFirstOfNode 3 = .ok (.iload_n 1, 1) := by decide +kernel
theorem dX0_isFirstOfNode_4 : decode cX0_isFirstOfNode 4 = .ok (.if_icmp .ge 31, 3) := by decide +kernel
theorem dX0_isFirstOfNode_7 : decode cX0_isFirstOfNode 7 = .ok (.aload_n 0, 1) := by decide +kernel
theorem dX0_isFirstOfNode_8 : decode cX0_isFirstOfNode 8 = .ok (.aload_n 0, 1) := by decide +kernel
theorem dX0_isFirstOfNode_9 : decode cX0_isFirstOfNode 9 = .ok (.getfield 9, 3) := by decide +kernel
theorem dX0_isFirstOfNode_12 : decode cX0_isFirstOfNode 12 = .ok (.iload_n 3, 1) := by decide +kernel
theorem dX0_isFirstOfNode_13 : decode cX0_isFirstOfNode 13 = .ok (.iaload, 1) := by decide +kernel
theorem dX0_isFirstOfNode_14 : decode cX0_isFirstOfNode 14 = .ok (.aload_n 0, 1) := by decide +kernel
theorem dX0_isFirstOfNode_15 : decode cX0_isFirstOfNode 15 = .ok (.getfield 9, 3) := by decide +kernel
theorem dX0_isFirstOfNode_18 : decode cX0_isFirstOfNode 18 = .ok (.iload_n 1, 1) := by decide +kernel
theorem dX0_isFirstOfNode_19 : decode cX0_isFirstOfNode 19 = .ok (.iaload, 1) := by decide +kernel
theorem dX0_isFirstOfNode_20 : decode cX0_isFirstOfNode 20 = .ok (.iload_n 2, 1) := by decide +kernel
theorem dX0_isFirstOfNode_21 : decode cX0_isFirstOfNode 21 = .ok (.invokevirtual 62, 3) := by decide +kernel
theorem dX0_isFirstOfNode_24 : decode cX0_isFirstOfNode 24 = .ok (.ifCond .eq 5, 3) := by decide +kernel
theorem dX0_isFirstOfNode_27 : decode cX0_isFirstOfNode 27 = .ok (.iconst 0, 1) := by decide +kernel
theorem dX0_isFirstOfNode_28 : decode cX0_isFirstOfNode 28 = .ok (.ireturn, 1) := by decide +kernel
theorem dX0_isFirstOfNode_29 : decode cX0_isFirstOfNode 29 = .ok (.iinc 3 1, 3) := by decide +kernel
theorem dX0_isFirstOfNode_32 : decode cX0_isFirstOfNode 32 = .ok (.goto (-30), 3) := by decide +kernel
theorem dX0_isFirstOfNode_35 : decode cX0_isFirstOfNode 35 = .ok (.iconst 1, 1) := by decide +kernel
theorem dX0_isFirstOfNode_36 : decode cX0_isFirstOfNode 36 = .ok (.ireturn, 1) := by decide +kernel
theorem dX0_arcsOf_0 : decode cX0_arcsOf 0 = .ok (.iload_n 2, 1) := by decide +kernel
theorem dX0_arcsOf_1 : decode cX0_arcsOf 1 = .ok (.aload_n 0, 1) := by decide +kernel
theorem dX0_arcsOf_2 : decode cX0_arcsOf 2 = .ok (.getfield 22, 3) := by decide +kernel
theorem dX0_arcsOf_5 : decode cX0_arcsOf 5 = .ok (.getfield 48, 3) := by decide +kernel
theorem dX0_arcsOf_8 : decode cX0_arcsOf 8 = .ok (.if_icmp .lt 5, 3) := by decide +kernel
theorem dX0_arcsOf_11 : decode cX0_arcsOf 11 = .ok (.iconst 0, 1) := by decide +kernel
theorem dX0_arcsOf_12 : decode cX0_arcsOf 12 = .ok (.ireturn, 1) := by decide +kernel
theorem dX0_arcsOf_13 : decode cX0_arcsOf 13 = .ok (.aload_n 0, 1) := by decide +kernel
theorem dX0_arcsOf_14 : decode cX0_arcsOf 14 = .ok (.getfield 22, 3) := by decide +kernel
theorem dX0_arcsOf_17 : decode cX0_arcsOf 17 = .ok (.getfield 45, 3) := by decide +kernel
theorem dX0_arcsOf_20 : decode cX0_arcsOf 20 = .ok (.aload_n 0, 1) := by decide +kernel
theorem dX0_arcsOf_21 : decode cX0_arcsOf 21 = .ok (.getfield 22, 3) := by decide +kernel
theorem dX0_arcsOf_24 : decode cX0_arcsOf 24 = .ok (.getfield 48, 3) := by decide +kernel
theorem dX0_arcsOf_27 : decode cX0_arcsOf 27 = .ok (.iload_n 2, 1) := by decide +kernel
theorem dX0_arcsOf_28 : decode cX0_arcsOf 28 = .ok (.isub, 1) := by decide +kernel
theorem dX0_arcsOf_29 : decode cX0_arcsOf 29 = .ok (.iconst 1, 1) := by decide +kernel
theorem dX0_arcsOf_30 : decode cX0_arcsOf 30 = .ok (.isub, 1) := by decide +kernel
theorem dX0_arcsOf_31 : decode cX0_arcsOf 31 = .ok (.invokestatic 51, 3) := by decide +kernel
theorem dX0_arcsOf_34 : decode cX0_arcsOf 34 = .ok (.istore_n 3, 1) := by decide +kernel
theorem dX0_arcsOf_35 : decode cX0_arcsOf 35 = .ok (.iload_n 3, 1) := by decide +kernel
theorem dX0_arcsOf_36 : decode cX0_arcsOf 36 = .ok (.aload_n 0, 1) := by decide +kernel
theorem dX0_arcsOf_37 : decode cX0_arcsOf 37 = .ok (.getfield 22, 3) := by decide +kernel
theorem dX0_arcsOf_40 : decode cX0_arcsOf 40 = .ok (.getfield 45, 3) := by decide +kernel
theorem dX0_arcsOf_43 : decode cX0_arcsOf 43 = .ok (.imul, 1) := by decide +kernel
theorem dX0_arcsOf_44 : decode cX0_arcsOf 44 = .ok (.istore 4, 2) := by decide +kernel
theorem dX0_arcsOf_46 : decode cX0_arcsOf 46 = .ok (.iload 4, 2) := by decide +kernel
theorem dX0_arcsOf_48 : decode cX0_arcsOf 48 = .ok (.ifCond .le 12, 3) := by decide +kernel
theorem dX0_arcsOf_51 : decode cX0_arcsOf 51 = .ok (.iload_n 1, 1) := by decide +kernel
theorem dX0_arcsOf_52 : decode cX0_arcsOf 52 = .ok (.iload_n 1, 1) := by decide +kernel
theorem dX0_arcsOf_53 : decode cX0_arcsOf 53 = .ok (.iload 4, 2) := by decide +kernel
theorem dX0_arcsOf_55 : decode cX0_arcsOf 55 = .ok (.irem, 1) := by decide +kernel
theorem dX0_arcsOf_56 : decode cX0_arcsOf 56 = .ok (.isub, 1) := by decide +kernel
theorem dX0_arcsOf_57 : decode cX0_arcsOf 57 = .ok (.goto 4, 3) := by decide +kernel
theorem dX0_arcsOf_60 : decode cX0_arcsOf 60 = .ok (.iconst 0, 1) := by decide +kernel
theorem dX0_arcsOf_61 : decode cX0_arcsOf 61 = .ok (.istore 5, 2) := by decide +kernel
theorem dX0_arcsOf_63 : decode cX0_arcsOf 63 = .ok (.iconst 0, 1) := by decide +kernel
theorem dX0_arcsOf_64 : decode cX0_arcsOf 64 = .ok (.istore 6, 2) := by decide +kernel
theorem dX0_arcsOf_66 : decode cX0_arcsOf 66 = .ok (.iconst 0, 1) := by decide +kernel
theorem dX0_arcsOf_67 : decode cX0_arcsOf 67 = .ok (.istore 7, 2) := by decide +kernel
theorem dX0_arcsOf_69 : decode cX0_arcsOf 69 = .ok (.iload 7, 2) := by decide +kernel
theorem dX0_arcsOf_71 : decode cX0_arcsOf 71 = .ok (.aload_n 0, 1) := by decide +kernel
theorem dX0_arcsOf_72 : decode cX0_arcsOf 72 = .ok (.getfield 22, 3) := by decide +kernel
theorem dX0_arcsOf_75 : decode cX0_arcsOf 75 = .ok (.getfield 45, 3) := by decide +kernel
theorem dX0_arcsOf_78 : decode cX0_arcsOf 78 = .ok (.if_icmp .ge 27, 3) := by decide +kernel
theorem dX0_arcsOf_81 : decode cX0_arcsOf 81 = .ok (.aload_n 0, 1) := by decide +kernel
theorem dX0_arcsOf_82 : decode cX0_arcsOf 82 = .ok (.iload 5, 2) := by decide +kernel
theorem dX0_arcsOf_84 : decode cX0_arcsOf 84 = .ok (.iload 7, 2) := by decide +kernel
theorem dX0_arcsOf_86 : decode cX0_arcsOf 86 = .ok (.iload_n 3, 1) := by decide +kernel
theorem dX0_arcsOf_87 : decode cX0_arcsOf 87 = .ok (.imul, 1) := by decide +kernel
theorem dX0_arcsOf_88 : decode cX0_arcsOf 88 = .ok (.iadd, 1) := by decide +kernel
theorem dX0_arcsOf_89 : decode cX0_arcsOf 89 = .ok (.iload_n 3, 1) := by decide +kernel
theorem dX0_arcsOf_90 : decode cX0_arcsOf 90 = .ok (.invokevirtual 66, 3) := by decide +kernel
theorem dX0_arcsOf_93 : decode cX0_arcsOf 93 = .ok (.ifCond .eq 6, 3) := by decide +kernel
theorem dX0_arcsOf_96 : decode cX0_arcsOf 96 = .ok (.iinc 6 1, 3) := by decide +kernel
theorem dX0_arcsOf_99 : decode cX0_arcsOf 99 = .ok (.iinc 7 1, 3) := by decide +kernel
theorem dX0_arcsOf_102 : decode cX0_arcsOf 102 = .ok (.goto (-33), 3) := by decide +kernel
theorem dX0_arcsOf_105 : decode cX0_arcsOf 105 = .ok (.iload 6, 2) := by decide +kernel
theorem dX0_arcsOf_107 : decode cX0_arcsOf 107 = .ok (.ireturn, 1) := by decide +kernel
theorem dX0_holdsAny_0 : decode cX0_holdsAny 0 = .ok (.iload_n 1, 1) := by decide +kernel
theorem dX0_holdsAny_1 : decode cX0_holdsAny 1 = .ok (.istore_n 3, 1) := by decide +kernel
theorem dX0_holdsAny_2 : decode cX0_holdsAny 2 = .ok (.iload_n 3, 1) := by decide +kernel
theorem dX0_holdsAny_3 : decode cX0_holdsAny 3 = .ok (.iload_n 1, 1) := by decide +kernel
theorem dX0_holdsAny_4 : decode cX0_holdsAny 4 = .ok (.iload_n 2, 1) := by decide +kernel
theorem dX0_holdsAny_5 : decode cX0_holdsAny 5 = .ok (.iadd, 1) := by decide +kernel
theorem dX0_holdsAny_6 : decode cX0_holdsAny 6 = .ok (.if_icmp .ge 29, 3) := by decide +kernel
theorem dX0_holdsAny_9 : decode cX0_holdsAny 9 = .ok (.iload_n 3, 1) := by decide +kernel
theorem dX0_holdsAny_10 : decode cX0_holdsAny 10 = .ok (.aload_n 0, 1) := by decide +kernel
theorem dX0_holdsAny_11 : decode cX0_holdsAny 11 = .ok (.getfield 31, 3) := by decide +kernel
theorem dX0_holdsAny_14 : decode cX0_holdsAny 14 = .ok (.arraylength, 1) := by decide +kernel
theorem dX0_holdsAny_15 : decode cX0_holdsAny 15 = .ok (.if_icmp .ge 20, 3) := by decide +kernel
theorem dX0_holdsAny_18 : decode cX0_holdsAny 18 = .ok (.aload_n 0, 1) := by decide +kernel
theorem dX0_holdsAny_19 : decode cX0_holdsAny 19 = .ok (.getfield 31, 3) := by decide +kernel
theorem dX0_holdsAny_22 : decode cX0_holdsAny 22 = .ok (.iload_n 3, 1) := by decide +kernel
theorem dX0_holdsAny_23 : decode cX0_holdsAny 23 = .ok (.baload, 1) := by decide +kernel
theorem dX0_holdsAny_24 : decode cX0_holdsAny 24 = .ok (.ifCond .eq 5, 3) := by decide +kernel
theorem dX0_holdsAny_27 : decode cX0_holdsAny 27 = .ok (.iconst 1, 1) := by decide +kernel
theorem dX0_holdsAny_28 : decode cX0_holdsAny 28 = .ok (.ireturn, 1) := by decide +kernel
theorem dX0_holdsAny_29 : decode cX0_holdsAny 29 = .ok (.iinc 3 1, 3) := by decide +kernel
theorem dX0_holdsAny_32 : decode cX0_holdsAny 32 = .ok (.goto (-30), 3) := by decide +kernel
theorem dX0_holdsAny_35 : decode cX0_holdsAny 35 = .ok (.iconst 0, 1) := by decide +kernel
theorem dX0_holdsAny_36 : decode cX0_holdsAny 36 = .ok (.ireturn, 1) := by decide +kernel
theorem dX1_init_0 : decode cX1_init 0 = .ok (.aload_n 0, 1) := by decide +kernel
theorem dX1_init_1 : decode cX1_init 1 = .ok (.invokespecial 3, 3) := by decide +kernel
theorem dX1_init_4 : decode cX1_init 4 = .ok (.aload_n 0, 1) := by decide +kernel
theorem dX1_init_5 : decode cX1_init 5 = .ok (.aload_n 1, 1) := by decide +kernel
theorem dX1_init_6 : decode cX1_init 6 = .ok (.putfield 9, 3) := by decide +kernel
theorem dX1_init_9 : decode cX1_init 9 = .ok (.aload_n 0, 1) := by decide +kernel
theorem dX1_init_10 : decode cX1_init 10 = .ok (.aload_n 2, 1) := by decide +kernel
theorem dX1_init_11 : decode cX1_init 11 = .ok (.putfield 15, 3) := by decide +kernel
theorem dX1_init_14 : decode cX1_init 14 = .ok (.aload_n 0, 1) := by decide +kernel
theorem dX1_init_15 : decode cX1_init 15 = .ok (.aload_n 1, 1) := by decide +kernel
theorem dX1_init_16 : decode cX1_init 16 = .ok (.getfield 19, 3) := by decide +kernel
theorem dX1_init_19 : decode cX1_init 19 = .ok (.iconst 1, 1) := by decide +kernel
theorem dX1_init_20 : decode cX1_init 20 = .ok (.iadd, 1) := by decide +kernel
theorem dX1_init_21 : decode cX1_init 21 = .ok (.putfield 25, 3) := by decide +kernel
theorem dX1_init_24 : decode cX1_init 24 = .ok (.aload_n 0, 1) := by decide +kernel
theorem dX1_init_25 : decode cX1_init 25 = .ok (.aload_n 1, 1) := by decide +kernel
theorem dX1_init_26 : decode cX1_init 26 = .ok (.getfield 28, 3) := by decide +kernel
theorem dX1_init_29 : decode cX1_init 29 = .ok (.aload_n 0, 1) := by decide +kernel
theorem dX1_init_30 : decode cX1_init 30 = .ok (.getfield 25, 3) := by decide +kernel
theorem dX1_init_33 : decode cX1_init 33 = .ok (.imul, 1) := by decide +kernel
theorem dX1_init_34 : decode cX1_init 34 = .ok (.newarray .int, 2) := by decide +kernel
theorem dX1_init_36 : decode cX1_init 36 = .ok (.putfield 31, 3) := by decide +kernel
theorem dX1_init_39 : decode cX1_init 39 = .ok (.aload_n 0, 1) := by decide +kernel
theorem dX1_init_40 : decode cX1_init 40 = .ok (.aload_n 1, 1) := by decide +kernel
theorem dX1_init_41 : decode cX1_init 41 = .ok (.getfield 28, 3) := by decide +kernel
theorem dX1_init_44 : decode cX1_init 44 = .ok (.aload_n 0, 1) := by decide +kernel
theorem dX1_init_45 : decode cX1_init 45 = .ok (.getfield 25, 3) := by decide +kernel
theorem dX1_init_48 : decode cX1_init 48 = .ok (.imul, 1) := by decide +kernel
theorem dX1_init_49 : decode cX1_init 49 = .ok (.newarray .int, 2) := by decide +kernel
theorem dX1_init_51 : decode cX1_init 51 = .ok (.putfield 35, 3) := by decide +kernel
theorem dX1_init_54 : decode cX1_init 54 = .ok (.return_, 1) := by decide +kernel
theorem dX1_least_0 : decode cX1_least 0 = .ok (.aload_n 0, 1) := by decide +kernel
theorem dX1_least_1 : decode cX1_least 1 = .ok (.getfield 31, 3) := by decide +kernel
theorem dX1_least_4 : decode cX1_least 4 = .ok (.ldc 38, 2) := by decide +kernel
theorem dX1_least_6 : decode cX1_least 6 = .ok (.invokestatic 39, 3) := by decide +kernel
theorem dX1_least_9 : decode cX1_least 9 = .ok (.iconst 0, 1) := by decide +kernel
theorem dX1_least_10 : decode cX1_least 10 = .ok (.istore_n 3, 1) := by decide +kernel
theorem dX1_least_11 : decode cX1_least 11 = .ok (.iload_n 3, 1) := by decide +kernel
theorem dX1_least_12 : decode cX1_least 12 = .ok (.aload_n 0, 1) := by decide +kernel
theorem dX1_least_13 : decode cX1_least 13 = .ok (.getfield 9, 3) := by decide +kernel
theorem dX1_least_16 : decode cX1_least 16 = .ok (.getfield 28, 3) := by decide +kernel
theorem dX1_least_19 : decode cX1_least 19 = .ok (.if_icmp .ge 21, 3) := by decide +kernel
theorem dX1_least_22 : decode cX1_least 22 = .ok (.aload_n 0, 1) := by decide +kernel
theorem dX1_least_23 : decode cX1_least 23 = .ok (.getfield 31, 3) := by decide +kernel
theorem dX1_least_26 : decode cX1_least 26 = .ok (.iload_n 3, 1) := by decide +kernel
theorem dX1_least_27 : decode cX1_least 27 = .ok (.aload_n 0, 1) := by decide +kernel
theorem dX1_least_28 : decode cX1_least 28 = .ok (.getfield 25, 3) := by decide +kernel
theorem dX1_least_31 : decode cX1_least 31 = .ok (.imul, 1) := by decide +kernel
theorem dX1_least_32 : decode cX1_least 32 = .ok (.iconst 0, 1) := by decide +kernel
theorem dX1_least_33 : decode cX1_least 33 = .ok (.iastore, 1) := by decide +kernel
theorem dX1_least_34 : decode cX1_least 34 = .ok (.iinc 3 1, 3) := by decide +kernel
theorem dX1_least_37 : decode cX1_least 37 = .ok (.goto (-26), 3) := by decide +kernel
theorem dX1_least_40 : decode cX1_least 40 = .ok (.aload_n 0, 1) := by decide +kernel
theorem dX1_least_41 : decode cX1_least 41 = .ok (.aload_n 1, 1) := by decide +kernel
theorem dX1_least_42 : decode cX1_least 42 = .ok (.iconst 0, 1) := by decide +kernel
theorem dX1_least_43 : decode cX1_least 43 = .ok (.iload_n 2, 1) := by decide +kernel
theorem dX1_least_44 : decode cX1_least 44 = .ok (.invokevirtual 45, 3) := by decide +kernel
theorem dX1_least_47 : decode cX1_least 47 = .ok (.invokevirtual 51, 3) := by decide +kernel
theorem dX1_least_50 : decode cX1_least 50 = .ok (.iconst 0, 1) := by decide +kernel
theorem dX1_least_51 : decode cX1_least 51 = .ok (.istore_n 3, 1) := by decide +kernel
theorem dX1_least_52 : decode cX1_least 52 = .ok (.iload_n 3, 1) := by decide +kernel
theorem dX1_least_53 : decode cX1_least 53 = .ok (.aload_n 1, 1) := by decide +kernel
theorem dX1_least_54 : decode cX1_least 54 = .ok (.getfield 55, 3) := by decide +kernel
theorem dX1_least_57 : decode cX1_least 57 = .ok (.if_icmp .ge 32, 3) := by decide +kernel
theorem dX1_least_60 : decode cX1_least 60 = .ok (.iload_n 3, 1) := by decide +kernel
theorem dX1_least_61 : decode cX1_least 61 = .ok (.bipush 8, 2) := by decide +kernel
theorem dX1_least_63 : decode cX1_least 63 = .ok (.if_icmp .ge 26, 3) := by decide +kernel
theorem dX1_least_66 : decode cX1_least 66 = .ok (.aload_n 0, 1) := by decide +kernel
theorem dX1_least_67 : decode cX1_least 67 = .ok (.iload_n 3, 1) := by decide +kernel
theorem dX1_least_68 : decode cX1_least 68 = .ok (.invokevirtual 58, 3) := by decide +kernel
theorem dX1_least_71 : decode cX1_least 71 = .ok (.aload_n 0, 1) := by decide +kernel
theorem dX1_least_72 : decode cX1_least 72 = .ok (.aload_n 1, 1) := by decide +kernel
theorem dX1_least_73 : decode cX1_least 73 = .ok (.iload_n 3, 1) := by decide +kernel
theorem dX1_least_74 : decode cX1_least 74 = .ok (.iconst 1, 1) := by decide +kernel
theorem dX1_least_75 : decode cX1_least 75 = .ok (.iadd, 1) := by decide +kernel
theorem dX1_least_76 : decode cX1_least 76 = .ok (.iload_n 2, 1) := by decide +kernel
theorem dX1_least_77 : decode cX1_least 77 = .ok (.invokevirtual 45, 3) := by decide +kernel
theorem dX1_least_80 : decode cX1_least 80 = .ok (.invokevirtual 51, 3) := by decide +kernel
theorem dX1_least_83 : decode cX1_least 83 = .ok (.iinc 3 1, 3) := by decide +kernel
theorem dX1_least_86 : decode cX1_least 86 = .ok (.goto (-34), 3) := by decide +kernel
theorem dX1_least_89 : decode cX1_least 89 = .ok (.aload_n 0, 1) := by decide +kernel
theorem dX1_least_90 : decode cX1_least 90 = .ok (.invokevirtual 61, 3) := by decide +kernel
theorem dX1_least_93 : decode cX1_least 93 = .ok (.ireturn, 1) := by decide +kernel
theorem dX1_leastCost_0 : decode cX1_leastCost 0 = .ok (.ldc 38, 2) := by decide +kernel
theorem dX1_leastCost_2 : decode cX1_leastCost 2 = .ok (.istore_n 1, 1) := by decide +kernel
theorem dX1_leastCost_3 : decode cX1_leastCost 3 = .ok (.iconst 0, 1) := by decide +kernel
theorem dX1_leastCost_4 : decode cX1_leastCost 4 = .ok (.istore_n 2, 1) := by decide +kernel
theorem dX1_leastCost_5 : decode cX1_leastCost 5 = .ok (.iload_n 2, 1) := by decide +kernel
theorem dX1_leastCost_6 : decode cX1_leastCost 6 = .ok (.aload_n 0, 1) := by decide +kernel
theorem dX1_leastCost_7 : decode cX1_leastCost 7 = .ok (.getfield 31, 3) := by decide +kernel
theorem dX1_leastCost_10 : decode cX1_leastCost 10 = .ok (.arraylength, 1) := by decide +kernel
theorem dX1_leastCost_11 : decode cX1_leastCost 11 = .ok (.if_icmp .ge 20, 3) := by decide +kernel
theorem dX1_leastCost_14 : decode cX1_leastCost 14 = .ok (.iload_n 1, 1) := by decide +kernel
theorem dX1_leastCost_15 : decode cX1_leastCost 15 = .ok (.aload_n 0, 1) := by decide +kernel
theorem dX1_leastCost_16 : decode cX1_leastCost 16 = .ok (.getfield 31, 3) := by decide +kernel
theorem dX1_leastCost_19 : decode cX1_leastCost 19 = .ok (.iload_n 2, 1) := by decide +kernel
theorem dX1_leastCost_20 : decode cX1_leastCost 20 = .ok (.iaload, 1) := by decide +kernel
theorem dX1_leastCost_21 : decode cX1_leastCost 21 = .ok (.invokestatic 65, 3) := by decide +kernel
theorem dX1_leastCost_24 : decode cX1_leastCost 24 = .ok (.istore_n 1, 1) := by decide +kernel
theorem dX1_leastCost_25 : decode cX1_leastCost 25 = .ok (.iinc 2 1, 3) := by decide +kernel
theorem dX1_leastCost_28 : decode cX1_leastCost 28 = .ok (.goto (-23), 3) := by decide +kernel
theorem dX1_leastCost_31 : decode cX1_leastCost 31 = .ok (.iload_n 1, 1) := by decide +kernel
theorem dX1_leastCost_32 : decode cX1_leastCost 32 = .ok (.ireturn, 1) := by decide +kernel
theorem dX1_keepOnly_0 : decode cX1_keepOnly 0 = .ok (.iload_n 1, 1) := by decide +kernel
theorem dX1_keepOnly_1 : decode cX1_keepOnly 1 = .ok (.iconst (-1), 1) := by decide +kernel
theorem dX1_keepOnly_2 : decode cX1_keepOnly 2 = .ok (.if_icmp .ne 4, 3) := by decide +kernel
theorem dX1_keepOnly_5 : decode cX1_keepOnly 5 = .ok (.return_, 1) := by decide +kernel
theorem dX1_keepOnly_6 : decode cX1_keepOnly 6 = .ok (.iload_n 1, 1) := by decide +kernel
theorem dX1_keepOnly_7 : decode cX1_keepOnly 7 = .ok (.aload_n 0, 1) := by decide +kernel
theorem dX1_keepOnly_8 : decode cX1_keepOnly 8 = .ok (.getfield 25, 3) := by decide +kernel
theorem dX1_keepOnly_11 : decode cX1_keepOnly 11 = .ok (.imul, 1) := by decide +kernel
theorem dX1_keepOnly_12 : decode cX1_keepOnly 12 = .ok (.istore_n 2, 1) := by decide +kernel
theorem dX1_keepOnly_13 : decode cX1_keepOnly 13 = .ok (.iconst 0, 1) := by decide +kernel
theorem dX1_keepOnly_14 : decode cX1_keepOnly 14 = .ok (.istore_n 3, 1) := by decide +kernel
theorem dX1_keepOnly_15 : decode cX1_keepOnly 15 = .ok (.iload_n 3, 1) := by decide +kernel
theorem dX1_keepOnly_16 : decode cX1_keepOnly 16 = .ok (.aload_n 0, 1) := by decide +kernel
theorem dX1_keepOnly_17 : decode cX1_keepOnly 17 = .ok (.getfield 31, 3) := by decide +kernel
theorem dX1_keepOnly_20 : decode cX1_keepOnly 20 = .ok (.arraylength, 1) := by decide +kernel
theorem dX1_keepOnly_21 : decode cX1_keepOnly 21 = .ok (.if_icmp .ge 32, 3) := by decide +kernel
theorem dX1_keepOnly_24 : decode cX1_keepOnly 24 = .ok (.iload_n 3, 1) := by decide +kernel
theorem dX1_keepOnly_25 : decode cX1_keepOnly 25 = .ok (.iload_n 2, 1) := by decide +kernel
theorem dX1_keepOnly_26 : decode cX1_keepOnly 26 = .ok (.if_icmp .lt 13, 3) := by decide +kernel
theorem dX1_keepOnly_29 : decode cX1_keepOnly 29 = .ok (.iload_n 3, 1) := by decide +kernel
theorem dX1_keepOnly_30 : decode cX1_keepOnly 30 = .ok (.iload_n 2, 1) := by decide +kernel
theorem dX1_keepOnly_31 : decode cX1_keepOnly 31 = .ok (.aload_n 0, 1) := by decide +kernel
theorem dX1_keepOnly_32 : decode cX1_keepOnly 32 = .ok (.getfield 25, 3) := by decide +kernel
theorem dX1_keepOnly_35 : decode cX1_keepOnly 35 = .ok (.iadd, 1) := by decide +kernel
theorem dX1_keepOnly_36 : decode cX1_keepOnly 36 = .ok (.if_icmp .lt 11, 3) := by decide +kernel
theorem dX1_keepOnly_39 : decode cX1_keepOnly 39 = .ok (.aload_n 0, 1) := by decide +kernel
theorem dX1_keepOnly_40 : decode cX1_keepOnly 40 = .ok (.getfield 31, 3) := by decide +kernel
theorem dX1_keepOnly_43 : decode cX1_keepOnly 43 = .ok (.iload_n 3, 1) := by decide +kernel
theorem dX1_keepOnly_44 : decode cX1_keepOnly 44 = .ok (.ldc 38, 2) := by decide +kernel
theorem dX1_keepOnly_46 : decode cX1_keepOnly 46 = .ok (.iastore, 1) := by decide +kernel
theorem dX1_keepOnly_47 : decode cX1_keepOnly 47 = .ok (.iinc 3 1, 3) := by decide +kernel
theorem dX1_keepOnly_50 : decode cX1_keepOnly 50 = .ok (.goto (-35), 3) := by decide +kernel
theorem dX1_keepOnly_53 : decode cX1_keepOnly 53 = .ok (.return_, 1) := by decide +kernel
theorem dX1_passHand_0 : decode cX1_passHand 0 = .ok (.aload_n 0, 1) := by decide +kernel
theorem dX1_passHand_1 : decode cX1_passHand 1 = .ok (.invokevirtual 61, 3) := by decide +kernel
theorem dX1_passHand_4 : decode cX1_passHand 4 = .ok (.sipush 256, 3) := by decide +kernel
theorem dX1_passHand_7 : decode cX1_passHand 7 = .ok (.iadd, 1) := by decide +kernel
theorem dX1_passHand_8 : decode cX1_passHand 8 = .ok (.iconst 1, 1) := by decide +kernel
theorem dX1_passHand_9 : decode cX1_passHand 9 = .ok (.iload_n 1, 1) := by decide +kernel
theorem dX1_passHand_10 : decode cX1_passHand 10 = .ok (.ishl, 1) := by decide +kernel
theorem dX1_passHand_11 : decode cX1_passHand 11 = .ok (.iadd, 1) := by decide +kernel
theorem dX1_passHand_12 : decode cX1_passHand 12 = .ok (.istore_n 2, 1) := by decide +kernel
theorem dX1_passHand_13 : decode cX1_passHand 13 = .ok (.aload_n 0, 1) := by decide +kernel
theorem dX1_passHand_14 : decode cX1_passHand 14 = .ok (.getfield 31, 3) := by decide +kernel
theorem dX1_passHand_17 : decode cX1_passHand 17 = .ok (.astore_n 3, 1) := by decide +kernel
theorem dX1_passHand_18 : decode cX1_passHand 18 = .ok (.aload_n 0, 1) := by decide +kernel
theorem dX1_passHand_19 : decode cX1_passHand 19 = .ok (.aload_n 0, 1) := by decide +kernel
theorem dX1_passHand_20 : decode cX1_passHand 20 = .ok (.getfield 35, 3) := by decide +kernel
theorem dX1_passHand_23 : decode cX1_passHand 23 = .ok (.putfield 31, 3) := by decide +kernel
theorem dX1_passHand_26 : decode cX1_passHand 26 = .ok (.aload_n 0, 1) := by decide +kernel
theorem dX1_passHand_27 : decode cX1_passHand 27 = .ok (.aload_n 3, 1) := by decide +kernel
theorem dX1_passHand_28 : decode cX1_passHand 28 = .ok (.putfield 35, 3) := by decide +kernel
theorem dX1_passHand_31 : decode cX1_passHand 31 = .ok (.aload_n 0, 1) := by decide +kernel
theorem dX1_passHand_32 : decode cX1_passHand 32 = .ok (.getfield 31, 3) := by decide +kernel
theorem dX1_passHand_35 : decode cX1_passHand 35 = .ok (.ldc 38, 2) := by decide +kernel
theorem dX1_passHand_37 : decode cX1_passHand 37 = .ok (.invokestatic 39, 3) := by decide +kernel
theorem dX1_passHand_40 : decode cX1_passHand 40 = .ok (.iconst 0, 1) := by decide +kernel
theorem dX1_passHand_41 : decode cX1_passHand 41 = .ok (.istore 4, 2) := by decide +kernel
theorem dX1_passHand_43 : decode cX1_passHand 43 = .ok (.iload 4, 2) := by decide +kernel
theorem dX1_passHand_45 : decode cX1_passHand 45 = .ok (.aload_n 0, 1) := by decide +kernel
theorem dX1_passHand_46 : decode cX1_passHand 46 = .ok (.getfield 9, 3) := by decide +kernel
theorem dX1_passHand_49 : decode cX1_passHand 49 = .ok (.getfield 28, 3) := by decide +kernel
theorem dX1_passHand_52 : decode cX1_passHand 52 = .ok (.if_icmp .ge 22, 3) := by decide +kernel
theorem dX1_passHand_55 : decode cX1_passHand 55 = .ok (.aload_n 0, 1) := by decide +kernel
theorem dX1_passHand_56 : decode cX1_passHand 56 = .ok (.getfield 31, 3) := by decide +kernel
theorem dX1_passHand_59 : decode cX1_passHand 59 = .ok (.iload 4, 2) := by decide +kernel
theorem dX1_passHand_61 : decode cX1_passHand 61 = .ok (.aload_n 0, 1) := by decide +kernel
theorem dX1_passHand_62 : decode cX1_passHand 62 = .ok (.getfield 25, 3) := by decide +kernel
theorem dX1_passHand_65 : decode cX1_passHand 65 = .ok (.imul, 1) := by decide +kernel
theorem dX1_passHand_66 : decode cX1_passHand 66 = .ok (.iload_n 2, 1) := by decide +kernel
theorem dX1_passHand_67 : decode cX1_passHand 67 = .ok (.iastore, 1) := by decide +kernel
theorem dX1_passHand_68 : decode cX1_passHand 68 = .ok (.iinc 4 1, 3) := by decide +kernel
theorem dX1_passHand_71 : decode cX1_passHand 71 = .ok (.goto (-28), 3) := by decide +kernel
theorem dX1_passHand_74 : decode cX1_passHand 74 = .ok (.iconst 0, 1) := by decide +kernel
theorem dX1_passHand_75 : decode cX1_passHand 75 = .ok (.istore 4, 2) := by decide +kernel
theorem dX1_passHand_77 : decode cX1_passHand 77 = .ok (.iload 4, 2) := by decide +kernel
theorem dX1_passHand_79 : decode cX1_passHand 79 = .ok (.aload_n 0, 1) := by decide +kernel
theorem dX1_passHand_80 : decode cX1_passHand 80 = .ok (.getfield 9, 3) := by decide +kernel
theorem dX1_passHand_83 : decode cX1_passHand 83 = .ok (.getfield 28, 3) := by decide +kernel
theorem dX1_passHand_86 : decode cX1_passHand 86 = .ok (.if_icmp .ge 16, 3) := by decide +kernel
theorem dX1_passHand_89 : decode cX1_passHand 89 = .ok (.aload_n 0, 1) := by decide +kernel
theorem dX1_passHand_90 : decode cX1_passHand 90 = .ok (.iload_n 1, 1) := by decide +kernel
theorem dX1_passHand_91 : decode cX1_passHand 91 = .ok (.iload 4, 2) := by decide +kernel
theorem dX1_passHand_93 : decode cX1_passHand 93 = .ok (.invokevirtual 70, 3) := by decide +kernel
theorem dX1_passHand_96 : decode cX1_passHand 96 = .ok (.iinc 4 1, 3) := by decide +kernel
theorem dX1_passHand_99 : decode cX1_passHand 99 = .ok (.goto (-22), 3) := by decide +kernel
theorem dX1_passHand_102 : decode cX1_passHand 102 = .ok (.return_, 1) := by decide +kernel
theorem dX1_passWord_0 : decode cX1_passWord 0 = .ok (.aload_n 0, 1) := by decide +kernel
theorem dX1_passWord_1 : decode cX1_passWord 1 = .ok (.iload_n 2, 1) := by decide +kernel
theorem dX1_passWord_2 : decode cX1_passWord 2 = .ok (.invokevirtual 74, 3) := by decide +kernel
theorem dX1_passWord_5 : decode cX1_passWord 5 = .ok (.istore_n 3, 1) := by decide +kernel
theorem dX1_passWord_6 : decode cX1_passWord 6 = .ok (.aload_n 0, 1) := by decide +kernel
theorem dX1_passWord_7 : decode cX1_passWord 7 = .ok (.getfield 35, 3) := by decide +kernel
theorem dX1_passWord_10 : decode cX1_passWord 10 = .ok (.iload_n 2, 1) := by decide +kernel
theorem dX1_passWord_11 : decode cX1_passWord 11 = .ok (.aload_n 0, 1) := by decide +kernel
theorem dX1_passWord_12 : decode cX1_passWord 12 = .ok (.getfield 25, 3) := by decide +kernel
theorem dX1_passWord_15 : decode cX1_passWord 15 = .ok (.imul, 1) := by decide +kernel
theorem dX1_passWord_16 : decode cX1_passWord 16 = .ok (.iload_n 3, 1) := by decide +kernel
theorem dX1_passWord_17 : decode cX1_passWord 17 = .ok (.iadd, 1) := by decide +kernel
theorem dX1_passWord_18 : decode cX1_passWord 18 = .ok (.iaload, 1) := by decide +kernel
theorem dX1_passWord_19 : decode cX1_passWord 19 = .ok (.istore 4, 2) := by decide +kernel
theorem dX1_passWord_21 : decode cX1_passWord 21 = .ok (.iload 4, 2) := by decide +kernel
theorem dX1_passWord_23 : decode cX1_passWord 23 = .ok (.ldc 38, 2) := by decide +kernel
theorem dX1_passWord_25 : decode cX1_passWord 25 = .ok (.if_icmp .lt 4, 3) := by decide +kernel
theorem dX1_passWord_28 : decode cX1_passWord 28 = .ok (.return_, 1) := by decide +kernel
theorem dX1_passWord_29 : decode cX1_passWord 29 = .ok (.iconst 0, 1) := by decide +kernel
theorem dX1_passWord_30 : decode cX1_passWord 30 = .ok (.istore 5, 2) := by decide +kernel
theorem dX1_passWord_32 : decode cX1_passWord 32 = .ok (.iload 5, 2) := by decide +kernel
theorem dX1_passWord_34 : decode cX1_passWord 34 = .ok (.aload_n 0, 1) := by decide +kernel
theorem dX1_passWord_35 : decode cX1_passWord 35 = .ok (.getfield 9, 3) := by decide +kernel
theorem dX1_passWord_38 : decode cX1_passWord 38 = .ok (.getfield 19, 3) := by decide +kernel
theorem dX1_passWord_41 : decode cX1_passWord 41 = .ok (.if_icmp .ge 162, 3) := by decide +kernel
theorem dX1_passWord_44 : decode cX1_passWord 44 = .ok (.aload_n 0, 1) := by decide +kernel
theorem dX1_passWord_45 : decode cX1_passWord 45 = .ok (.getfield 9, 3) := by decide +kernel
theorem dX1_passWord_48 : decode cX1_passWord 48 = .ok (.iload_n 2, 1) := by decide +kernel
theorem dX1_passWord_49 : decode cX1_passWord 49 = .ok (.iload 5, 2) := by decide +kernel
theorem dX1_passWord_51 : decode cX1_passWord 51 = .ok (.invokevirtual 78, 3) := by decide +kernel
theorem dX1_passWord_54 : decode cX1_passWord 54 = .ok (.istore 6, 2) := by decide +kernel
theorem dX1_passWord_56 : decode cX1_passWord 56 = .ok (.aload_n 0, 1) := by decide +kernel
theorem dX1_passWord_57 : decode cX1_passWord 57 = .ok (.getfield 15, 3) := by decide +kernel
theorem dX1_passWord_60 : decode cX1_passWord 60 = .ok (.iload_n 1, 1) := by decide +kernel
theorem dX1_passWord_61 : decode cX1_passWord 61 = .ok (.iload 5, 2) := by decide +kernel
theorem dX1_passWord_63 : decode cX1_passWord 63 = .ok (.iload 6, 2) := by decide +kernel
theorem dX1_passWord_65 : decode cX1_passWord 65 = .ok (.invokevirtual 81, 3) := by decide +kernel
theorem dX1_passWord_68 : decode cX1_passWord 68 = .ok (.istore 7, 2) := by decide +kernel
theorem dX1_passWord_70 : decode cX1_passWord 70 = .ok (.aload_n 0, 1) := by decide +kernel
theorem dX1_passWord_71 : decode cX1_passWord 71 = .ok (.getfield 9, 3) := by decide +kernel
theorem dX1_passWord_74 : decode cX1_passWord 74 = .ok (.iload_n 2, 1) := by decide +kernel
theorem dX1_passWord_75 : decode cX1_passWord 75 = .ok (.iload 5, 2) := by decide +kernel
theorem dX1_passWord_77 : decode cX1_passWord 77 = .ok (.invokevirtual 87, 3) := by decide +kernel
theorem dX1_passWord_80 : decode cX1_passWord 80 = .ok (.aload_n 0, 1) := by decide +kernel
theorem dX1_passWord_81 : decode cX1_passWord 81 = .ok (.getfield 25, 3) := by decide +kernel
theorem dX1_passWord_84 : decode cX1_passWord 84 = .ok (.imul, 1) := by decide +kernel
theorem dX1_passWord_85 : decode cX1_passWord 85 = .ok (.iload 5, 2) := by decide +kernel
theorem dX1_passWord_87 : decode cX1_passWord 87 = .ok (.iadd, 1) := by decide +kernel
theorem dX1_passWord_88 : decode cX1_passWord 88 = .ok (.iconst 1, 1) := by decide +kernel
theorem dX1_passWord_89 : decode cX1_passWord 89 = .ok (.iadd, 1) := by decide +kernel
theorem dX1_passWord_90 : decode cX1_passWord 90 = .ok (.istore 8, 2) := by decide +kernel
theorem dX1_passWord_92 : decode cX1_passWord 92 = .ok (.iconst 0, 1) := by decide +kernel
theorem dX1_passWord_93 : decode cX1_passWord 93 = .ok (.istore 9, 2) := by decide +kernel
theorem dX1_passWord_95 : decode cX1_passWord 95 = .ok (.iload 9, 2) := by decide +kernel
theorem dX1_passWord_97 : decode cX1_passWord 97 = .ok (.aload_n 0, 1) := by decide +kernel
theorem dX1_passWord_98 : decode cX1_passWord 98 = .ok (.getfield 9, 3) := by decide +kernel
theorem dX1_passWord_101 : decode cX1_passWord 101 = .ok (.getfield 90, 3) := by decide +kernel
theorem dX1_passWord_104 : decode cX1_passWord 104 = .ok (.if_icmp .ge 93, 3) := by decide +kernel
theorem dX1_passWord_107 : decode cX1_passWord 107 = .ok (.iload 9, 2) := by decide +kernel
theorem dX1_passWord_109 : decode cX1_passWord 109 = .ok (.iload 6, 2) := by decide +kernel
theorem dX1_passWord_111 : decode cX1_passWord 111 = .ok (.if_icmp .eq 60, 3) := by decide +kernel
theorem dX1_passWord_114 : decode cX1_passWord 114 = .ok (.aload_n 0, 1) := by decide +kernel
theorem dX1_passWord_115 : decode cX1_passWord 115 = .ok (.getfield 15, 3) := by decide +kernel
theorem dX1_passWord_118 : decode cX1_passWord 118 = .ok (.getfield 93, 3) := by decide +kernel
theorem dX1_passWord_121 : decode cX1_passWord 121 = .ok (.iload 7, 2) := by decide +kernel
theorem dX1_passWord_123 : decode cX1_passWord 123 = .ok (.iload 9, 2) := by decide +kernel
theorem dX1_passWord_125 : decode cX1_passWord 125 = .ok (.iadd, 1) := by decide +kernel
theorem dX1_passWord_126 : decode cX1_passWord 126 = .ok (.iaload, 1) := by decide +kernel
theorem dX1_passWord_127 : decode cX1_passWord 127 = .ok (.istore 10, 2) := by decide +kernel
theorem dX1_passWord_129 : decode cX1_passWord 129 = .ok (.iload 10, 2) := by decide +kernel
theorem dX1_passWord_131 : decode cX1_passWord 131 = .ok (.iload_n 3, 1) := by decide +kernel
theorem dX1_passWord_132 : decode cX1_passWord 132 = .ok (.ishr, 1) := by decide +kernel
theorem dX1_passWord_133 : decode cX1_passWord 133 = .ok (.iconst 1, 1) := by decide +kernel
theorem dX1_passWord_134 : decode cX1_passWord 134 = .ok (.iand, 1) := by decide +kernel
theorem dX1_passWord_135 : decode cX1_passWord 135 = .ok (.ifCond .eq 8, 3) := by decide +kernel
theorem dX1_passWord_138 : decode cX1_passWord 138 = .ok (.iload 4, 2) := by decide +kernel
theorem dX1_passWord_140 : decode cX1_passWord 140 = .ok (.goto 10, 3) := by decide +kernel
theorem dX1_passWord_143 : decode cX1_passWord 143 = .ok (.aload_n 0, 1) := by decide +kernel
theorem dX1_passWord_144 : decode cX1_passWord 144 = .ok (.iload_n 2, 1) := by decide +kernel
theorem dX1_passWord_145 : decode cX1_passWord 145 = .ok (.iload 10, 2) := by decide +kernel
theorem dX1_passWord_147 : decode cX1_passWord 147 = .ok (.invokevirtual 96, 3) := by decide +kernel
theorem dX1_passWord_150 : decode cX1_passWord 150 = .ok (.istore 11, 2) := by decide +kernel
theorem dX1_passWord_152 : decode cX1_passWord 152 = .ok (.aload_n 0, 1) := by decide +kernel
theorem dX1_passWord_153 : decode cX1_passWord 153 = .ok (.getfield 31, 3) := by decide +kernel
theorem dX1_passWord_156 : decode cX1_passWord 156 = .ok (.iload 8, 2) := by decide +kernel
theorem dX1_passWord_158 : decode cX1_passWord 158 = .ok (.aload_n 0, 1) := by decide +kernel
theorem dX1_passWord_159 : decode cX1_passWord 159 = .ok (.getfield 31, 3) := by decide +kernel
theorem dX1_passWord_162 : decode cX1_passWord 162 = .ok (.iload 8, 2) := by decide +kernel
theorem dX1_passWord_164 : decode cX1_passWord 164 = .ok (.iaload, 1) := by decide +kernel
theorem dX1_passWord_165 : decode cX1_passWord 165 = .ok (.iload 11, 2) := by decide +kernel
theorem dX1_passWord_167 : decode cX1_passWord 167 = .ok (.invokestatic 65, 3) := by decide +kernel
theorem dX1_passWord_170 : decode cX1_passWord 170 = .ok (.iastore, 1) := by decide +kernel
theorem dX1_passWord_171 : decode cX1_passWord 171 = .ok (.iload 8, 2) := by decide +kernel
theorem dX1_passWord_173 : decode cX1_passWord 173 = .ok (.aload_n 0, 1) := by decide +kernel
theorem dX1_passWord_174 : decode cX1_passWord 174 = .ok (.getfield 9, 3) := by decide +kernel
theorem dX1_passWord_177 : decode cX1_passWord 177 = .ok (.getfield 99, 3) := by decide +kernel
theorem dX1_passWord_180 : decode cX1_passWord 180 = .ok (.iload 5, 2) := by decide +kernel
theorem dX1_passWord_182 : decode cX1_passWord 182 = .ok (.iaload, 1) := by decide +kernel
theorem dX1_passWord_183 : decode cX1_passWord 183 = .ok (.aload_n 0, 1) := by decide +kernel
theorem dX1_passWord_184 : decode cX1_passWord 184 = .ok (.getfield 25, 3) := by decide +kernel
theorem dX1_passWord_187 : decode cX1_passWord 187 = .ok (.imul, 1) := by decide +kernel
theorem dX1_passWord_188 : decode cX1_passWord 188 = .ok (.iadd, 1) := by decide +kernel
theorem dX1_passWord_189 : decode cX1_passWord 189 = .ok (.istore 8, 2) := by decide +kernel
theorem dX1_passWord_191 : decode cX1_passWord 191 = .ok (.iinc 9 1, 3) := by decide +kernel
theorem dX1_passWord_194 : decode cX1_passWord 194 = .ok (.goto (-99), 3) := by decide +kernel
theorem dX1_passWord_197 : decode cX1_passWord 197 = .ok (.iinc 5 1, 3) := by decide +kernel
theorem dX1_passWord_200 : decode cX1_passWord 200 = .ok (.goto (-168), 3) := by decide +kernel
theorem dX1_passWord_203 : decode cX1_passWord 203 = .ok (.return_, 1) := by decide +kernel
theorem dX1_bestBehind_0 : decode cX1_bestBehind 0 = .ok (.iconst 0, 1) := by decide +kernel
theorem dX1_bestBehind_1 : decode cX1_bestBehind 1 = .ok (.istore_n 2, 1) := by decide +kernel
theorem dX1_bestBehind_2 : decode cX1_bestBehind 2 = .ok (.iconst 1, 1) := by decide +kernel
theorem dX1_bestBehind_3 : decode cX1_bestBehind 3 = .ok (.istore_n 3, 1) := by decide +kernel
theorem dX1_bestBehind_4 : decode cX1_bestBehind 4 = .ok (.iload_n 3, 1) := by decide +kernel
theorem dX1_bestBehind_5 : decode cX1_bestBehind 5 = .ok (.aload_n 0, 1) := by decide +kernel
theorem dX1_bestBehind_6 : decode cX1_bestBehind 6 = .ok (.getfield 25, 3) := by decide +kernel
theorem dX1_bestBehind_9 : decode cX1_bestBehind 9 = .ok (.if_icmp .ge 40, 3) := by decide +kernel
theorem dX1_bestBehind_12 : decode cX1_bestBehind 12 = .ok (.aload_n 0, 1) := by decide +kernel
theorem dX1_bestBehind_13 : decode cX1_bestBehind 13 = .ok (.getfield 35, 3) := by decide +kernel
theorem dX1_bestBehind_16 : decode cX1_bestBehind 16 = .ok (.iload_n 1, 1) := by decide +kernel
theorem dX1_bestBehind_17 : decode cX1_bestBehind 17 = .ok (.aload_n 0, 1) := by decide +kernel
theorem dX1_bestBehind_18 : decode cX1_bestBehind 18 = .ok (.getfield 25, 3) := by decide +kernel
theorem dX1_bestBehind_21 : decode cX1_bestBehind 21 = .ok (.imul, 1) := by decide +kernel
theorem dX1_bestBehind_22 : decode cX1_bestBehind 22 = .ok (.iload_n 3, 1) := by decide +kernel
theorem dX1_bestBehind_23 : decode cX1_bestBehind 23 = .ok (.iadd, 1) := by decide +kernel
theorem dX1_bestBehind_24 : decode cX1_bestBehind 24 = .ok (.iaload, 1) := by decide +kernel
theorem dX1_bestBehind_25 : decode cX1_bestBehind 25 = .ok (.aload_n 0, 1) := by decide +kernel
theorem dX1_bestBehind_26 : decode cX1_bestBehind 26 = .ok (.getfield 35, 3) := by decide +kernel
theorem dX1_bestBehind_29 : decode cX1_bestBehind 29 = .ok (.iload_n 1, 1) := by decide +kernel
theorem dX1_bestBehind_30 : decode cX1_bestBehind 30 = .ok (.aload_n 0, 1) := by decide +kernel
theorem dX1_bestBehind_31 : decode cX1_bestBehind 31 = .ok (.getfield 25, 3) := by decide +kernel
theorem dX1_bestBehind_34 : decode cX1_bestBehind 34 = .ok (.imul, 1) := by decide +kernel
theorem dX1_bestBehind_35 : decode cX1_bestBehind 35 = .ok (.iload_n 2, 1) := by decide +kernel
theorem dX1_bestBehind_36 : decode cX1_bestBehind 36 = .ok (.iadd, 1) := by decide +kernel
theorem dX1_bestBehind_37 : decode cX1_bestBehind 37 = .ok (.iaload, 1) := by decide +kernel
theorem dX1_bestBehind_38 : decode cX1_bestBehind 38 = .ok (.if_icmp .ge 5, 3) := by decide +kernel
theorem dX1_bestBehind_41 : decode cX1_bestBehind 41 = .ok (.iload_n 3, 1) := by decide +kernel
theorem dX1_bestBehind_42 : decode cX1_bestBehind 42 = .ok (.istore_n 2, 1) := by decide +kernel
theorem dX1_bestBehind_43 : decode cX1_bestBehind 43 = .ok (.iinc 3 1, 3) := by decide +kernel
theorem dX1_bestBehind_46 : decode cX1_bestBehind 46 = .ok (.goto (-42), 3) := by decide +kernel
theorem dX1_bestBehind_49 : decode cX1_bestBehind 49 = .ok (.iload_n 2, 1) := by decide +kernel
theorem dX1_bestBehind_50 : decode cX1_bestBehind 50 = .ok (.ireturn, 1) := by decide +kernel
theorem dX1_leastBehind_0 : decode cX1_leastBehind 0 = .ok (.ldc 38, 2) := by decide +kernel
theorem dX1_leastBehind_2 : decode cX1_leastBehind 2 = .ok (.istore_n 3, 1) := by decide +kernel
theorem dX1_leastBehind_3 : decode cX1_leastBehind 3 = .ok (.iconst 0, 1) := by decide +kernel
theorem dX1_leastBehind_4 : decode cX1_leastBehind 4 = .ok (.istore 4, 2) := by decide +kernel
theorem dX1_leastBehind_6 : decode cX1_leastBehind 6 = .ok (.iload 4, 2) := by decide +kernel
theorem dX1_leastBehind_8 : decode cX1_leastBehind 8 = .ok (.aload_n 0, 1) := by decide +kernel
theorem dX1_leastBehind_9 : decode cX1_leastBehind 9 = .ok (.getfield 25, 3) := by decide +kernel
theorem dX1_leastBehind_12 : decode cX1_leastBehind 12 = .ok (.if_icmp .ge 37, 3) := by decide +kernel
theorem dX1_leastBehind_15 : decode cX1_leastBehind 15 = .ok (.iload_n 2, 1) := by decide +kernel
theorem dX1_leastBehind_16 : decode cX1_leastBehind 16 = .ok (.iload 4, 2) := by decide +kernel
theorem dX1_leastBehind_18 : decode cX1_leastBehind 18 = .ok (.ishr, 1) := by decide +kernel
theorem dX1_leastBehind_19 : decode cX1_leastBehind 19 = .ok (.iconst 1, 1) := by decide +kernel
theorem dX1_leastBehind_20 : decode cX1_leastBehind 20 = .ok (.iand, 1) := by decide +kernel
theorem dX1_leastBehind_21 : decode cX1_leastBehind 21 = .ok (.ifCond .eq 22, 3) := by decide +kernel
theorem dX1_leastBehind_24 : decode cX1_leastBehind 24 = .ok (.iload_n 3, 1) := by decide +kernel
theorem dX1_leastBehind_25 : decode cX1_leastBehind 25 = .ok (.aload_n 0, 1) := by decide +kernel
theorem dX1_leastBehind_26 : decode cX1_leastBehind 26 = .ok (.getfield 35, 3) := by decide +kernel
theorem dX1_leastBehind_29 : decode cX1_leastBehind 29 = .ok (.iload_n 1, 1) := by decide +kernel
theorem dX1_leastBehind_30 : decode cX1_leastBehind 30 = .ok (.aload_n 0, 1) := by decide +kernel
theorem dX1_leastBehind_31 : decode cX1_leastBehind 31 = .ok (.getfield 25, 3) := by decide +kernel
theorem dX1_leastBehind_34 : decode cX1_leastBehind 34 = .ok (.imul, 1) := by decide +kernel
theorem dX1_leastBehind_35 : decode cX1_leastBehind 35 = .ok (.iload 4, 2) := by decide +kernel
theorem dX1_leastBehind_37 : decode cX1_leastBehind 37 = .ok (.iadd, 1) := by decide +kernel
theorem dX1_leastBehind_38 : decode cX1_leastBehind 38 = .ok (.iaload, 1) := by decide +kernel
theorem dX1_leastBehind_39 : decode cX1_leastBehind 39 = .ok (.invokestatic 65, 3) := by decide +kernel
theorem dX1_leastBehind_42 : decode cX1_leastBehind 42 = .ok (.istore_n 3, 1) := by decide +kernel
theorem dX1_leastBehind_43 : decode cX1_leastBehind 43 = .ok (.iinc 4 1, 3) := by decide +kernel
theorem dX1_leastBehind_46 : decode cX1_leastBehind 46 = .ok (.goto (-40), 3) := by decide +kernel
theorem dX1_leastBehind_49 : decode cX1_leastBehind 49 = .ok (.iload_n 3, 1) := by decide +kernel
theorem dX1_leastBehind_50 : decode cX1_leastBehind 50 = .ok (.ireturn, 1) := by decide +kernel
theorem dX2_init_0 : decode cX2_init 0 = .ok (.aload_n 0, 1) := by decide +kernel
theorem dX2_init_1 : decode cX2_init 1 = .ok (.invokespecial 3, 3) := by decide +kernel
theorem dX2_init_4 : decode cX2_init 4 = .ok (.aload_n 0, 1) := by decide +kernel
theorem dX2_init_5 : decode cX2_init 5 = .ok (.aload_n 1, 1) := by decide +kernel
theorem dX2_init_6 : decode cX2_init 6 = .ok (.putfield 9, 3) := by decide +kernel
theorem dX2_init_9 : decode cX2_init 9 = .ok (.aload_n 0, 1) := by decide +kernel
theorem dX2_init_10 : decode cX2_init 10 = .ok (.aload_n 2, 1) := by decide +kernel
theorem dX2_init_11 : decode cX2_init 11 = .ok (.putfield 15, 3) := by decide +kernel
theorem dX2_init_14 : decode cX2_init 14 = .ok (.aload_n 0, 1) := by decide +kernel
theorem dX2_init_15 : decode cX2_init 15 = .ok (.aload_n 1, 1) := by decide +kernel
theorem dX2_init_16 : decode cX2_init 16 = .ok (.getfield 19, 3) := by decide +kernel
theorem dX2_init_19 : decode cX2_init 19 = .ok (.iconst 1, 1) := by decide +kernel
theorem dX2_init_20 : decode cX2_init 20 = .ok (.iadd, 1) := by decide +kernel
theorem dX2_init_21 : decode cX2_init 21 = .ok (.putfield 25, 3) := by decide +kernel
theorem dX2_init_24 : decode cX2_init 24 = .ok (.aload_n 0, 1) := by decide +kernel
theorem dX2_init_25 : decode cX2_init 25 = .ok (.aload_n 1, 1) := by decide +kernel
theorem dX2_init_26 : decode cX2_init 26 = .ok (.getfield 28, 3) := by decide +kernel
theorem dX2_init_29 : decode cX2_init 29 = .ok (.aload_n 0, 1) := by decide +kernel
theorem dX2_init_30 : decode cX2_init 30 = .ok (.getfield 25, 3) := by decide +kernel
theorem dX2_init_33 : decode cX2_init 33 = .ok (.imul, 1) := by decide +kernel
theorem dX2_init_34 : decode cX2_init 34 = .ok (.newarray .long, 2) := by decide +kernel
theorem dX2_init_36 : decode cX2_init 36 = .ok (.putfield 31, 3) := by decide +kernel
theorem dX2_init_39 : decode cX2_init 39 = .ok (.aload_n 0, 1) := by decide +kernel
theorem dX2_init_40 : decode cX2_init 40 = .ok (.aload_n 1, 1) := by decide +kernel
theorem dX2_init_41 : decode cX2_init 41 = .ok (.getfield 28, 3) := by decide +kernel
theorem dX2_init_44 : decode cX2_init 44 = .ok (.aload_n 0, 1) := by decide +kernel
theorem dX2_init_45 : decode cX2_init 45 = .ok (.getfield 25, 3) := by decide +kernel
theorem dX2_init_48 : decode cX2_init 48 = .ok (.imul, 1) := by decide +kernel
theorem dX2_init_49 : decode cX2_init 49 = .ok (.newarray .long, 2) := by decide +kernel
theorem dX2_init_51 : decode cX2_init 51 = .ok (.putfield 35, 3) := by decide +kernel
theorem dX2_init_54 : decode cX2_init 54 = .ok (.return_, 1) := by decide +kernel
theorem dX2_waysOf_0 : decode cX2_waysOf 0 = .ok (.aload_n 0, 1) := by decide +kernel
theorem dX2_waysOf_1 : decode cX2_waysOf 1 = .ok (.getfield 31, 3) := by decide +kernel
theorem dX2_waysOf_4 : decode cX2_waysOf 4 = .ok (.iload_n 1, 1) := by decide +kernel
theorem dX2_waysOf_5 : decode cX2_waysOf 5 = .ok (.aload_n 0, 1) := by decide +kernel
theorem dX2_waysOf_6 : decode cX2_waysOf 6 = .ok (.getfield 25, 3) := by decide +kernel
theorem dX2_waysOf_9 : decode cX2_waysOf 9 = .ok (.imul, 1) := by decide +kernel
theorem dX2_waysOf_10 : decode cX2_waysOf 10 = .ok (.laload, 1) := by decide +kernel
theorem dX2_waysOf_11 : decode cX2_waysOf 11 = .ok (.lreturn, 1) := by decide +kernel
theorem dX2_count_0 : decode cX2_count 0 = .ok (.aload_n 0, 1) := by decide +kernel
theorem dX2_count_1 : decode cX2_count 1 = .ok (.getfield 31, 3) := by decide +kernel
theorem dX2_count_4 : decode cX2_count 4 = .ok (.lconst 0, 1) := by decide +kernel
theorem dX2_count_5 : decode cX2_count 5 = .ok (.invokestatic 38, 3) := by decide +kernel
theorem dX2_count_8 : decode cX2_count 8 = .ok (.iconst 0, 1) := by decide +kernel
theorem dX2_count_9 : decode cX2_count 9 = .ok (.istore_n 3, 1) := by decide +kernel
theorem dX2_count_10 : decode cX2_count 10 = .ok (.iload_n 3, 1) := by decide +kernel
theorem dX2_count_11 : decode cX2_count 11 = .ok (.aload_n 0, 1) := by decide +kernel
theorem dX2_count_12 : decode cX2_count 12 = .ok (.getfield 25, 3) := by decide +kernel
theorem dX2_count_15 : decode cX2_count 15 = .ok (.if_icmp .ge 23, 3) := by decide +kernel
theorem dX2_count_18 : decode cX2_count 18 = .ok (.aload_n 0, 1) := by decide +kernel
theorem dX2_count_19 : decode cX2_count 19 = .ok (.getfield 31, 3) := by decide +kernel
theorem dX2_count_22 : decode cX2_count 22 = .ok (.iload_n 1, 1) := by decide +kernel
theorem dX2_count_23 : decode cX2_count 23 = .ok (.aload_n 0, 1) := by decide +kernel
theorem dX2_count_24 : decode cX2_count 24 = .ok (.getfield 25, 3) := by decide +kernel
theorem dX2_count_27 : decode cX2_count 27 = .ok (.imul, 1) := by decide +kernel
theorem dX2_count_28 : decode cX2_count 28 = .ok (.iload_n 3, 1) := by decide +kernel
theorem dX2_count_29 : decode cX2_count 29 = .ok (.iadd, 1) := by decide +kernel
theorem dX2_count_30 : decode cX2_count 30 = .ok (.lconst 1, 1) := by decide +kernel
theorem dX2_count_31 : decode cX2_count 31 = .ok (.lastore, 1) := by decide +kernel
theorem dX2_count_32 : decode cX2_count 32 = .ok (.iinc 3 1, 3) := by decide +kernel
theorem dX2_count_35 : decode cX2_count 35 = .ok (.goto (-25), 3) := by decide +kernel
theorem dX2_count_38 : decode cX2_count 38 = .ok (.iload_n 2, 1) := by decide +kernel
theorem dX2_count_39 : decode cX2_count 39 = .ok (.bipush 8, 2) := by decide +kernel
theorem dX2_count_41 : decode cX2_count 41 = .ok (.invokestatic 44, 3) := by decide +kernel
theorem dX2_count_44 : decode cX2_count 44 = .ok (.iconst 1, 1) := by decide +kernel
theorem dX2_count_45 : decode cX2_count 45 = .ok (.isub, 1) := by decide +kernel
theorem dX2_count_46 : decode cX2_count 46 = .ok (.istore_n 3, 1) := by decide +kernel
theorem dX2_count_47 : decode cX2_count 47 = .ok (.iload_n 3, 1) := by decide +kernel
theorem dX2_count_48 : decode cX2_count 48 = .ok (.ifCond .lt 65, 3) := by decide +kernel
theorem dX2_count_51 : decode cX2_count 51 = .ok (.aload_n 0, 1) := by decide +kernel
theorem dX2_count_52 : decode cX2_count 52 = .ok (.getfield 31, 3) := by decide +kernel
theorem dX2_count_55 : decode cX2_count 55 = .ok (.astore 4, 2) := by decide +kernel
theorem dX2_count_57 : decode cX2_count 57 = .ok (.aload_n 0, 1) := by decide +kernel
theorem dX2_count_58 : decode cX2_count 58 = .ok (.aload_n 0, 1) := by decide +kernel
theorem dX2_count_59 : decode cX2_count 59 = .ok (.getfield 35, 3) := by decide +kernel
theorem dX2_count_62 : decode cX2_count 62 = .ok (.putfield 31, 3) := by decide +kernel
theorem dX2_count_65 : decode cX2_count 65 = .ok (.aload_n 0, 1) := by decide +kernel
theorem dX2_count_66 : decode cX2_count 66 = .ok (.aload 4, 2) := by decide +kernel
theorem dX2_count_68 : decode cX2_count 68 = .ok (.putfield 35, 3) := by decide +kernel
theorem dX2_count_71 : decode cX2_count 71 = .ok (.aload_n 0, 1) := by decide +kernel
theorem dX2_count_72 : decode cX2_count 72 = .ok (.getfield 31, 3) := by decide +kernel
theorem dX2_count_75 : decode cX2_count 75 = .ok (.lconst 0, 1) := by decide +kernel
theorem dX2_count_76 : decode cX2_count 76 = .ok (.invokestatic 38, 3) := by decide +kernel
theorem dX2_count_79 : decode cX2_count 79 = .ok (.iconst 0, 1) := by decide +kernel
theorem dX2_count_80 : decode cX2_count 80 = .ok (.istore 5, 2) := by decide +kernel
theorem dX2_count_82 : decode cX2_count 82 = .ok (.iload 5, 2) := by decide +kernel
theorem dX2_count_84 : decode cX2_count 84 = .ok (.aload_n 0, 1) := by decide +kernel
theorem dX2_count_85 : decode cX2_count 85 = .ok (.getfield 9, 3) := by decide +kernel
theorem dX2_count_88 : decode cX2_count 88 = .ok (.getfield 28, 3) := by decide +kernel
theorem dX2_count_91 : decode cX2_count 91 = .ok (.if_icmp .ge 16, 3) := by decide +kernel
theorem dX2_count_94 : decode cX2_count 94 = .ok (.aload_n 0, 1) := by decide +kernel
theorem dX2_count_95 : decode cX2_count 95 = .ok (.iload_n 3, 1) := by decide +kernel
theorem dX2_count_96 : decode cX2_count 96 = .ok (.iload 5, 2) := by decide +kernel
theorem dX2_count_98 : decode cX2_count 98 = .ok (.invokevirtual 50, 3) := by decide +kernel
theorem dX2_count_101 : decode cX2_count 101 = .ok (.iinc 5 1, 3) := by decide +kernel
theorem dX2_count_104 : decode cX2_count 104 = .ok (.goto (-22), 3) := by decide +kernel
theorem dX2_count_107 : decode cX2_count 107 = .ok (.iinc 3 (-1), 3) := by decide +kernel
theorem dX2_count_110 : decode cX2_count 110 = .ok (.goto (-63), 3) := by decide +kernel
theorem dX2_count_113 : decode cX2_count 113 = .ok (.return_, 1) := by decide +kernel
theorem dX2_countWord_0 : decode cX2_countWord 0 = .ok (.iconst 0, 1) := by decide +kernel
theorem dX2_countWord_1 : decode cX2_countWord 1 = .ok (.istore_n 3, 1) := by decide +kernel
theorem dX2_countWord_2 : decode cX2_countWord 2 = .ok (.iload_n 3, 1) := by decide +kernel
theorem dX2_countWord_3 : decode cX2_countWord 3 = .ok (.aload_n 0, 1) := by decide +kernel
theorem dX2_countWord_4 : decode cX2_countWord 4 = .ok (.getfield 9, 3) := by decide +kernel
theorem dX2_countWord_7 : decode cX2_countWord 7 = .ok (.getfield 19, 3) := by decide +kernel
theorem dX2_countWord_10 : decode cX2_countWord 10 = .ok (.if_icmp .ge 130, 3) := by decide +kernel
theorem dX2_countWord_13 : decode cX2_countWord 13 = .ok (.aload_n 0, 1) := by decide +kernel
theorem dX2_countWord_14 : decode cX2_countWord 14 = .ok (.getfield 9, 3) := by decide +kernel
theorem dX2_countWord_17 : decode cX2_countWord 17 = .ok (.iload_n 2, 1) := by decide +kernel
theorem dX2_countWord_18 : decode cX2_countWord 18 = .ok (.iload_n 3, 1) := by decide +kernel
theorem dX2_countWord_19 : decode cX2_countWord 19 = .ok (.invokevirtual 54, 3) := by decide +kernel
theorem dX2_countWord_22 : decode cX2_countWord 22 = .ok (.istore 4, 2) := by decide +kernel
theorem dX2_countWord_24 : decode cX2_countWord 24 = .ok (.aload_n 0, 1) := by decide +kernel
theorem dX2_countWord_25 : decode cX2_countWord 25 = .ok (.getfield 15, 3) := by decide +kernel
theorem dX2_countWord_28 : decode cX2_countWord 28 = .ok (.iload_n 1, 1) := by decide +kernel
theorem dX2_countWord_29 : decode cX2_countWord 29 = .ok (.iload_n 3, 1) := by decide +kernel
theorem dX2_countWord_30 : decode cX2_countWord 30 = .ok (.iload 4, 2) := by decide +kernel
theorem dX2_countWord_32 : decode cX2_countWord 32 = .ok (.invokevirtual 57, 3) := by decide +kernel
theorem dX2_countWord_35 : decode cX2_countWord 35 = .ok (.istore 5, 2) := by decide +kernel
theorem dX2_countWord_37 : decode cX2_countWord 37 = .ok (.aload_n 0, 1) := by decide +kernel
theorem dX2_countWord_38 : decode cX2_countWord 38 = .ok (.getfield 9, 3) := by decide +kernel
theorem dX2_countWord_41 : decode cX2_countWord 41 = .ok (.iload_n 2, 1) := by decide +kernel
theorem dX2_countWord_42 : decode cX2_countWord 42 = .ok (.iload_n 3, 1) := by decide +kernel
theorem dX2_countWord_43 : decode cX2_countWord 43 = .ok (.invokevirtual 63, 3) := by decide +kernel
theorem dX2_countWord_46 : decode cX2_countWord 46 = .ok (.aload_n 0, 1) := by decide +kernel
theorem dX2_countWord_47 : decode cX2_countWord 47 = .ok (.getfield 25, 3) := by decide +kernel
theorem dX2_countWord_50 : decode cX2_countWord 50 = .ok (.imul, 1) := by decide +kernel
theorem dX2_countWord_51 : decode cX2_countWord 51 = .ok (.iload_n 3, 1) := by decide +kernel
theorem dX2_countWord_52 : decode cX2_countWord 52 = .ok (.iadd, 1) := by decide +kernel
theorem dX2_countWord_53 : decode cX2_countWord 53 = .ok (.iconst 1, 1) := by decide +kernel
theorem dX2_countWord_54 : decode cX2_countWord 54 = .ok (.iadd, 1) := by decide +kernel
theorem dX2_countWord_55 : decode cX2_countWord 55 = .ok (.istore 6, 2) := by decide +kernel
theorem dX2_countWord_57 : decode cX2_countWord 57 = .ok (.iconst 0, 1) := by decide +kernel
theorem dX2_countWord_58 : decode cX2_countWord 58 = .ok (.istore 7, 2) := by decide +kernel
theorem dX2_countWord_60 : decode cX2_countWord 60 = .ok (.iload 7, 2) := by decide +kernel
theorem dX2_countWord_62 : decode cX2_countWord 62 = .ok (.aload_n 0, 1) := by decide +kernel
theorem dX2_countWord_63 : decode cX2_countWord 63 = .ok (.getfield 9, 3) := by decide +kernel
theorem dX2_countWord_66 : decode cX2_countWord 66 = .ok (.getfield 66, 3) := by decide +kernel
theorem dX2_countWord_69 : decode cX2_countWord 69 = .ok (.if_icmp .ge 65, 3) := by decide +kernel
theorem dX2_countWord_72 : decode cX2_countWord 72 = .ok (.iload 7, 2) := by decide +kernel
theorem dX2_countWord_74 : decode cX2_countWord 74 = .ok (.iload 4, 2) := by decide +kernel
theorem dX2_countWord_76 : decode cX2_countWord 76 = .ok (.if_icmp .eq 33, 3) := by decide +kernel
theorem dX2_countWord_79 : decode cX2_countWord 79 = .ok (.aload_n 0, 1) := by decide +kernel
theorem dX2_countWord_80 : decode cX2_countWord 80 = .ok (.getfield 35, 3) := by decide +kernel
theorem dX2_countWord_83 : decode cX2_countWord 83 = .ok (.iload 6, 2) := by decide +kernel
theorem dX2_countWord_85 : decode cX2_countWord 85 = .ok (.laload, 1) := by decide +kernel
theorem dX2_countWord_86 : decode cX2_countWord 86 = .ok (.lconst 0, 1) := by decide +kernel
theorem dX2_countWord_87 : decode cX2_countWord 87 = .ok (.lcmp, 1) := by decide +kernel
theorem dX2_countWord_88 : decode cX2_countWord 88 = .ok (.ifCond .eq 21, 3) := by decide +kernel
theorem dX2_countWord_91 : decode cX2_countWord 91 = .ok (.aload_n 0, 1) := by decide +kernel
theorem dX2_countWord_92 : decode cX2_countWord 92 = .ok (.iload_n 1, 1) := by decide +kernel
theorem dX2_countWord_93 : decode cX2_countWord 93 = .ok (.iload_n 2, 1) := by decide +kernel
theorem dX2_countWord_94 : decode cX2_countWord 94 = .ok (.iload 5, 2) := by decide +kernel
theorem dX2_countWord_96 : decode cX2_countWord 96 = .ok (.iload 7, 2) := by decide +kernel
theorem dX2_countWord_98 : decode cX2_countWord 98 = .ok (.iadd, 1) := by decide +kernel
theorem dX2_countWord_99 : decode cX2_countWord 99 = .ok (.aload_n 0, 1) := by decide +kernel
theorem dX2_countWord_100 : decode cX2_countWord 100 = .ok (.getfield 35, 3) := by decide +kernel
theorem dX2_countWord_103 : decode cX2_countWord 103 = .ok (.iload 6, 2) := by decide +kernel
theorem dX2_countWord_105 : decode cX2_countWord 105 = .ok (.laload, 1) := by decide +kernel
theorem dX2_countWord_106 : decode cX2_countWord 106 = .ok (.invokevirtual 69, 3) := by decide +kernel
theorem dX2_countWord_109 : decode cX2_countWord 109 = .ok (.iload 6, 2) := by decide +kernel
theorem dX2_countWord_111 : decode cX2_countWord 111 = .ok (.aload_n 0, 1) := by decide +kernel
theorem dX2_countWord_112 : decode cX2_countWord 112 = .ok (.getfield 9, 3) := by decide +kernel
theorem dX2_countWord_115 : decode cX2_countWord 115 = .ok (.getfield 73, 3) := by decide +kernel
theorem dX2_countWord_118 : decode cX2_countWord 118 = .ok (.iload_n 3, 1) := by decide +kernel
theorem dX2_countWord_119 : decode cX2_countWord 119 = .ok (.iaload, 1) := by decide +kernel
theorem dX2_countWord_120 : decode cX2_countWord 120 = .ok (.aload_n 0, 1) := by decide +kernel
theorem dX2_countWord_121 : decode cX2_countWord 121 = .ok (.getfield 25, 3) := by decide +kernel
theorem dX2_countWord_124 : decode cX2_countWord 124 = .ok (.imul, 1) := by decide +kernel
theorem dX2_countWord_125 : decode cX2_countWord 125 = .ok (.iadd, 1) := by decide +kernel
theorem dX2_countWord_126 : decode cX2_countWord 126 = .ok (.istore 6, 2) := by decide +kernel
theorem dX2_countWord_128 : decode cX2_countWord 128 = .ok (.iinc 7 1, 3) := by decide +kernel
theorem dX2_countWord_131 : decode cX2_countWord 131 = .ok (.goto (-71), 3) := by decide +kernel
theorem dX2_countWord_134 : decode cX2_countWord 134 = .ok (.iinc 3 1, 3) := by decide +kernel
theorem dX2_countWord_137 : decode cX2_countWord 137 = .ok (.goto (-135), 3) := by decide +kernel
theorem dX2_countWord_140 : decode cX2_countWord 140 = .ok (.return_, 1) := by decide +kernel
theorem dX2_addChange_0 : decode cX2_addChange 0 = .ok (.iload_n 1, 1) := by decide +kernel
theorem dX2_addChange_1 : decode cX2_addChange 1 = .ok (.ifCond .ne 7, 3) := by decide +kernel
theorem dX2_addChange_4 : decode cX2_addChange 4 = .ok (.iconst 0, 1) := by decide +kernel
theorem dX2_addChange_5 : decode cX2_addChange 5 = .ok (.goto 4, 3) := by decide +kernel
theorem dX2_addChange_8 : decode cX2_addChange 8 = .ok (.iconst 1, 1) := by decide +kernel
theorem dX2_addChange_9 : decode cX2_addChange 9 = .ok (.istore 6, 2) := by decide +kernel
theorem dX2_addChange_11 : decode cX2_addChange 11 = .ok (.iload_n 1, 1) := by decide +kernel
theorem dX2_addChange_12 : decode cX2_addChange 12 = .ok (.ifCond .ne 7, 3) := by decide +kernel
theorem dX2_addChange_15 : decode cX2_addChange 15 = .ok (.iconst 0, 1) := by decide +kernel
theorem dX2_addChange_16 : decode cX2_addChange 16 = .ok (.goto 10, 3) := by decide +kernel
theorem dX2_addChange_19 : decode cX2_addChange 19 = .ok (.aload_n 0, 1) := by decide +kernel
theorem dX2_addChange_20 : decode cX2_addChange 20 = .ok (.getfield 9, 3) := by decide +kernel
theorem dX2_addChange_23 : decode cX2_addChange 23 = .ok (.getfield 19, 3) := by decide +kernel
theorem dX2_addChange_26 : decode cX2_addChange 26 = .ok (.istore 7, 2) := by decide +kernel
theorem dX2_addChange_28 : decode cX2_addChange 28 = .ok (.iload 6, 2) := by decide +kernel
theorem dX2_addChange_30 : decode cX2_addChange 30 = .ok (.istore 8, 2) := by decide +kernel
theorem dX2_addChange_32 : decode cX2_addChange 32 = .ok (.iload 8, 2) := by decide +kernel
theorem dX2_addChange_34 : decode cX2_addChange 34 = .ok (.iload 7, 2) := by decide +kernel
theorem dX2_addChange_36 : decode cX2_addChange 36 = .ok (.if_icmp .gt 47, 3) := by decide +kernel
theorem dX2_addChange_39 : decode cX2_addChange 39 = .ok (.aload_n 0, 1) := by decide +kernel
theorem dX2_addChange_40 : decode cX2_addChange 40 = .ok (.getfield 31, 3) := by decide +kernel
theorem dX2_addChange_43 : decode cX2_addChange 43 = .ok (.iload_n 2, 1) := by decide +kernel
theorem dX2_addChange_44 : decode cX2_addChange 44 = .ok (.aload_n 0, 1) := by decide +kernel
theorem dX2_addChange_45 : decode cX2_addChange 45 = .ok (.getfield 25, 3) := by decide +kernel
theorem dX2_addChange_48 : decode cX2_addChange 48 = .ok (.imul, 1) := by decide +kernel
theorem dX2_addChange_49 : decode cX2_addChange 49 = .ok (.iload 8, 2) := by decide +kernel
theorem dX2_addChange_51 : decode cX2_addChange 51 = .ok (.iadd, 1) := by decide +kernel
theorem dX2_addChange_52 : decode cX2_addChange 52 = .ok (.dup2, 1) := by decide +kernel
theorem dX2_addChange_53 : decode cX2_addChange 53 = .ok (.laload, 1) := by decide +kernel
theorem dX2_addChange_54 : decode cX2_addChange 54 = .ok (.aload_n 0, 1) := by decide +kernel
theorem dX2_addChange_55 : decode cX2_addChange 55 = .ok (.getfield 15, 3) := by decide +kernel
theorem dX2_addChange_58 : decode cX2_addChange 58 = .ok (.getfield 77, 3) := by decide +kernel
theorem dX2_addChange_61 : decode cX2_addChange 61 = .ok (.iload_n 3, 1) := by decide +kernel
theorem dX2_addChange_62 : decode cX2_addChange 62 = .ok (.aload_n 0, 1) := by decide +kernel
theorem dX2_addChange_63 : decode cX2_addChange 63 = .ok (.getfield 25, 3) := by decide +kernel
theorem dX2_addChange_66 : decode cX2_addChange 66 = .ok (.imul, 1) := by decide +kernel
theorem dX2_addChange_67 : decode cX2_addChange 67 = .ok (.iload 8, 2) := by decide +kernel
theorem dX2_addChange_69 : decode cX2_addChange 69 = .ok (.iadd, 1) := by decide +kernel
theorem dX2_addChange_70 : decode cX2_addChange 70 = .ok (.iaload, 1) := by decide +kernel
theorem dX2_addChange_71 : decode cX2_addChange 71 = .ok (.i2l, 1) := by decide +kernel
theorem dX2_addChange_72 : decode cX2_addChange 72 = .ok (.lload 4, 2) := by decide +kernel
theorem dX2_addChange_74 : decode cX2_addChange 74 = .ok (.lmul, 1) := by decide +kernel
theorem dX2_addChange_75 : decode cX2_addChange 75 = .ok (.ladd, 1) := by decide +kernel
theorem dX2_addChange_76 : decode cX2_addChange 76 = .ok (.lastore, 1) := by decide +kernel
theorem dX2_addChange_77 : decode cX2_addChange 77 = .ok (.iinc 8 1, 3) := by decide +kernel
theorem dX2_addChange_80 : decode cX2_addChange 80 = .ok (.goto (-48), 3) := by decide +kernel
theorem dX2_addChange_83 : decode cX2_addChange 83 = .ok (.return_, 1) := by decide +kernel
theorem dX3_init_0 : decode cX3_init 0 = .ok (.aload_n 0, 1) := by decide +kernel
theorem dX3_init_1 : decode cX3_init 1 = .ok (.invokespecial 3, 3) := by decide +kernel
theorem dX3_init_4 : decode cX3_init 4 = .ok (.aload_n 0, 1) := by decide +kernel
theorem dX3_init_5 : decode cX3_init 5 = .ok (.bipush 6, 2) := by decide +kernel
theorem dX3_init_7 : decode cX3_init 7 = .ok (.newarray .int, 2) := by decide +kernel
theorem dX3_init_9 : decode cX3_init 9 = .ok (.putfield 11, 3) := by decide +kernel
theorem dX3_init_12 : decode cX3_init 12 = .ok (.aload_n 0, 1) := by decide +kernel
theorem dX3_init_13 : decode cX3_init 13 = .ok (.sipush 300, 3) := by decide +kernel
theorem dX3_init_16 : decode cX3_init 16 = .ok (.newarray .int, 2) := by decide +kernel
theorem dX3_init_18 : decode cX3_init 18 = .ok (.putfield 15, 3) := by decide +kernel
theorem dX3_init_21 : decode cX3_init 21 = .ok (.aload_n 0, 1) := by decide +kernel
theorem dX3_init_22 : decode cX3_init 22 = .ok (.iconst 0, 1) := by decide +kernel
theorem dX3_init_23 : decode cX3_init 23 = .ok (.putfield 18, 3) := by decide +kernel
theorem dX3_init_26 : decode cX3_init 26 = .ok (.return_, 1) := by decide +kernel
theorem dX3_comparison_0 : decode cX3_comparison 0 = .ok (.iload_n 0, 1) := by decide +kernel
theorem dX3_comparison_1 : decode cX3_comparison 1 = .ok (.lookupswitch 77 #[(35, 74), (60, 59), (61, 71), (62, 65), (256, 62), (257, 68)], 59) := by decide +kernel
theorem dX3_comparison_60 : decode cX3_comparison 60 = .ok (.bipush (-15), 2) := by decide +kernel
theorem dX3_comparison_62 : decode cX3_comparison 62 = .ok (.ireturn, 1) := by decide +kernel
theorem dX3_comparison_63 : decode cX3_comparison 63 = .ok (.bipush (-16), 2) := by decide +kernel
theorem dX3_comparison_65 : decode cX3_comparison 65 = .ok (.ireturn, 1) := by decide +kernel
theorem dX3_comparison_66 : decode cX3_comparison 66 = .ok (.bipush (-17), 2) := by decide +kernel
theorem dX3_comparison_68 : decode cX3_comparison 68 = .ok (.ireturn, 1) := by decide +kernel
theorem dX3_comparison_69 : decode cX3_comparison 69 = .ok (.bipush (-18), 2) := by decide +kernel
theorem dX3_comparison_71 : decode cX3_comparison 71 = .ok (.ireturn, 1) := by decide +kernel
theorem dX3_comparison_72 : decode cX3_comparison 72 = .ok (.bipush (-19), 2) := by decide +kernel
theorem dX3_comparison_74 : decode cX3_comparison 74 = .ok (.ireturn, 1) := by decide +kernel
theorem dX3_comparison_75 : decode cX3_comparison 75 = .ok (.bipush (-20), 2) := by decide +kernel
theorem dX3_comparison_77 : decode cX3_comparison 77 = .ok (.ireturn, 1) := by decide +kernel
theorem dX3_comparison_78 : decode cX3_comparison 78 = .ok (.iconst 0, 1) := by decide +kernel
theorem dX3_comparison_79 : decode cX3_comparison 79 = .ok (.ireturn, 1) := by decide +kernel
theorem dX3_value_0 : decode cX3_value 0 = .ok (.aload_n 0, 1) := by decide +kernel
theorem dX3_value_1 : decode cX3_value 1 = .ok (.iconst 0, 1) := by decide +kernel
theorem dX3_value_2 : decode cX3_value 2 = .ok (.putfield 18, 3) := by decide +kernel
theorem dX3_value_5 : decode cX3_value 5 = .ok (.iconst 0, 1) := by decide +kernel
theorem dX3_value_6 : decode cX3_value 6 = .ok (.iload_n 2, 1) := by decide +kernel
theorem dX3_value_7 : decode cX3_value 7 = .ok (.invokestatic 22, 3) := by decide +kernel
theorem dX3_value_10 : decode cX3_value 10 = .ok (.istore 4, 2) := by decide +kernel
theorem dX3_value_12 : decode cX3_value 12 = .ok (.iload 4, 2) := by decide +kernel
theorem dX3_value_14 : decode cX3_value 14 = .ok (.iload_n 3, 1) := by decide +kernel
theorem dX3_value_15 : decode cX3_value 15 = .ok (.if_icmp .ge 24, 3) := by decide +kernel
theorem dX3_value_18 : decode cX3_value 18 = .ok (.iload 4, 2) := by decide +kernel
theorem dX3_value_20 : decode cX3_value 20 = .ok (.aload_n 1, 1) := by decide +kernel
theorem dX3_value_21 : decode cX3_value 21 = .ok (.arraylength, 1) := by decide +kernel
theorem dX3_value_22 : decode cX3_value 22 = .ok (.if_icmp .ge 17, 3) := by decide +kernel
theorem dX3_value_25 : decode cX3_value 25 = .ok (.aload_n 0, 1) := by decide +kernel
theorem dX3_value_26 : decode cX3_value 26 = .ok (.aload_n 1, 1) := by decide +kernel
theorem dX3_value_27 : decode cX3_value 27 = .ok (.iload 4, 2) := by decide +kernel
theorem dX3_value_29 : decode cX3_value 29 = .ok (.iaload, 1) := by decide +kernel
theorem dX3_value_30 : decode cX3_value 30 = .ok (.invokevirtual 28, 3) := by decide +kernel
theorem dX3_value_33 : decode cX3_value 33 = .ok (.iinc 4 1, 3) := by decide +kernel
theorem dX3_value_36 : decode cX3_value 36 = .ok (.goto (-24), 3) := by decide +kernel
theorem dX3_value_39 : decode cX3_value 39 = .ok (.aload_n 0, 1) := by decide +kernel
theorem dX3_value_40 : decode cX3_value 40 = .ok (.getfield 18, 3) := by decide +kernel
theorem dX3_value_43 : decode cX3_value 43 = .ok (.ifCond .le 17, 3) := by decide +kernel
theorem dX3_value_46 : decode cX3_value 46 = .ok (.aload_n 0, 1) := by decide +kernel
theorem dX3_value_47 : decode cX3_value 47 = .ok (.getfield 15, 3) := by decide +kernel
theorem dX3_value_50 : decode cX3_value 50 = .ok (.aload_n 0, 1) := by decide +kernel
theorem dX3_value_51 : decode cX3_value 51 = .ok (.getfield 18, 3) := by decide +kernel
theorem dX3_value_54 : decode cX3_value 54 = .ok (.iconst 1, 1) := by decide +kernel
theorem dX3_value_55 : decode cX3_value 55 = .ok (.isub, 1) := by decide +kernel
theorem dX3_value_56 : decode cX3_value 56 = .ok (.iaload, 1) := by decide +kernel
theorem dX3_value_57 : decode cX3_value 57 = .ok (.goto 4, 3) := by decide +kernel
theorem dX3_value_60 : decode cX3_value 60 = .ok (.iconst 0, 1) := by decide +kernel
theorem dX3_value_61 : decode cX3_value 61 = .ok (.ireturn, 1) := by decide +kernel
theorem dX3_step_0 : decode cX3_step 0 = .ok (.iload_n 1, 1) := by decide +kernel
theorem dX3_step_1 : decode cX3_step 1 = .ok (.ifCond .lt 11, 3) := by decide +kernel
theorem dX3_step_4 : decode cX3_step 4 = .ok (.aload_n 0, 1) := by decide +kernel
theorem dX3_step_5 : decode cX3_step 5 = .ok (.iload_n 1, 1) := by decide +kernel
theorem dX3_step_6 : decode cX3_step 6 = .ok (.invokevirtual 32, 3) := by decide +kernel
theorem dX3_step_9 : decode cX3_step 9 = .ok (.goto 96, 3) := by decide +kernel
theorem dX3_step_12 : decode cX3_step 12 = .ok (.iload_n 1, 1) := by decide +kernel
theorem dX3_step_13 : decode cX3_step 13 = .ok (.bipush (-6), 2) := by decide +kernel
theorem dX3_step_15 : decode cX3_step 15 = .ok (.if_icmp .lt 18, 3) := by decide +kernel
theorem dX3_step_18 : decode cX3_step 18 = .ok (.aload_n 0, 1) := by decide +kernel
theorem dX3_step_19 : decode cX3_step 19 = .ok (.aload_n 0, 1) := by decide +kernel
theorem dX3_step_20 : decode cX3_step 20 = .ok (.getfield 11, 3) := by decide +kernel
theorem dX3_step_23 : decode cX3_step 23 = .ok (.iconst (-1), 1) := by decide +kernel
theorem dX3_step_24 : decode cX3_step 24 = .ok (.iload_n 1, 1) := by decide +kernel
theorem dX3_step_25 : decode cX3_step 25 = .ok (.isub, 1) := by decide +kernel
theorem dX3_step_26 : decode cX3_step 26 = .ok (.iaload, 1) := by decide +kernel
theorem dX3_step_27 : decode cX3_step 27 = .ok (.invokevirtual 32, 3) := by decide +kernel
theorem dX3_step_30 : decode cX3_step 30 = .ok (.goto 75, 3) := by decide +kernel
theorem dX3_step_33 : decode cX3_step 33 = .ok (.iload_n 1, 1) := by decide +kernel
theorem dX3_step_34 : decode cX3_step 34 = .ok (.bipush (-23), 2) := by decide +kernel
theorem dX3_step_36 : decode cX3_step 36 = .ok (.if_icmp .ne 15, 3) := by decide +kernel
theorem dX3_step_39 : decode cX3_step 39 = .ok (.aload_n 0, 1) := by decide +kernel
theorem dX3_step_40 : decode cX3_step 40 = .ok (.aload_n 0, 1) := by decide +kernel
theorem dX3_step_41 : decode cX3_step 41 = .ok (.invokevirtual 35, 3) := by decide +kernel
theorem dX3_step_44 : decode cX3_step 44 = .ok (.ineg, 1) := by decide +kernel
theorem dX3_step_45 : decode cX3_step 45 = .ok (.invokevirtual 32, 3) := by decide +kernel
theorem dX3_step_48 : decode cX3_step 48 = .ok (.goto 57, 3) := by decide +kernel
theorem dX3_step_51 : decode cX3_step 51 = .ok (.iload_n 1, 1) := by decide +kernel
theorem dX3_step_52 : decode cX3_step 52 = .ok (.bipush (-24), 2) := by decide +kernel
theorem dX3_step_54 : decode cX3_step 54 = .ok (.if_icmp .ne 16, 3) := by decide +kernel
theorem dX3_step_57 : decode cX3_step 57 = .ok (.aload_n 0, 1) := by decide +kernel
theorem dX3_step_58 : decode cX3_step 58 = .ok (.iconst 1, 1) := by decide +kernel
theorem dX3_step_59 : decode cX3_step 59 = .ok (.aload_n 0, 1) := by decide +kernel
theorem dX3_step_60 : decode cX3_step 60 = .ok (.invokevirtual 35, 3) := by decide +kernel
theorem dX3_step_63 : decode cX3_step 63 = .ok (.isub, 1) := by decide +kernel
theorem dX3_step_64 : decode cX3_step 64 = .ok (.invokevirtual 32, 3) := by decide +kernel
theorem dX3_step_67 : decode cX3_step 67 = .ok (.goto 38, 3) := by decide +kernel
theorem dX3_step_70 : decode cX3_step 70 = .ok (.aload_n 0, 1) := by decide +kernel
theorem dX3_step_71 : decode cX3_step 71 = .ok (.invokevirtual 35, 3) := by decide +kernel
theorem dX3_step_74 : decode cX3_step 74 = .ok (.istore_n 2, 1) := by decide +kernel
theorem dX3_step_75 : decode cX3_step 75 = .ok (.aload_n 0, 1) := by decide +kernel
theorem dX3_step_76 : decode cX3_step 76 = .ok (.invokevirtual 35, 3) := by decide +kernel
theorem dX3_step_79 : decode cX3_step 79 = .ok (.istore_n 3, 1) := by decide +kernel
theorem dX3_step_80 : decode cX3_step 80 = .ok (.aload_n 0, 1) := by decide +kernel
theorem dX3_step_81 : decode cX3_step 81 = .ok (.ldc2_w 39, 3) := by decide +kernel
theorem dX3_step_84 : decode cX3_step 84 = .ok (.ldc2_w 41, 3) := by decide +kernel
theorem dX3_step_87 : decode cX3_step 87 = .ok (.iload_n 1, 1) := by decide +kernel
theorem dX3_step_88 : decode cX3_step 88 = .ok (.iload_n 3, 1) := by decide +kernel
theorem dX3_step_89 : decode cX3_step 89 = .ok (.i2l, 1) := by decide +kernel
theorem dX3_step_90 : decode cX3_step 90 = .ok (.iload_n 2, 1) := by decide +kernel
theorem dX3_step_91 : decode cX3_step 91 = .ok (.i2l, 1) := by decide +kernel
theorem dX3_step_92 : decode cX3_step 92 = .ok (.invokestatic 43, 3) := by decide +kernel
theorem dX3_step_95 : decode cX3_step 95 = .ok (.invokestatic 47, 3) := by decide +kernel
theorem dX3_step_98 : decode cX3_step 98 = .ok (.invokestatic 51, 3) := by decide +kernel
theorem dX3_step_101 : decode cX3_step 101 = .ok (.l2i, 1) := by decide +kernel
theorem dX3_step_102 : decode cX3_step 102 = .ok (.invokevirtual 32, 3) := by decide +kernel
theorem dX3_step_105 : decode cX3_step 105 = .ok (.return_, 1) := by decide +kernel
theorem dX3_push_0 : decode cX3_push 0 = .ok (.aload_n 0, 1) := by decide +kernel
theorem dX3_push_1 : decode cX3_push 1 = .ok (.getfield 18, 3) := by decide +kernel
theorem dX3_push_4 : decode cX3_push 4 = .ok (.ifCond .lt 35, 3) := by decide +kernel
theorem dX3_push_7 : decode cX3_push 7 = .ok (.aload_n 0, 1) := by decide +kernel
theorem dX3_push_8 : decode cX3_push 8 = .ok (.getfield 18, 3) := by decide +kernel
theorem dX3_push_11 : decode cX3_push 11 = .ok (.aload_n 0, 1) := by decide +kernel
theorem dX3_push_12 : decode cX3_push 12 = .ok (.getfield 15, 3) := by decide +kernel
theorem dX3_push_15 : decode cX3_push 15 = .ok (.arraylength, 1) := by decide +kernel
theorem dX3_push_16 : decode cX3_push 16 = .ok (.if_icmp .ge 23, 3) := by decide +kernel
theorem dX3_push_19 : decode cX3_push 19 = .ok (.aload_n 0, 1) := by decide +kernel
theorem dX3_push_20 : decode cX3_push 20 = .ok (.getfield 15, 3) := by decide +kernel
theorem dX3_push_23 : decode cX3_push 23 = .ok (.aload_n 0, 1) := by decide +kernel
theorem dX3_push_24 : decode cX3_push 24 = .ok (.getfield 18, 3) := by decide +kernel
theorem dX3_push_27 : decode cX3_push 27 = .ok (.iload_n 1, 1) := by decide +kernel
theorem dX3_push_28 : decode cX3_push 28 = .ok (.iastore, 1) := by decide +kernel
theorem dX3_push_29 : decode cX3_push 29 = .ok (.aload_n 0, 1) := by decide +kernel
theorem dX3_push_30 : decode cX3_push 30 = .ok (.dup, 1) := by decide +kernel
theorem dX3_push_31 : decode cX3_push 31 = .ok (.getfield 18, 3) := by decide +kernel
theorem dX3_push_34 : decode cX3_push 34 = .ok (.iconst 1, 1) := by decide +kernel
theorem dX3_push_35 : decode cX3_push 35 = .ok (.iadd, 1) := by decide +kernel
theorem dX3_push_36 : decode cX3_push 36 = .ok (.putfield 18, 3) := by decide +kernel
theorem dX3_push_39 : decode cX3_push 39 = .ok (.return_, 1) := by decide +kernel
theorem dX3_pop_0 : decode cX3_pop 0 = .ok (.aload_n 0, 1) := by decide +kernel
theorem dX3_pop_1 : decode cX3_pop 1 = .ok (.getfield 18, 3) := by decide +kernel
theorem dX3_pop_4 : decode cX3_pop 4 = .ok (.ifCond .le 15, 3) := by decide +kernel
theorem dX3_pop_7 : decode cX3_pop 7 = .ok (.aload_n 0, 1) := by decide +kernel
theorem dX3_pop_8 : decode cX3_pop 8 = .ok (.getfield 18, 3) := by decide +kernel
theorem dX3_pop_11 : decode cX3_pop 11 = .ok (.aload_n 0, 1) := by decide +kernel
theorem dX3_pop_12 : decode cX3_pop 12 = .ok (.getfield 15, 3) := by decide +kernel
theorem dX3_pop_15 : decode cX3_pop 15 = .ok (.arraylength, 1) := by decide +kernel
theorem dX3_pop_16 : decode cX3_pop 16 = .ok (.if_icmp .le 5, 3) := by decide +kernel
theorem dX3_pop_19 : decode cX3_pop 19 = .ok (.iconst 0, 1) := by decide +kernel
theorem dX3_pop_20 : decode cX3_pop 20 = .ok (.ireturn, 1) := by decide +kernel
theorem dX3_pop_21 : decode cX3_pop 21 = .ok (.aload_n 0, 1) := by decide +kernel
theorem dX3_pop_22 : decode cX3_pop 22 = .ok (.dup, 1) := by decide +kernel
theorem dX3_pop_23 : decode cX3_pop 23 = .ok (.getfield 18, 3) := by decide +kernel
theorem dX3_pop_26 : decode cX3_pop 26 = .ok (.iconst 1, 1) := by decide +kernel
theorem dX3_pop_27 : decode cX3_pop 27 = .ok (.isub, 1) := by decide +kernel
theorem dX3_pop_28 : decode cX3_pop 28 = .ok (.putfield 18, 3) := by decide +kernel
theorem dX3_pop_31 : decode cX3_pop 31 = .ok (.aload_n 0, 1) := by decide +kernel
theorem dX3_pop_32 : decode cX3_pop 32 = .ok (.getfield 15, 3) := by decide +kernel
theorem dX3_pop_35 : decode cX3_pop 35 = .ok (.aload_n 0, 1) := by decide +kernel
theorem dX3_pop_36 : decode cX3_pop 36 = .ok (.getfield 18, 3) := by decide +kernel
theorem dX3_pop_39 : decode cX3_pop 39 = .ok (.iaload, 1) := by decide +kernel
theorem dX3_pop_40 : decode cX3_pop 40 = .ok (.ireturn, 1) := by decide +kernel
theorem dX3_joined_0 : decode cX3_joined 0 = .ok (.iload_n 0, 1) := by decide +kernel
theorem dX3_joined_1 : decode cX3_joined 1 = .ok (.tableswitch 169 (-22) (-11) #[165, 161, 149, 137, 125, 113, 101, 89, 75, 71, 67, 63], 63) := by decide +kernel
theorem dX3_joined_64 : decode cX3_joined 64 = .ok (.lload_n 1, 1) := by decide +kernel
theorem dX3_joined_65 : decode cX3_joined 65 = .ok (.lload_n 3, 1) := by decide +kernel
theorem dX3_joined_66 : decode cX3_joined 66 = .ok (.ladd, 1) := by decide +kernel
theorem dX3_joined_67 : decode cX3_joined 67 = .ok (.lreturn, 1) := by decide +kernel
theorem dX3_joined_68 : decode cX3_joined 68 = .ok (.lload_n 1, 1) := by decide +kernel
theorem dX3_joined_69 : decode cX3_joined 69 = .ok (.lload_n 3, 1) := by decide +kernel
theorem dX3_joined_70 : decode cX3_joined 70 = .ok (.lsub, 1) := by decide +kernel
theorem dX3_joined_71 : decode cX3_joined 71 = .ok (.lreturn, 1) := by decide +kernel
theorem dX3_joined_72 : decode cX3_joined 72 = .ok (.lload_n 1, 1) := by decide +kernel
theorem dX3_joined_73 : decode cX3_joined 73 = .ok (.lload_n 3, 1) := by decide +kernel
theorem dX3_joined_74 : decode cX3_joined 74 = .ok (.lmul, 1) := by decide +kernel
theorem dX3_joined_75 : decode cX3_joined 75 = .ok (.lreturn, 1) := by decide +kernel
theorem dX3_joined_76 : decode cX3_joined 76 = .ok (.lload_n 3, 1) := by decide +kernel
theorem dX3_joined_77 : decode cX3_joined 77 = .ok (.lconst 0, 1) := by decide +kernel
theorem dX3_joined_78 : decode cX3_joined 78 = .ok (.lcmp, 1) := by decide +kernel
theorem dX3_joined_79 : decode cX3_joined 79 = .ok (.ifCond .ne 7, 3) := by decide +kernel
theorem dX3_joined_82 : decode cX3_joined 82 = .ok (.lconst 0, 1) := by decide +kernel
theorem dX3_joined_83 : decode cX3_joined 83 = .ok (.goto 6, 3) := by decide +kernel
theorem dX3_joined_86 : decode cX3_joined 86 = .ok (.lload_n 1, 1) := by decide +kernel
theorem dX3_joined_87 : decode cX3_joined 87 = .ok (.lload_n 3, 1) := by decide +kernel
theorem dX3_joined_88 : decode cX3_joined 88 = .ok (.ldiv, 1) := by decide +kernel
theorem dX3_joined_89 : decode cX3_joined 89 = .ok (.lreturn, 1) := by decide +kernel
theorem dX3_joined_90 : decode cX3_joined 90 = .ok (.lload_n 1, 1) := by decide +kernel
theorem dX3_joined_91 : decode cX3_joined 91 = .ok (.lload_n 3, 1) := by decide +kernel
theorem dX3_joined_92 : decode cX3_joined 92 = .ok (.lcmp, 1) := by decide +kernel
theorem dX3_joined_93 : decode cX3_joined 93 = .ok (.ifCond .ge 7, 3) := by decide +kernel
theorem dX3_joined_96 : decode cX3_joined 96 = .ok (.lconst 1, 1) := by decide +kernel
theorem dX3_joined_97 : decode cX3_joined 97 = .ok (.goto 4, 3) := by decide +kernel
theorem dX3_joined_100 : decode cX3_joined 100 = .ok (.lconst 0, 1) := by decide +kernel
theorem dX3_joined_101 : decode cX3_joined 101 = .ok (.lreturn, 1) := by decide +kernel
theorem dX3_joined_102 : decode cX3_joined 102 = .ok (.lload_n 1, 1) := by decide +kernel
theorem dX3_joined_103 : decode cX3_joined 103 = .ok (.lload_n 3, 1) := by decide +kernel
theorem dX3_joined_104 : decode cX3_joined 104 = .ok (.lcmp, 1) := by decide +kernel
theorem dX3_joined_105 : decode cX3_joined 105 = .ok (.ifCond .gt 7, 3) := by decide +kernel
theorem dX3_joined_108 : decode cX3_joined 108 = .ok (.lconst 1, 1) := by decide +kernel
theorem dX3_joined_109 : decode cX3_joined 109 = .ok (.goto 4, 3) := by decide +kernel
theorem dX3_joined_112 : decode cX3_joined 112 = .ok (.lconst 0, 1) := by decide +kernel
theorem dX3_joined_113 : decode cX3_joined 113 = .ok (.lreturn, 1) := by decide +kernel
theorem dX3_joined_114 : decode cX3_joined 114 = .ok (.lload_n 1, 1) := by decide +kernel
theorem dX3_joined_115 : decode cX3_joined 115 = .ok (.lload_n 3, 1) := by decide +kernel
theorem dX3_joined_116 : decode cX3_joined 116 = .ok (.lcmp, 1) := by decide +kernel
theorem dX3_joined_117 : decode cX3_joined 117 = .ok (.ifCond .le 7, 3) := by decide +kernel
theorem dX3_joined_120 : decode cX3_joined 120 = .ok (.lconst 1, 1) := by decide +kernel
theorem dX3_joined_121 : decode cX3_joined 121 = .ok (.goto 4, 3) := by decide +kernel
theorem dX3_joined_124 : decode cX3_joined 124 = .ok (.lconst 0, 1) := by decide +kernel
theorem dX3_joined_125 : decode cX3_joined 125 = .ok (.lreturn, 1) := by decide +kernel
theorem dX3_joined_126 : decode cX3_joined 126 = .ok (.lload_n 1, 1) := by decide +kernel
theorem dX3_joined_127 : decode cX3_joined 127 = .ok (.lload_n 3, 1) := by decide +kernel
theorem dX3_joined_128 : decode cX3_joined 128 = .ok (.lcmp, 1) := by decide +kernel
theorem dX3_joined_129 : decode cX3_joined 129 = .ok (.ifCond .lt 7, 3) := by decide +kernel
theorem dX3_joined_132 : decode cX3_joined 132 = .ok (.lconst 1, 1) := by decide +kernel
theorem dX3_joined_133 : decode cX3_joined 133 = .ok (.goto 4, 3) := by decide +kernel
theorem dX3_joined_136 : decode cX3_joined 136 = .ok (.lconst 0, 1) := by decide +kernel
theorem dX3_joined_137 : decode cX3_joined 137 = .ok (.lreturn, 1) := by decide +kernel
theorem dX3_joined_138 : decode cX3_joined 138 = .ok (.lload_n 1, 1) := by decide +kernel
theorem dX3_joined_139 : decode cX3_joined 139 = .ok (.lload_n 3, 1) := by decide +kernel
theorem dX3_joined_140 : decode cX3_joined 140 = .ok (.lcmp, 1) := by decide +kernel
theorem dX3_joined_141 : decode cX3_joined 141 = .ok (.ifCond .ne 7, 3) := by decide +kernel
theorem dX3_joined_144 : decode cX3_joined 144 = .ok (.lconst 1, 1) := by decide +kernel
theorem dX3_joined_145 : decode cX3_joined 145 = .ok (.goto 4, 3) := by decide +kernel
theorem dX3_joined_148 : decode cX3_joined 148 = .ok (.lconst 0, 1) := by decide +kernel
theorem dX3_joined_149 : decode cX3_joined 149 = .ok (.lreturn, 1) := by decide +kernel
theorem dX3_joined_150 : decode cX3_joined 150 = .ok (.lload_n 1, 1) := by decide +kernel
theorem dX3_joined_151 : decode cX3_joined 151 = .ok (.lload_n 3, 1) := by decide +kernel
theorem dX3_joined_152 : decode cX3_joined 152 = .ok (.lcmp, 1) := by decide +kernel
theorem dX3_joined_153 : decode cX3_joined 153 = .ok (.ifCond .eq 7, 3) := by decide +kernel
theorem dX3_joined_156 : decode cX3_joined 156 = .ok (.lconst 1, 1) := by decide +kernel
theorem dX3_joined_157 : decode cX3_joined 157 = .ok (.goto 4, 3) := by decide +kernel
theorem dX3_joined_160 : decode cX3_joined 160 = .ok (.lconst 0, 1) := by decide +kernel
theorem dX3_joined_161 : decode cX3_joined 161 = .ok (.lreturn, 1) := by decide +kernel
theorem dX3_joined_162 : decode cX3_joined 162 = .ok (.lload_n 1, 1) := by decide +kernel
theorem dX3_joined_163 : decode cX3_joined 163 = .ok (.lload_n 3, 1) := by decide +kernel
theorem dX3_joined_164 : decode cX3_joined 164 = .ok (.land, 1) := by decide +kernel
theorem dX3_joined_165 : decode cX3_joined 165 = .ok (.lreturn, 1) := by decide +kernel
theorem dX3_joined_166 : decode cX3_joined 166 = .ok (.lload_n 1, 1) := by decide +kernel
theorem dX3_joined_167 : decode cX3_joined 167 = .ok (.lload_n 3, 1) := by decide +kernel
theorem dX3_joined_168 : decode cX3_joined 168 = .ok (.lor, 1) := by decide +kernel
theorem dX3_joined_169 : decode cX3_joined 169 = .ok (.lreturn, 1) := by decide +kernel
theorem dX3_joined_170 : decode cX3_joined 170 = .ok (.lconst 0, 1) := by decide +kernel
theorem dX3_joined_171 : decode cX3_joined 171 = .ok (.lreturn, 1) := by decide +kernel
theorem dX4_init_0 : decode cX4_init 0 = .ok (.aload_n 0, 1) := by decide +kernel
theorem dX4_init_1 : decode cX4_init 1 = .ok (.invokespecial 3, 3) := by decide +kernel
theorem dX4_init_4 : decode cX4_init 4 = .ok (.aload_n 0, 1) := by decide +kernel
theorem dX4_init_5 : decode cX4_init 5 = .ok (.iconst 0, 1) := by decide +kernel
theorem dX4_init_6 : decode cX4_init 6 = .ok (.putfield 9, 3) := by decide +kernel
theorem dX4_init_9 : decode cX4_init 9 = .ok (.aload_n 0, 1) := by decide +kernel
theorem dX4_init_10 : decode cX4_init 10 = .ok (.iconst 0, 1) := by decide +kernel
theorem dX4_init_11 : decode cX4_init 11 = .ok (.putfield 15, 3) := by decide +kernel
theorem dX4_init_14 : decode cX4_init 14 = .ok (.aload_n 0, 1) := by decide +kernel
theorem dX4_init_15 : decode cX4_init 15 = .ok (.bipush 40, 2) := by decide +kernel
theorem dX4_init_17 : decode cX4_init 17 = .ok (.newarray .int, 2) := by decide +kernel
theorem dX4_init_19 : decode cX4_init 19 = .ok (.putfield 18, 3) := by decide +kernel
theorem dX4_init_22 : decode cX4_init 22 = .ok (.aload_n 0, 1) := by decide +kernel
theorem dX4_init_23 : decode cX4_init 23 = .ok (.bipush 40, 2) := by decide +kernel
theorem dX4_init_25 : decode cX4_init 25 = .ok (.newarray .int, 2) := by decide +kernel
theorem dX4_init_27 : decode cX4_init 27 = .ok (.putfield 22, 3) := by decide +kernel
theorem dX4_init_30 : decode cX4_init 30 = .ok (.aload_n 0, 1) := by decide +kernel
theorem dX4_init_31 : decode cX4_init 31 = .ok (.bipush 40, 2) := by decide +kernel
theorem dX4_init_33 : decode cX4_init 33 = .ok (.newarray .int, 2) := by decide +kernel
theorem dX4_init_35 : decode cX4_init 35 = .ok (.putfield 25, 3) := by decide +kernel
theorem dX4_init_38 : decode cX4_init 38 = .ok (.return_, 1) := by decide +kernel
theorem dX4_begin_0 : decode cX4_begin 0 = .ok (.aload_n 0, 1) := by decide +kernel
theorem dX4_begin_1 : decode cX4_begin 1 = .ok (.iload_n 1, 1) := by decide +kernel
theorem dX4_begin_2 : decode cX4_begin 2 = .ok (.putfield 9, 3) := by decide +kernel
theorem dX4_begin_5 : decode cX4_begin 5 = .ok (.aload_n 0, 1) := by decide +kernel
theorem dX4_begin_6 : decode cX4_begin 6 = .ok (.iconst 0, 1) := by decide +kernel
theorem dX4_begin_7 : decode cX4_begin 7 = .ok (.putfield 15, 3) := by decide +kernel
theorem dX4_begin_10 : decode cX4_begin 10 = .ok (.return_, 1) := by decide +kernel
theorem dX4_add_0 : decode cX4_add 0 = .ok (.aload_n 0, 1) := by decide +kernel
theorem dX4_add_1 : decode cX4_add 1 = .ok (.getfield 15, 3) := by decide +kernel
theorem dX4_add_4 : decode cX4_add 4 = .ok (.bipush 40, 2) := by decide +kernel
theorem dX4_add_6 : decode cX4_add 6 = .ok (.if_icmp .lt 5, 3) := by decide +kernel
theorem dX4_add_9 : decode cX4_add 9 = .ok (.iconst 0, 1) := by decide +kernel
theorem dX4_add_10 : decode cX4_add 10 = .ok (.ireturn, 1) := by decide +kernel
theorem dX4_add_11 : decode cX4_add 11 = .ok (.aload_n 0, 1) := by decide +kernel
theorem dX4_add_12 : decode cX4_add 12 = .ok (.getfield 18, 3) := by decide +kernel
theorem dX4_add_15 : decode cX4_add 15 = .ok (.aload_n 0, 1) := by decide +kernel
theorem dX4_add_16 : decode cX4_add 16 = .ok (.getfield 15, 3) := by decide +kernel
theorem dX4_add_19 : decode cX4_add 19 = .ok (.iload_n 1, 1) := by decide +kernel
theorem dX4_add_20 : decode cX4_add 20 = .ok (.iastore, 1) := by decide +kernel
theorem dX4_add_21 : decode cX4_add 21 = .ok (.aload_n 0, 1) := by decide +kernel
theorem dX4_add_22 : decode cX4_add 22 = .ok (.getfield 22, 3) := by decide +kernel
theorem dX4_add_25 : decode cX4_add 25 = .ok (.aload_n 0, 1) := by decide +kernel
theorem dX4_add_26 : decode cX4_add 26 = .ok (.getfield 15, 3) := by decide +kernel
theorem dX4_add_29 : decode cX4_add 29 = .ok (.iload_n 2, 1) := by decide +kernel
theorem dX4_add_30 : decode cX4_add 30 = .ok (.iastore, 1) := by decide +kernel
theorem dX4_add_31 : decode cX4_add 31 = .ok (.aload_n 0, 1) := by decide +kernel
theorem dX4_add_32 : decode cX4_add 32 = .ok (.getfield 25, 3) := by decide +kernel
theorem dX4_add_35 : decode cX4_add 35 = .ok (.aload_n 0, 1) := by decide +kernel
theorem dX4_add_36 : decode cX4_add 36 = .ok (.getfield 15, 3) := by decide +kernel
theorem dX4_add_39 : decode cX4_add 39 = .ok (.iload_n 3, 1) := by decide +kernel
theorem dX4_add_40 : decode cX4_add 40 = .ok (.iastore, 1) := by decide +kernel
theorem dX4_add_41 : decode cX4_add 41 = .ok (.aload_n 0, 1) := by decide +kernel
theorem dX4_add_42 : decode cX4_add 42 = .ok (.dup, 1) := by decide +kernel
theorem dX4_add_43 : decode cX4_add 43 = .ok (.getfield 15, 3) := by decide +kernel
theorem dX4_add_46 : decode cX4_add 46 = .ok (.iconst 1, 1) := by decide +kernel
theorem dX4_add_47 : decode cX4_add 47 = .ok (.iadd, 1) := by decide +kernel
theorem dX4_add_48 : decode cX4_add 48 = .ok (.putfield 15, 3) := by decide +kernel
theorem dX4_add_51 : decode cX4_add 51 = .ok (.iconst 1, 1) := by decide +kernel
theorem dX4_add_52 : decode cX4_add 52 = .ok (.ireturn, 1) := by decide +kernel
theorem dX4_known_0 : decode cX4_known 0 = .ok (.aload_n 0, 1) := by decide +kernel
theorem dX4_known_1 : decode cX4_known 1 = .ok (.getfield 15, 3) := by decide +kernel
theorem dX4_known_4 : decode cX4_known 4 = .ok (.iconst 1, 1) := by decide +kernel
theorem dX4_known_5 : decode cX4_known 5 = .ok (.isub, 1) := by decide +kernel
theorem dX4_known_6 : decode cX4_known 6 = .ok (.istore_n 3, 1) := by decide +kernel
theorem dX4_known_7 : decode cX4_known 7 = .ok (.iload_n 3, 1) := by decide +kernel
theorem dX4_known_8 : decode cX4_known 8 = .ok (.ifCond .lt 36, 3) := by decide +kernel
theorem dX4_known_11 : decode cX4_known 11 = .ok (.aload_n 0, 1) := by decide +kernel
theorem dX4_known_12 : decode cX4_known 12 = .ok (.getfield 18, 3) := by decide +kernel
theorem dX4_known_15 : decode cX4_known 15 = .ok (.iload_n 3, 1) := by decide +kernel
theorem dX4_known_16 : decode cX4_known 16 = .ok (.iaload, 1) := by decide +kernel
theorem dX4_known_17 : decode cX4_known 17 = .ok (.iload_n 1, 1) := by decide +kernel
theorem dX4_known_18 : decode cX4_known 18 = .ok (.if_icmp .ne 20, 3) := by decide +kernel
theorem dX4_known_21 : decode cX4_known 21 = .ok (.aload_n 0, 1) := by decide +kernel
theorem dX4_known_22 : decode cX4_known 22 = .ok (.getfield 25, 3) := by decide +kernel
theorem dX4_known_25 : decode cX4_known 25 = .ok (.iload_n 3, 1) := by decide +kernel
theorem dX4_known_26 : decode cX4_known 26 = .ok (.iaload, 1) := by decide +kernel
theorem dX4_known_27 : decode cX4_known 27 = .ok (.iload_n 2, 1) := by decide +kernel
theorem dX4_known_28 : decode cX4_known 28 = .ok (.if_icmp .gt 10, 3) := by decide +kernel
theorem dX4_known_31 : decode cX4_known 31 = .ok (.aload_n 0, 1) := by decide +kernel
theorem dX4_known_32 : decode cX4_known 32 = .ok (.getfield 22, 3) := by decide +kernel
theorem dX4_known_35 : decode cX4_known 35 = .ok (.iload_n 3, 1) := by decide +kernel
theorem dX4_known_36 : decode cX4_known 36 = .ok (.iaload, 1) := by decide +kernel
theorem dX4_known_37 : decode cX4_known 37 = .ok (.ireturn, 1) := by decide +kernel
theorem dX4_known_38 : decode cX4_known 38 = .ok (.iinc 3 (-1), 3) := by decide +kernel
theorem dX4_known_41 : decode cX4_known 41 = .ok (.goto (-34), 3) := by decide +kernel
theorem dX4_known_44 : decode cX4_known 44 = .ok (.iconst (-1), 1) := by decide +kernel
theorem dX4_known_45 : decode cX4_known 45 = .ok (.ireturn, 1) := by decide +kernel
theorem dX4_become_0 : decode cX4_become 0 = .ok (.aload_n 0, 1) := by decide +kernel
theorem dX4_become_1 : decode cX4_become 1 = .ok (.aload_n 1, 1) := by decide +kernel
theorem dX4_become_2 : decode cX4_become 2 = .ok (.getfield 9, 3) := by decide +kernel
theorem dX4_become_5 : decode cX4_become 5 = .ok (.putfield 9, 3) := by decide +kernel
theorem dX4_become_8 : decode cX4_become 8 = .ok (.aload_n 0, 1) := by decide +kernel
theorem dX4_become_9 : decode cX4_become 9 = .ok (.aload_n 1, 1) := by decide +kernel
theorem dX4_become_10 : decode cX4_become 10 = .ok (.getfield 15, 3) := by decide +kernel
theorem dX4_become_13 : decode cX4_become 13 = .ok (.putfield 15, 3) := by decide +kernel
theorem dX4_become_16 : decode cX4_become 16 = .ok (.aload_n 1, 1) := by decide +kernel
theorem dX4_become_17 : decode cX4_become 17 = .ok (.getfield 18, 3) := by decide +kernel
theorem dX4_become_20 : decode cX4_become 20 = .ok (.iconst 0, 1) := by decide +kernel
theorem dX4_become_21 : decode cX4_become 21 = .ok (.aload_n 0, 1) := by decide +kernel
theorem dX4_become_22 : decode cX4_become 22 = .ok (.getfield 18, 3) := by decide +kernel
theorem dX4_become_25 : decode cX4_become 25 = .ok (.iconst 0, 1) := by decide +kernel
theorem dX4_become_26 : decode cX4_become 26 = .ok (.bipush 40, 2) := by decide +kernel
theorem dX4_become_28 : decode cX4_become 28 = .ok (.invokestatic 28, 3) := by decide +kernel
theorem dX4_become_31 : decode cX4_become 31 = .ok (.aload_n 1, 1) := by decide +kernel
theorem dX4_become_32 : decode cX4_become 32 = .ok (.getfield 22, 3) := by decide +kernel
theorem dX4_become_35 : decode cX4_become 35 = .ok (.iconst 0, 1) := by decide +kernel
theorem dX4_become_36 : decode cX4_become 36 = .ok (.aload_n 0, 1) := by decide +kernel
theorem dX4_become_37 : decode cX4_become 37 = .ok (.getfield 22, 3) := by decide +kernel
theorem dX4_become_40 : decode cX4_become 40 = .ok (.iconst 0, 1) := by decide +kernel
theorem dX4_become_41 : decode cX4_become 41 = .ok (.bipush 40, 2) := by decide +kernel
theorem dX4_become_43 : decode cX4_become 43 = .ok (.invokestatic 28, 3) := by decide +kernel
theorem dX4_become_46 : decode cX4_become 46 = .ok (.aload_n 1, 1) := by decide +kernel
theorem dX4_become_47 : decode cX4_become 47 = .ok (.getfield 25, 3) := by decide +kernel
theorem dX4_become_50 : decode cX4_become 50 = .ok (.iconst 0, 1) := by decide +kernel
theorem dX4_become_51 : decode cX4_become 51 = .ok (.aload_n 0, 1) := by decide +kernel
theorem dX4_become_52 : decode cX4_become 52 = .ok (.getfield 25, 3) := by decide +kernel
theorem dX4_become_55 : decode cX4_become 55 = .ok (.iconst 0, 1) := by decide +kernel
theorem dX4_become_56 : decode cX4_become 56 = .ok (.bipush 40, 2) := by decide +kernel
theorem dX4_become_58 : decode cX4_become 58 = .ok (.invokestatic 28, 3) := by decide +kernel
theorem dX4_become_61 : decode cX4_become 61 = .ok (.return_, 1) := by decide +kernel
theorem dX10_init_0 : decode cX10_init 0 = .ok (.aload_n 0, 1) := by decide +kernel
theorem dX10_init_1 : decode cX10_init 1 = .ok (.invokespecial 1, 3) := by decide +kernel
theorem dX10_init_4 : decode cX10_init 4 = .ok (.aload_n 0, 1) := by decide +kernel
theorem dX10_init_5 : decode cX10_init 5 = .ok (.iconst 2, 1) := by decide +kernel
theorem dX10_init_6 : decode cX10_init 6 = .ok (.iconst 5, 1) := by decide +kernel
theorem dX10_init_7 : decode cX10_init 7 = .ok (.iload_n 1, 1) := by decide +kernel
theorem dX10_init_8 : decode cX10_init 8 = .ok (.invokestatic 7, 3) := by decide +kernel
theorem dX10_init_11 : decode cX10_init 11 = .ok (.invokestatic 13, 3) := by decide +kernel
theorem dX10_init_14 : decode cX10_init 14 = .ok (.putfield 16, 3) := by decide +kernel
theorem dX10_init_17 : decode cX10_init 17 = .ok (.aload_n 0, 1) := by decide +kernel
theorem dX10_init_18 : decode cX10_init 18 = .ok (.aload_n 0, 1) := by decide +kernel
theorem dX10_init_19 : decode cX10_init 19 = .ok (.getfield 16, 3) := by decide +kernel
theorem dX10_init_22 : decode cX10_init 22 = .ok (.iload_n 2, 1) := by decide +kernel
theorem dX10_init_23 : decode cX10_init 23 = .ok (.invokestatic 22, 3) := by decide +kernel
theorem dX10_init_26 : decode cX10_init 26 = .ok (.putfield 25, 3) := by decide +kernel
theorem dX10_init_29 : decode cX10_init 29 = .ok (.aload_n 0, 1) := by decide +kernel
theorem dX10_init_30 : decode cX10_init 30 = .ok (.aload_n 0, 1) := by decide +kernel
theorem dX10_init_31 : decode cX10_init 31 = .ok (.getfield 16, 3) := by decide +kernel
theorem dX10_init_34 : decode cX10_init 34 = .ok (.aload_n 0, 1) := by decide +kernel
theorem dX10_init_35 : decode cX10_init 35 = .ok (.getfield 25, 3) := by decide +kernel
theorem dX10_init_38 : decode cX10_init 38 = .ok (.invokestatic 28, 3) := by decide +kernel
theorem dX10_init_41 : decode cX10_init 41 = .ok (.putfield 31, 3) := by decide +kernel
theorem dX10_init_44 : decode cX10_init 44 = .ok (.aload_n 0, 1) := by decide +kernel
theorem dX10_init_45 : decode cX10_init 45 = .ok (.aload_n 0, 1) := by decide +kernel
theorem dX10_init_46 : decode cX10_init 46 = .ok (.getfield 25, 3) := by decide +kernel
theorem dX10_init_49 : decode cX10_init 49 = .ok (.newarray .int, 2) := by decide +kernel
theorem dX10_init_51 : decode cX10_init 51 = .ok (.putfield 34, 3) := by decide +kernel
theorem dX10_init_54 : decode cX10_init 54 = .ok (.iconst 0, 1) := by decide +kernel
theorem dX10_init_55 : decode cX10_init 55 = .ok (.istore_n 3, 1) := by decide +kernel
theorem dX10_init_56 : decode cX10_init 56 = .ok (.iload_n 3, 1) := by decide +kernel
theorem dX10_init_57 : decode cX10_init 57 = .ok (.aload_n 0, 1) := by decide +kernel
theorem dX10_init_58 : decode cX10_init 58 = .ok (.getfield 25, 3) := by decide +kernel
theorem dX10_init_61 : decode cX10_init 61 = .ok (.if_icmp .ge 30, 3) := by decide +kernel
theorem dX10_init_64 : decode cX10_init 64 = .ok (.aload_n 0, 1) := by decide +kernel
theorem dX10_init_65 : decode cX10_init 65 = .ok (.getfield 34, 3) := by decide +kernel
theorem dX10_init_68 : decode cX10_init 68 = .ok (.iload_n 3, 1) := by decide +kernel
theorem dX10_init_69 : decode cX10_init 69 = .ok (.aload_n 0, 1) := by decide +kernel
theorem dX10_init_70 : decode cX10_init 70 = .ok (.getfield 16, 3) := by decide +kernel
theorem dX10_init_73 : decode cX10_init 73 = .ok (.aload_n 0, 1) := by decide +kernel
theorem dX10_init_74 : decode cX10_init 74 = .ok (.getfield 25, 3) := by decide +kernel
theorem dX10_init_77 : decode cX10_init 77 = .ok (.iconst 1, 1) := by decide +kernel
theorem dX10_init_78 : decode cX10_init 78 = .ok (.isub, 1) := by decide +kernel
theorem dX10_init_79 : decode cX10_init 79 = .ok (.iload_n 3, 1) := by decide +kernel
theorem dX10_init_80 : decode cX10_init 80 = .ok (.isub, 1) := by decide +kernel
theorem dX10_init_81 : decode cX10_init 81 = .ok (.invokestatic 28, 3) := by decide +kernel
theorem dX10_init_84 : decode cX10_init 84 = .ok (.iastore, 1) := by decide +kernel
theorem dX10_init_85 : decode cX10_init 85 = .ok (.iinc 3 1, 3) := by decide +kernel
theorem dX10_init_88 : decode cX10_init 88 = .ok (.goto (-32), 3) := by decide +kernel
theorem dX10_init_91 : decode cX10_init 91 = .ok (.aload_n 0, 1) := by decide +kernel
theorem dX10_init_92 : decode cX10_init 92 = .ok (.aload_n 0, 1) := by decide +kernel
theorem dX10_init_93 : decode cX10_init 93 = .ok (.getfield 31, 3) := by decide +kernel
theorem dX10_init_96 : decode cX10_init 96 = .ok (.aload_n 0, 1) := by decide +kernel
theorem dX10_init_97 : decode cX10_init 97 = .ok (.getfield 25, 3) := by decide +kernel
theorem dX10_init_100 : decode cX10_init 100 = .ok (.imul, 1) := by decide +kernel
theorem dX10_init_101 : decode cX10_init 101 = .ok (.newarray .int, 2) := by decide +kernel
theorem dX10_init_103 : decode cX10_init 103 = .ok (.putfield 38, 3) := by decide +kernel
theorem dX10_init_106 : decode cX10_init 106 = .ok (.iconst 0, 1) := by decide +kernel
theorem dX10_init_107 : decode cX10_init 107 = .ok (.istore_n 3, 1) := by decide +kernel
theorem dX10_init_108 : decode cX10_init 108 = .ok (.iload_n 3, 1) := by decide +kernel
theorem dX10_init_109 : decode cX10_init 109 = .ok (.aload_n 0, 1) := by decide +kernel
theorem dX10_init_110 : decode cX10_init 110 = .ok (.getfield 31, 3) := by decide +kernel
theorem dX10_init_113 : decode cX10_init 113 = .ok (.if_icmp .ge 61, 3) := by decide +kernel
theorem dX10_init_116 : decode cX10_init 116 = .ok (.iload_n 3, 1) := by decide +kernel
theorem dX10_init_117 : decode cX10_init 117 = .ok (.istore 4, 2) := by decide +kernel
theorem dX10_init_119 : decode cX10_init 119 = .ok (.aload_n 0, 1) := by decide +kernel
theorem dX10_init_120 : decode cX10_init 120 = .ok (.getfield 25, 3) := by decide +kernel
theorem dX10_init_123 : decode cX10_init 123 = .ok (.iconst 1, 1) := by decide +kernel
theorem dX10_init_124 : decode cX10_init 124 = .ok (.isub, 1) := by decide +kernel
theorem dX10_init_125 : decode cX10_init 125 = .ok (.istore 5, 2) := by decide +kernel
theorem dX10_init_127 : decode cX10_init 127 = .ok (.iload 5, 2) := by decide +kernel
theorem dX10_init_129 : decode cX10_init 129 = .ok (.ifCond .lt 39, 3) := by decide +kernel
theorem dX10_init_132 : decode cX10_init 132 = .ok (.aload_n 0, 1) := by decide +kernel
theorem dX10_init_133 : decode cX10_init 133 = .ok (.getfield 38, 3) := by decide +kernel
theorem dX10_init_136 : decode cX10_init 136 = .ok (.iload_n 3, 1) := by decide +kernel
theorem dX10_init_137 : decode cX10_init 137 = .ok (.aload_n 0, 1) := by decide +kernel
theorem dX10_init_138 : decode cX10_init 138 = .ok (.getfield 25, 3) := by decide +kernel
theorem dX10_init_141 : decode cX10_init 141 = .ok (.imul, 1) := by decide +kernel
theorem dX10_init_142 : decode cX10_init 142 = .ok (.iload 5, 2) := by decide +kernel
theorem dX10_init_144 : decode cX10_init 144 = .ok (.iadd, 1) := by decide +kernel
theorem dX10_init_145 : decode cX10_init 145 = .ok (.iload 4, 2) := by decide +kernel
theorem dX10_init_147 : decode cX10_init 147 = .ok (.aload_n 0, 1) := by decide +kernel
theorem dX10_init_148 : decode cX10_init 148 = .ok (.getfield 16, 3) := by decide +kernel
theorem dX10_init_151 : decode cX10_init 151 = .ok (.irem, 1) := by decide +kernel
theorem dX10_init_152 : decode cX10_init 152 = .ok (.iastore, 1) := by decide +kernel
theorem dX10_init_153 : decode cX10_init 153 = .ok (.iload 4, 2) := by decide +kernel
theorem dX10_init_155 : decode cX10_init 155 = .ok (.aload_n 0, 1) := by decide +kernel
theorem dX10_init_156 : decode cX10_init 156 = .ok (.getfield 16, 3) := by decide +kernel
theorem dX10_init_159 : decode cX10_init 159 = .ok (.idiv, 1) := by decide +kernel
theorem dX10_init_160 : decode cX10_init 160 = .ok (.istore 4, 2) := by decide +kernel
theorem dX10_init_162 : decode cX10_init 162 = .ok (.iinc 5 (-1), 3) := by decide +kernel
theorem dX10_init_165 : decode cX10_init 165 = .ok (.goto (-38), 3) := by decide +kernel
theorem dX10_init_168 : decode cX10_init 168 = .ok (.iinc 3 1, 3) := by decide +kernel
theorem dX10_init_171 : decode cX10_init 171 = .ok (.goto (-63), 3) := by decide +kernel
theorem dX10_init_174 : decode cX10_init 174 = .ok (.return_, 1) := by decide +kernel
theorem dX10_lengthFor_0 : decode cX10_lengthFor 0 = .ok (.iconst 2, 1) := by decide +kernel
theorem dX10_lengthFor_1 : decode cX10_lengthFor 1 = .ok (.bipush 8, 2) := by decide +kernel
theorem dX10_lengthFor_3 : decode cX10_lengthFor 3 = .ok (.iload_n 1, 1) := by decide +kernel
theorem dX10_lengthFor_4 : decode cX10_lengthFor 4 = .ok (.invokestatic 7, 3) := by decide +kernel
theorem dX10_lengthFor_7 : decode cX10_lengthFor 7 = .ok (.invokestatic 13, 3) := by decide +kernel
theorem dX10_lengthFor_10 : decode cX10_lengthFor 10 = .ok (.istore_n 2, 1) := by decide +kernel
theorem dX10_lengthFor_11 : decode cX10_lengthFor 11 = .ok (.iconst 0, 1) := by decide +kernel
theorem dX10_lengthFor_12 : decode cX10_lengthFor 12 = .ok (.istore_n 3, 1) := by decide +kernel
theorem dX10_lengthFor_13 : decode cX10_lengthFor 13 = .ok (.iload_n 3, 1) := by decide +kernel
theorem dX10_lengthFor_14 : decode cX10_lengthFor 14 = .ok (.bipush 8, 2) := by decide +kernel
theorem dX10_lengthFor_16 : decode cX10_lengthFor 16 = .ok (.if_icmp .ge 23, 3) := by decide +kernel
theorem dX10_lengthFor_19 : decode cX10_lengthFor 19 = .ok (.iload_n 0, 1) := by decide +kernel
theorem dX10_lengthFor_20 : decode cX10_lengthFor 20 = .ok (.iload_n 2, 1) := by decide +kernel
theorem dX10_lengthFor_21 : decode cX10_lengthFor 21 = .ok (.invokestatic 28, 3) := by decide +kernel
theorem dX10_lengthFor_24 : decode cX10_lengthFor 24 = .ok (.sipush 256, 3) := by decide +kernel
theorem dX10_lengthFor_27 : decode cX10_lengthFor 27 = .ok (.if_icmp .le 12, 3) := by decide +kernel
theorem dX10_lengthFor_30 : decode cX10_lengthFor 30 = .ok (.iinc 2 (-1), 3) := by decide +kernel
theorem dX10_lengthFor_33 : decode cX10_lengthFor 33 = .ok (.iinc 3 1, 3) := by decide +kernel
theorem dX10_lengthFor_36 : decode cX10_lengthFor 36 = .ok (.goto (-23), 3) := by decide +kernel
theorem dX10_lengthFor_39 : decode cX10_lengthFor 39 = .ok (.iload_n 2, 1) := by decide +kernel
theorem dX10_lengthFor_40 : decode cX10_lengthFor 40 = .ok (.ireturn, 1) := by decide +kernel
theorem dX10_raised_0 : decode cX10_raised 0 = .ok (.iconst 1, 1) := by decide +kernel
theorem dX10_raised_1 : decode cX10_raised 1 = .ok (.istore_n 2, 1) := by decide +kernel
theorem dX10_raised_2 : decode cX10_raised 2 = .ok (.iconst 0, 1) := by decide +kernel
theorem dX10_raised_3 : decode cX10_raised 3 = .ok (.istore_n 3, 1) := by decide +kernel
theorem dX10_raised_4 : decode cX10_raised 4 = .ok (.iload_n 3, 1) := by decide +kernel
theorem dX10_raised_5 : decode cX10_raised 5 = .ok (.iload_n 1, 1) := by decide +kernel
theorem dX10_raised_6 : decode cX10_raised 6 = .ok (.if_icmp .ge 13, 3) := by decide +kernel
theorem dX10_raised_9 : decode cX10_raised 9 = .ok (.iload_n 2, 1) := by decide +kernel
theorem dX10_raised_10 : decode cX10_raised 10 = .ok (.iload_n 0, 1) := by decide +kernel
theorem dX10_raised_11 : decode cX10_raised 11 = .ok (.imul, 1) := by decide +kernel
theorem dX10_raised_12 : decode cX10_raised 12 = .ok (.istore_n 2, 1) := by decide +kernel
theorem dX10_raised_13 : decode cX10_raised 13 = .ok (.iinc 3 1, 3) := by decide +kernel
theorem dX10_raised_16 : decode cX10_raised 16 = .ok (.goto (-12), 3) := by decide +kernel
theorem dX10_raised_19 : decode cX10_raised 19 = .ok (.iload_n 2, 1) := by decide +kernel
theorem dX10_raised_20 : decode cX10_raised 20 = .ok (.ireturn, 1) := by decide +kernel
theorem dX10_isWord_0 : decode cX10_isWord 0 = .ok (.iload_n 1, 1) := by decide +kernel
theorem dX10_isWord_1 : decode cX10_isWord 1 = .ok (.ifCond .lt 15, 3) := by decide +kernel
theorem dX10_isWord_4 : decode cX10_isWord 4 = .ok (.iload_n 1, 1) := by decide +kernel
theorem dX10_isWord_5 : decode cX10_isWord 5 = .ok (.aload_n 0, 1) := by decide +kernel
theorem dX10_isWord_6 : decode cX10_isWord 6 = .ok (.getfield 31, 3) := by decide +kernel
theorem dX10_isWord_9 : decode cX10_isWord 9 = .ok (.if_icmp .ge 7, 3) := by decide +kernel
theorem dX10_isWord_12 : decode cX10_isWord 12 = .ok (.iconst 1, 1) := by decide +kernel
theorem dX10_isWord_13 : decode cX10_isWord 13 = .ok (.goto 4, 3) := by decide +kernel
theorem dX10_isWord_16 : decode cX10_isWord 16 = .ok (.iconst 0, 1) := by decide +kernel
theorem dX10_isWord_17 : decode cX10_isWord 17 = .ok (.ireturn, 1) := by decide +kernel
theorem dX10_letter_0 : decode cX10_letter 0 = .ok (.aload_n 0, 1) := by decide +kernel
theorem dX10_letter_1 : decode cX10_letter 1 = .ok (.getfield 38, 3) := by decide +kernel
theorem dX10_letter_4 : decode cX10_letter 4 = .ok (.iload_n 1, 1) := by decide +kernel
theorem dX10_letter_5 : decode cX10_letter 5 = .ok (.aload_n 0, 1) := by decide +kernel
theorem dX10_letter_6 : decode cX10_letter 6 = .ok (.getfield 25, 3) := by decide +kernel
theorem dX10_letter_9 : decode cX10_letter 9 = .ok (.imul, 1) := by decide +kernel
theorem dX10_letter_10 : decode cX10_letter 10 = .ok (.iload_n 2, 1) := by decide +kernel
theorem dX10_letter_11 : decode cX10_letter 11 = .ok (.iadd, 1) := by decide +kernel
theorem dX10_letter_12 : decode cX10_letter 12 = .ok (.iaload, 1) := by decide +kernel
theorem dX10_letter_13 : decode cX10_letter 13 = .ok (.ireturn, 1) := by decide +kernel
theorem dX10_cleared_0 : decode cX10_cleared 0 = .ok (.iload_n 1, 1) := by decide +kernel
theorem dX10_cleared_1 : decode cX10_cleared 1 = .ok (.aload_n 0, 1) := by decide +kernel
theorem dX10_cleared_2 : decode cX10_cleared 2 = .ok (.getfield 38, 3) := by decide +kernel
theorem dX10_cleared_5 : decode cX10_cleared 5 = .ok (.iload_n 1, 1) := by decide +kernel
theorem dX10_cleared_6 : decode cX10_cleared 6 = .ok (.aload_n 0, 1) := by decide +kernel
theorem dX10_cleared_7 : decode cX10_cleared 7 = .ok (.getfield 25, 3) := by decide +kernel
theorem dX10_cleared_10 : decode cX10_cleared 10 = .ok (.imul, 1) := by decide +kernel
theorem dX10_cleared_11 : decode cX10_cleared 11 = .ok (.iload_n 2, 1) := by decide +kernel
theorem dX10_cleared_12 : decode cX10_cleared 12 = .ok (.iadd, 1) := by decide +kernel
theorem dX10_cleared_13 : decode cX10_cleared 13 = .ok (.iaload, 1) := by decide +kernel
theorem dX10_cleared_14 : decode cX10_cleared 14 = .ok (.aload_n 0, 1) := by decide +kernel
theorem dX10_cleared_15 : decode cX10_cleared 15 = .ok (.getfield 34, 3) := by decide +kernel
theorem dX10_cleared_18 : decode cX10_cleared 18 = .ok (.iload_n 2, 1) := by decide +kernel
theorem dX10_cleared_19 : decode cX10_cleared 19 = .ok (.iaload, 1) := by decide +kernel
theorem dX10_cleared_20 : decode cX10_cleared 20 = .ok (.imul, 1) := by decide +kernel
theorem dX10_cleared_21 : decode cX10_cleared 21 = .ok (.isub, 1) := by decide +kernel
theorem dX10_cleared_22 : decode cX10_cleared 22 = .ok (.ireturn, 1) := by decide +kernel
theorem dX10_changed_0 : decode cX10_changed 0 = .ok (.aload_n 0, 1) := by decide +kernel
theorem dX10_changed_1 : decode cX10_changed 1 = .ok (.iload_n 1, 1) := by decide +kernel
theorem dX10_changed_2 : decode cX10_changed 2 = .ok (.iload_n 2, 1) := by decide +kernel
theorem dX10_changed_3 : decode cX10_changed 3 = .ok (.invokevirtual 41, 3) := by decide +kernel
theorem dX10_changed_6 : decode cX10_changed 6 = .ok (.iload_n 3, 1) := by decide +kernel
theorem dX10_changed_7 : decode cX10_changed 7 = .ok (.aload_n 0, 1) := by decide +kernel
theorem dX10_changed_8 : decode cX10_changed 8 = .ok (.getfield 34, 3) := by decide +kernel
theorem dX10_changed_11 : decode cX10_changed 11 = .ok (.iload_n 2, 1) := by decide +kernel
theorem dX10_changed_12 : decode cX10_changed 12 = .ok (.iaload, 1) := by decide +kernel
theorem dX10_changed_13 : decode cX10_changed 13 = .ok (.imul, 1) := by decide +kernel
theorem dX10_changed_14 : decode cX10_changed 14 = .ok (.iadd, 1) := by decide +kernel
theorem dX10_changed_15 : decode cX10_changed 15 = .ok (.ireturn, 1) := by decide +kernel
theorem dX10_unlike_0 : decode cX10_unlike 0 = .ok (.iconst 0, 1) := by decide +kernel
theorem dX10_unlike_1 : decode cX10_unlike 1 = .ok (.istore_n 3, 1) := by decide +kernel
theorem dX10_unlike_2 : decode cX10_unlike 2 = .ok (.iconst 0, 1) := by decide +kernel
theorem dX10_unlike_3 : decode cX10_unlike 3 = .ok (.istore 4, 2) := by decide +kernel
theorem dX10_unlike_5 : decode cX10_unlike 5 = .ok (.iload 4, 2) := by decide +kernel
theorem dX10_unlike_7 : decode cX10_unlike 7 = .ok (.aload_n 0, 1) := by decide +kernel
theorem dX10_unlike_8 : decode cX10_unlike 8 = .ok (.getfield 25, 3) := by decide +kernel
theorem dX10_unlike_11 : decode cX10_unlike 11 = .ok (.if_icmp .ge 29, 3) := by decide +kernel
theorem dX10_unlike_14 : decode cX10_unlike 14 = .ok (.aload_n 0, 1) := by decide +kernel
theorem dX10_unlike_15 : decode cX10_unlike 15 = .ok (.iload_n 1, 1) := by decide +kernel
theorem dX10_unlike_16 : decode cX10_unlike 16 = .ok (.iload 4, 2) := by decide +kernel
theorem dX10_unlike_18 : decode cX10_unlike 18 = .ok (.invokevirtual 44, 3) := by decide +kernel
theorem dX10_unlike_21 : decode cX10_unlike 21 = .ok (.aload_n 0, 1) := by decide +kernel
theorem dX10_unlike_22 : decode cX10_unlike 22 = .ok (.iload_n 2, 1) := by decide +kernel
theorem dX10_unlike_23 : decode cX10_unlike 23 = .ok (.iload 4, 2) := by decide +kernel
theorem dX10_unlike_25 : decode cX10_unlike 25 = .ok (.invokevirtual 44, 3) := by decide +kernel
theorem dX10_unlike_28 : decode cX10_unlike 28 = .ok (.if_icmp .eq 6, 3) := by decide +kernel
theorem dX10_unlike_31 : decode cX10_unlike 31 = .ok (.iinc 3 1, 3) := by decide +kernel
theorem dX10_unlike_34 : decode cX10_unlike 34 = .ok (.iinc 4 1, 3) := by decide +kernel
theorem dX10_unlike_37 : decode cX10_unlike 37 = .ok (.goto (-32), 3) := by decide +kernel
theorem dX10_unlike_40 : decode cX10_unlike 40 = .ok (.iload_n 3, 1) := by decide +kernel
theorem dX10_unlike_41 : decode cX10_unlike 41 = .ok (.ireturn, 1) := by decide +kernel
theorem dX10_canTurn_0 : decode cX10_canTurn 0 = .ok (.iload_n 2, 1) := by decide +kernel
theorem dX10_canTurn_1 : decode cX10_canTurn 1 = .ok (.iload_n 1, 1) := by decide +kernel
theorem dX10_canTurn_2 : decode cX10_canTurn 2 = .ok (.if_icmp .ge 5, 3) := by decide +kernel
theorem dX10_canTurn_5 : decode cX10_canTurn 5 = .ok (.iconst 0, 1) := by decide +kernel
theorem dX10_canTurn_6 : decode cX10_canTurn 6 = .ok (.ireturn, 1) := by decide +kernel
theorem dX10_canTurn_7 : decode cX10_canTurn 7 = .ok (.aload_n 0, 1) := by decide +kernel
theorem dX10_canTurn_8 : decode cX10_canTurn 8 = .ok (.getfield 16, 3) := by decide +kernel
theorem dX10_canTurn_11 : decode cX10_canTurn 11 = .ok (.iconst 2, 1) := by decide +kernel
theorem dX10_canTurn_12 : decode cX10_canTurn 12 = .ok (.if_icmp .ne 17, 3) := by decide +kernel
theorem dX10_canTurn_15 : decode cX10_canTurn 15 = .ok (.iload_n 2, 1) := by decide +kernel
theorem dX10_canTurn_16 : decode cX10_canTurn 16 = .ok (.iload_n 1, 1) := by decide +kernel
theorem dX10_canTurn_17 : decode cX10_canTurn 17 = .ok (.isub, 1) := by decide +kernel
theorem dX10_canTurn_18 : decode cX10_canTurn 18 = .ok (.iconst 2, 1) := by decide +kernel
theorem dX10_canTurn_19 : decode cX10_canTurn 19 = .ok (.irem, 1) := by decide +kernel
theorem dX10_canTurn_20 : decode cX10_canTurn 20 = .ok (.ifCond .ne 7, 3) := by decide +kernel
theorem dX10_canTurn_23 : decode cX10_canTurn 23 = .ok (.iconst 1, 1) := by decide +kernel
theorem dX10_canTurn_24 : decode cX10_canTurn 24 = .ok (.goto 4, 3) := by decide +kernel
theorem dX10_canTurn_27 : decode cX10_canTurn 27 = .ok (.iconst 0, 1) := by decide +kernel
theorem dX10_canTurn_28 : decode cX10_canTurn 28 = .ok (.ireturn, 1) := by decide +kernel
theorem dX10_canTurn_29 : decode cX10_canTurn 29 = .ok (.iload_n 1, 1) := by decide +kernel
theorem dX10_canTurn_30 : decode cX10_canTurn 30 = .ok (.ifCond .gt 8, 3) := by decide +kernel
theorem dX10_canTurn_33 : decode cX10_canTurn 33 = .ok (.iload_n 2, 1) := by decide +kernel
theorem dX10_canTurn_34 : decode cX10_canTurn 34 = .ok (.iconst 1, 1) := by decide +kernel
theorem dX10_canTurn_35 : decode cX10_canTurn 35 = .ok (.if_icmp .eq 7, 3) := by decide +kernel
theorem dX10_canTurn_38 : decode cX10_canTurn 38 = .ok (.iconst 1, 1) := by decide +kernel
theorem dX10_canTurn_39 : decode cX10_canTurn 39 = .ok (.goto 4, 3) := by decide +kernel
theorem dX10_canTurn_42 : decode cX10_canTurn 42 = .ok (.iconst 0, 1) := by decide +kernel
theorem dX10_canTurn_43 : decode cX10_canTurn 43 = .ok (.ireturn, 1) := by decide +kernel
theorem dJ6_bitCount_0f7a4_0 : decode cJ6_bitCount_0f7a4 0 = .ok (.iload_n 0, 1) := by decide +kernel
theorem dJ6_bitCount_0f7a4_1 : decode cJ6_bitCount_0f7a4 1 = .ok (.iload_n 0, 1) := by decide +kernel
theorem dJ6_bitCount_0f7a4_2 : decode cJ6_bitCount_0f7a4 2 = .ok (.iconst 1, 1) := by decide +kernel
theorem dJ6_bitCount_0f7a4_3 : decode cJ6_bitCount_0f7a4 3 = .ok (.iushr, 1) := by decide +kernel
theorem dJ6_bitCount_0f7a4_4 : decode cJ6_bitCount_0f7a4 4 = .ok (.ldc_w 265, 3) := by decide +kernel
theorem dJ6_bitCount_0f7a4_7 : decode cJ6_bitCount_0f7a4 7 = .ok (.iand, 1) := by decide +kernel
theorem dJ6_bitCount_0f7a4_8 : decode cJ6_bitCount_0f7a4 8 = .ok (.isub, 1) := by decide +kernel
theorem dJ6_bitCount_0f7a4_9 : decode cJ6_bitCount_0f7a4 9 = .ok (.istore_n 0, 1) := by decide +kernel
theorem dJ6_bitCount_0f7a4_10 : decode cJ6_bitCount_0f7a4 10 = .ok (.iload_n 0, 1) := by decide +kernel
theorem dJ6_bitCount_0f7a4_11 : decode cJ6_bitCount_0f7a4 11 = .ok (.ldc_w 266, 3) := by decide +kernel
theorem dJ6_bitCount_0f7a4_14 : decode cJ6_bitCount_0f7a4 14 = .ok (.iand, 1) := by decide +kernel
theorem dJ6_bitCount_0f7a4_15 : decode cJ6_bitCount_0f7a4 15 = .ok (.iload_n 0, 1) := by decide +kernel
theorem dJ6_bitCount_0f7a4_16 : decode cJ6_bitCount_0f7a4 16 = .ok (.iconst 2, 1) := by decide +kernel
theorem dJ6_bitCount_0f7a4_17 : decode cJ6_bitCount_0f7a4 17 = .ok (.iushr, 1) := by decide +kernel
theorem dJ6_bitCount_0f7a4_18 : decode cJ6_bitCount_0f7a4 18 = .ok (.ldc_w 266, 3) := by decide +kernel
theorem dJ6_bitCount_0f7a4_21 : decode cJ6_bitCount_0f7a4 21 = .ok (.iand, 1) := by decide +kernel
theorem dJ6_bitCount_0f7a4_22 : decode cJ6_bitCount_0f7a4 22 = .ok (.iadd, 1) := by decide +kernel
theorem dJ6_bitCount_0f7a4_23 : decode cJ6_bitCount_0f7a4 23 = .ok (.istore_n 0, 1) := by decide +kernel
theorem dJ6_bitCount_0f7a4_24 : decode cJ6_bitCount_0f7a4 24 = .ok (.iload_n 0, 1) := by decide +kernel
theorem dJ6_bitCount_0f7a4_25 : decode cJ6_bitCount_0f7a4 25 = .ok (.iload_n 0, 1) := by decide +kernel
theorem dJ6_bitCount_0f7a4_26 : decode cJ6_bitCount_0f7a4 26 = .ok (.iconst 4, 1) := by decide +kernel
theorem dJ6_bitCount_0f7a4_27 : decode cJ6_bitCount_0f7a4 27 = .ok (.iushr, 1) := by decide +kernel
theorem dJ6_bitCount_0f7a4_28 : decode cJ6_bitCount_0f7a4 28 = .ok (.iadd, 1) := by decide +kernel
theorem dJ6_bitCount_0f7a4_29 : decode cJ6_bitCount_0f7a4 29 = .ok (.ldc_w 267, 3) := by decide +kernel
theorem dJ6_bitCount_0f7a4_32 : decode cJ6_bitCount_0f7a4 32 = .ok (.iand, 1) := by decide +kernel
theorem dJ6_bitCount_0f7a4_33 : decode cJ6_bitCount_0f7a4 33 = .ok (.istore_n 0, 1) := by decide +kernel
theorem dJ6_bitCount_0f7a4_34 : decode cJ6_bitCount_0f7a4 34 = .ok (.iload_n 0, 1) := by decide +kernel
theorem dJ6_bitCount_0f7a4_35 : decode cJ6_bitCount_0f7a4 35 = .ok (.iload_n 0, 1) := by decide +kernel
theorem dJ6_bitCount_0f7a4_36 : decode cJ6_bitCount_0f7a4 36 = .ok (.bipush 8, 2) := by decide +kernel
theorem dJ6_bitCount_0f7a4_38 : decode cJ6_bitCount_0f7a4 38 = .ok (.iushr, 1) := by decide +kernel
theorem dJ6_bitCount_0f7a4_39 : decode cJ6_bitCount_0f7a4 39 = .ok (.iadd, 1) := by decide +kernel
theorem dJ6_bitCount_0f7a4_40 : decode cJ6_bitCount_0f7a4 40 = .ok (.istore_n 0, 1) := by decide +kernel
theorem dJ6_bitCount_0f7a4_41 : decode cJ6_bitCount_0f7a4 41 = .ok (.iload_n 0, 1) := by decide +kernel
theorem dJ6_bitCount_0f7a4_42 : decode cJ6_bitCount_0f7a4 42 = .ok (.iload_n 0, 1) := by decide +kernel
theorem dJ6_bitCount_0f7a4_43 : decode cJ6_bitCount_0f7a4 43 = .ok (.bipush 16, 2) := by decide +kernel
theorem dJ6_bitCount_0f7a4_45 : decode cJ6_bitCount_0f7a4 45 = .ok (.iushr, 1) := by decide +kernel
theorem dJ6_bitCount_0f7a4_46 : decode cJ6_bitCount_0f7a4 46 = .ok (.iadd, 1) := by decide +kernel
theorem dJ6_bitCount_0f7a4_47 : decode cJ6_bitCount_0f7a4 47 = .ok (.istore_n 0, 1) := by decide +kernel
theorem dJ6_bitCount_0f7a4_48 : decode cJ6_bitCount_0f7a4 48 = .ok (.iload_n 0, 1) := by decide +kernel
theorem dJ6_bitCount_0f7a4_49 : decode cJ6_bitCount_0f7a4 49 = .ok (.bipush 63, 2) := by decide +kernel
theorem dJ6_bitCount_0f7a4_51 : decode cJ6_bitCount_0f7a4 51 = .ok (.iand, 1) := by decide +kernel
theorem dJ6_bitCount_0f7a4_52 : decode cJ6_bitCount_0f7a4 52 = .ok (.ireturn, 1) := by decide +kernel
theorem dJ9_abs_0f7a4_0 : decode cJ9_abs_0f7a4 0 = .ok (.iload_n 0, 1) := by decide +kernel
theorem dJ9_abs_0f7a4_1 : decode cJ9_abs_0f7a4 1 = .ok (.ifCond .ge 8, 3) := by decide +kernel
theorem dJ9_abs_0f7a4_4 : decode cJ9_abs_0f7a4 4 = .ok (.iload_n 0, 1) := by decide +kernel
theorem dJ9_abs_0f7a4_5 : decode cJ9_abs_0f7a4 5 = .ok (.ineg, 1) := by decide +kernel
theorem dJ9_abs_0f7a4_6 : decode cJ9_abs_0f7a4 6 = .ok (.goto 4, 3) := by decide +kernel
theorem dJ9_abs_0f7a4_9 : decode cJ9_abs_0f7a4 9 = .ok (.iload_n 0, 1) := by decide +kernel
theorem dJ9_abs_0f7a4_10 : decode cJ9_abs_0f7a4 10 = .ok (.ireturn, 1) := by decide +kernel
theorem dJ9_max_7cf53_0 : decode cJ9_max_7cf53 0 = .ok (.iload_n 0, 1) := by decide +kernel
theorem dJ9_max_7cf53_1 : decode cJ9_max_7cf53 1 = .ok (.iload_n 1, 1) := by decide +kernel
theorem dJ9_max_7cf53_2 : decode cJ9_max_7cf53 2 = .ok (.if_icmp .lt 7, 3) := by decide +kernel
theorem dJ9_max_7cf53_5 : decode cJ9_max_7cf53 5 = .ok (.iload_n 0, 1) := by decide +kernel
theorem dJ9_max_7cf53_6 : decode cJ9_max_7cf53 6 = .ok (.goto 4, 3) := by decide +kernel
theorem dJ9_max_7cf53_9 : decode cJ9_max_7cf53 9 = .ok (.iload_n 1, 1) := by decide +kernel
theorem dJ9_max_7cf53_10 : decode cJ9_max_7cf53 10 = .ok (.ireturn, 1) := by decide +kernel
theorem dJ9_max_f86c9_0 : decode cJ9_max_f86c9 0 = .ok (.lload_n 0, 1) := by decide +kernel
theorem dJ9_max_f86c9_1 : decode cJ9_max_f86c9 1 = .ok (.lload_n 2, 1) := by decide +kernel
theorem dJ9_max_f86c9_2 : decode cJ9_max_f86c9 2 = .ok (.lcmp, 1) := by decide +kernel
theorem dJ9_max_f86c9_3 : decode cJ9_max_f86c9 3 = .ok (.ifCond .lt 7, 3) := by decide +kernel
theorem dJ9_max_f86c9_6 : decode cJ9_max_f86c9 6 = .ok (.lload_n 0, 1) := by decide +kernel
theorem dJ9_max_f86c9_7 : decode cJ9_max_f86c9 7 = .ok (.goto 4, 3) := by decide +kernel
theorem dJ9_max_f86c9_10 : decode cJ9_max_f86c9 10 = .ok (.lload_n 2, 1) := by decide +kernel
theorem dJ9_max_f86c9_11 : decode cJ9_max_f86c9 11 = .ok (.lreturn, 1) := by decide +kernel
theorem dJ9_min_7cf53_0 : decode cJ9_min_7cf53 0 = .ok (.iload_n 0, 1) := by decide +kernel
theorem dJ9_min_7cf53_1 : decode cJ9_min_7cf53 1 = .ok (.iload_n 1, 1) := by decide +kernel
theorem dJ9_min_7cf53_2 : decode cJ9_min_7cf53 2 = .ok (.if_icmp .gt 7, 3) := by decide +kernel
theorem dJ9_min_7cf53_5 : decode cJ9_min_7cf53 5 = .ok (.iload_n 0, 1) := by decide +kernel
theorem dJ9_min_7cf53_6 : decode cJ9_min_7cf53 6 = .ok (.goto 4, 3) := by decide +kernel
theorem dJ9_min_7cf53_9 : decode cJ9_min_7cf53 9 = .ok (.iload_n 1, 1) := by decide +kernel
theorem dJ9_min_7cf53_10 : decode cJ9_min_7cf53 10 = .ok (.ireturn, 1) := by decide +kernel
theorem dJ9_min_f86c9_0 : decode cJ9_min_f86c9 0 = .ok (.lload_n 0, 1) := by decide +kernel
theorem dJ9_min_f86c9_1 : decode cJ9_min_f86c9 1 = .ok (.lload_n 2, 1) := by decide +kernel
theorem dJ9_min_f86c9_2 : decode cJ9_min_f86c9 2 = .ok (.lcmp, 1) := by decide +kernel
theorem dJ9_min_f86c9_3 : decode cJ9_min_f86c9 3 = .ok (.ifCond .gt 7, 3) := by decide +kernel
theorem dJ9_min_f86c9_6 : decode cJ9_min_f86c9 6 = .ok (.lload_n 0, 1) := by decide +kernel
theorem dJ9_min_f86c9_7 : decode cJ9_min_f86c9 7 = .ok (.goto 4, 3) := by decide +kernel
theorem dJ9_min_f86c9_10 : decode cJ9_min_f86c9 10 = .ok (.lload_n 2, 1) := by decide +kernel
theorem dJ9_min_f86c9_11 : decode cJ9_min_f86c9 11 = .ok (.lreturn, 1) := by decide +kernel
theorem dJ0_length_8abf5_0 : decode cJ0_length_8abf5 0 = .ok (.aload_n 0, 1) := by decide +kernel
theorem dJ0_length_8abf5_1 : decode cJ0_length_8abf5 1 = .ok (.getfield 9, 3) := by decide +kernel
theorem dJ0_length_8abf5_4 : decode cJ0_length_8abf5 4 = .ok (.arraylength, 1) := by decide +kernel
theorem dJ0_length_8abf5_5 : decode cJ0_length_8abf5 5 = .ok (.aload_n 0, 1) := by decide +kernel
theorem dJ0_length_8abf5_6 : decode cJ0_length_8abf5 6 = .ok (.invokevirtual 335, 3) := by decide +kernel
theorem dJ0_length_8abf5_9 : decode cJ0_length_8abf5 9 = .ok (.ishr, 1) := by decide +kernel
theorem dJ0_length_8abf5_10 : decode cJ0_length_8abf5 10 = .ok (.ireturn, 1) := by decide +kernel
theorem dJ0_charAt_5068e_0 : decode cJ0_charAt_5068e 0 = .ok (.aload_n 0, 1) := by decide +kernel
theorem dJ0_charAt_5068e_1 : decode cJ0_charAt_5068e 1 = .ok (.invokevirtual 492, 3) := by decide +kernel
theorem dJ0_charAt_5068e_4 : decode cJ0_charAt_5068e 4 = .ok (.ifCond .eq 12, 3) := by decide +kernel
theorem dJ0_charAt_5068e_7 : decode cJ0_charAt_5068e 7 = .ok (.aload_n 0, 1) := by decide +kernel
theorem dJ0_charAt_5068e_8 : decode cJ0_charAt_5068e 8 = .ok (.getfield 9, 3) := by decide +kernel
theorem dJ0_charAt_5068e_11 : decode cJ0_charAt_5068e 11 = .ok (.iload_n 1, 1) := by decide +kernel
theorem dJ0_charAt_5068e_12 : decode cJ0_charAt_5068e 12 = .ok (.invokestatic 495, 3) := by decide +kernel
theorem dJ0_charAt_5068e_15 : decode cJ0_charAt_5068e 15 = .ok (.ireturn, 1) := by decide +kernel
theorem dJ0_charAt_5068e_16 : decode cJ0_charAt_5068e 16 = .ok (.aload_n 0, 1) := by decide +kernel
theorem dJ0_charAt_5068e_17 : decode cJ0_charAt_5068e 17 = .ok (.getfield 9, 3) := by decide +kernel
theorem dJ0_charAt_5068e_20 : decode cJ0_charAt_5068e 20 = .ok (.iload_n 1, 1) := by decide +kernel
theorem dJ0_charAt_5068e_21 : decode cJ0_charAt_5068e 21 = .ok (.invokestatic 498, 3) := by decide +kernel
theorem dJ0_charAt_5068e_24 : decode cJ0_charAt_5068e 24 = .ok (.ireturn, 1) := by decide +kernel
theorem dJ0_coder_7d493_0 : decode cJ0_coder_7d493 0 = .ok (.getstatic 38, 3) := by decide +kernel
theorem dJ0_coder_7d493_3 : decode cJ0_coder_7d493 3 = .ok (.ifCond .eq 10, 3) := by decide +kernel
theorem dJ0_coder_7d493_6 : decode cJ0_coder_7d493 6 = .ok (.aload_n 0, 1) := by decide +kernel
theorem dJ0_coder_7d493_7 : decode cJ0_coder_7d493 7 = .ok (.getfield 15, 3) := by decide +kernel
theorem dJ0_coder_7d493_10 : decode cJ0_coder_7d493 10 = .ok (.goto 4, 3) := by decide +kernel
theorem dJ0_coder_7d493_13 : decode cJ0_coder_7d493 13 = .ok (.iconst 1, 1) := by decide +kernel
theorem dJ0_coder_7d493_14 : decode cJ0_coder_7d493 14 = .ok (.ireturn, 1) := by decide +kernel
theorem dJ0_isLatin1_aae02_0 : decode cJ0_isLatin1_aae02 0 = .ok (.getstatic 38, 3) := by decide +kernel
theorem dJ0_isLatin1_aae02_3 : decode cJ0_isLatin1_aae02 3 = .ok (.ifCond .eq 14, 3) := by decide +kernel
theorem dJ0_isLatin1_aae02_6 : decode cJ0_isLatin1_aae02 6 = .ok (.aload_n 0, 1) := by decide +kernel
theorem dJ0_isLatin1_aae02_7 : decode cJ0_isLatin1_aae02 7 = .ok (.getfield 15, 3) := by decide +kernel
theorem dJ0_isLatin1_aae02_10 : decode cJ0_isLatin1_aae02 10 = .ok (.ifCond .ne 7, 3) := by decide +kernel
theorem dJ0_isLatin1_aae02_13 : decode cJ0_isLatin1_aae02 13 = .ok (.iconst 1, 1) := by decide +kernel
theorem dJ0_isLatin1_aae02_14 : decode cJ0_isLatin1_aae02 14 = .ok (.goto 4, 3) := by decide +kernel
theorem dJ0_isLatin1_aae02_17 : decode cJ0_isLatin1_aae02 17 = .ok (.iconst 0, 1) := by decide +kernel
theorem dJ0_isLatin1_aae02_18 : decode cJ0_isLatin1_aae02 18 = .ok (.ireturn, 1) := by decide +kernel
theorem dJ0_checkIndex_df160_0 : decode cJ0_checkIndex_df160 0 = .ok (.iload_n 0, 1) := by decide +kernel
theorem dJ0_checkIndex_df160_1 : decode cJ0_checkIndex_df160 1 = .ok (.iload_n 1, 1) := by decide +kernel
theorem dJ0_checkIndex_df160_2 : decode cJ0_checkIndex_df160 2 = .ok (.getstatic 1053, 3) := by decide +kernel
theorem dJ0_checkIndex_df160_5 : decode cJ0_checkIndex_df160 5 = .ok (.invokestatic 1059, 3) := by decide +kernel
theorem dJ0_checkIndex_df160_8 : decode cJ0_checkIndex_df160 8 = .ok (.pop, 1) := by decide +kernel
theorem dJ0_checkIndex_df160_9 : decode cJ0_checkIndex_df160 9 = .ok (.return_, 1) := by decide +kernel
theorem dJ1_charAt_3b067_0 : decode cJ1_charAt_3b067 0 = .ok (.iload_n 1, 1) := by decide +kernel
theorem dJ1_charAt_3b067_1 : decode cJ1_charAt_3b067 1 = .ok (.aload_n 0, 1) := by decide +kernel
theorem dJ1_charAt_3b067_2 : decode cJ1_charAt_3b067 2 = .ok (.arraylength, 1) := by decide +kernel
theorem dJ1_charAt_3b067_3 : decode cJ1_charAt_3b067 3 = .ok (.invokestatic 9, 3) := by decide +kernel
theorem dJ1_charAt_3b067_6 : decode cJ1_charAt_3b067 6 = .ok (.aload_n 0, 1) := by decide +kernel
theorem dJ1_charAt_3b067_7 : decode cJ1_charAt_3b067 7 = .ok (.iload_n 1, 1) := by decide +kernel
theorem dJ1_charAt_3b067_8 : decode cJ1_charAt_3b067 8 = .ok (.baload, 1) := by decide +kernel
theorem dJ1_charAt_3b067_9 : decode cJ1_charAt_3b067 9 = .ok (.sipush 255, 3) := by decide +kernel
theorem dJ1_charAt_3b067_12 : decode cJ1_charAt_3b067 12 = .ok (.iand, 1) := by decide +kernel
theorem dJ1_charAt_3b067_13 : decode cJ1_charAt_3b067 13 = .ok (.i2c, 1) := by decide +kernel
theorem dJ1_charAt_3b067_14 : decode cJ1_charAt_3b067 14 = .ok (.ireturn, 1) := by decide +kernel
theorem dJ7_fill_d0a16_0 : decode cJ7_fill_d0a16 0 = .ok (.iconst 0, 1) := by decide +kernel
theorem dJ7_fill_d0a16_1 : decode cJ7_fill_d0a16 1 = .ok (.istore_n 3, 1) := by decide +kernel
theorem dJ7_fill_d0a16_2 : decode cJ7_fill_d0a16 2 = .ok (.aload_n 0, 1) := by decide +kernel
theorem dJ7_fill_d0a16_3 : decode cJ7_fill_d0a16 3 = .ok (.arraylength, 1) := by decide +kernel
theorem dJ7_fill_d0a16_4 : decode cJ7_fill_d0a16 4 = .ok (.istore 4, 2) := by decide +kernel
theorem dJ7_fill_d0a16_6 : decode cJ7_fill_d0a16 6 = .ok (.iload_n 3, 1) := by decide +kernel
theorem dJ7_fill_d0a16_7 : decode cJ7_fill_d0a16 7 = .ok (.iload 4, 2) := by decide +kernel
theorem dJ7_fill_d0a16_9 : decode cJ7_fill_d0a16 9 = .ok (.if_icmp .ge 13, 3) := by decide +kernel
theorem dJ7_fill_d0a16_12 : decode cJ7_fill_d0a16 12 = .ok (.aload_n 0, 1) := by decide +kernel
theorem dJ7_fill_d0a16_13 : decode cJ7_fill_d0a16 13 = .ok (.iload_n 3, 1) := by decide +kernel
theorem dJ7_fill_d0a16_14 : decode cJ7_fill_d0a16 14 = .ok (.lload_n 1, 1) := by decide +kernel
theorem dJ7_fill_d0a16_15 : decode cJ7_fill_d0a16 15 = .ok (.lastore, 1) := by decide +kernel
theorem dJ7_fill_d0a16_16 : decode cJ7_fill_d0a16 16 = .ok (.iinc 3 1, 3) := by decide +kernel
theorem dJ7_fill_d0a16_19 : decode cJ7_fill_d0a16 19 = .ok (.goto (-13), 3) := by decide +kernel
theorem dJ7_fill_d0a16_22 : decode cJ7_fill_d0a16 22 = .ok (.return_, 1) := by decide +kernel
theorem dJ7_fill_53178_0 : decode cJ7_fill_53178 0 = .ok (.iconst 0, 1) := by decide +kernel
theorem dJ7_fill_53178_1 : decode cJ7_fill_53178 1 = .ok (.istore_n 2, 1) := by decide +kernel
theorem dJ7_fill_53178_2 : decode cJ7_fill_53178 2 = .ok (.aload_n 0, 1) := by decide +kernel
theorem dJ7_fill_53178_3 : decode cJ7_fill_53178 3 = .ok (.arraylength, 1) := by decide +kernel
theorem dJ7_fill_53178_4 : decode cJ7_fill_53178 4 = .ok (.istore_n 3, 1) := by decide +kernel
theorem dJ7_fill_53178_5 : decode cJ7_fill_53178 5 = .ok (.iload_n 2, 1) := by decide +kernel
theorem dJ7_fill_53178_6 : decode cJ7_fill_53178 6 = .ok (.iload_n 3, 1) := by decide +kernel
theorem dJ7_fill_53178_7 : decode cJ7_fill_53178 7 = .ok (.if_icmp .ge 13, 3) := by decide +kernel
theorem dJ7_fill_53178_10 : decode cJ7_fill_53178 10 = .ok (.aload_n 0, 1) := by decide +kernel
theorem dJ7_fill_53178_11 : decode cJ7_fill_53178 11 = .ok (.iload_n 2, 1) := by decide +kernel
theorem dJ7_fill_53178_12 : decode cJ7_fill_53178 12 = .ok (.iload_n 1, 1) := by decide +kernel
theorem dJ7_fill_53178_13 : decode cJ7_fill_53178 13 = .ok (.iastore, 1) := by decide +kernel
theorem dJ7_fill_53178_14 : decode cJ7_fill_53178 14 = .ok (.iinc 2 1, 3) := by decide +kernel
theorem dJ7_fill_53178_17 : decode cJ7_fill_53178 17 = .ok (.goto (-12), 3) := by decide +kernel
theorem dJ7_fill_53178_20 : decode cJ7_fill_53178 20 = .ok (.return_, 1) := by decide +kernel
theorem dJ3_checkIndex_8e157_0 : decode cJ3_checkIndex_8e157 0 = .ok (.iload_n 0, 1) := by decide +kernel
theorem dJ3_checkIndex_8e157_1 : decode cJ3_checkIndex_8e157 1 = .ok (.ifCond .lt 8, 3) := by decide +kernel
theorem dJ3_checkIndex_8e157_4 : decode cJ3_checkIndex_8e157 4 = .ok (.iload_n 0, 1) := by decide +kernel
theorem dJ3_checkIndex_8e157_5 : decode cJ3_checkIndex_8e157 5 = .ok (.iload_n 1, 1) := by decide +kernel
theorem dJ3_checkIndex_8e157_6 : decode cJ3_checkIndex_8e157 6 = .ok (.if_icmp .lt 10, 3) := by decide +kernel
theorem dJ3_checkIndex_8e157_9 : decode cJ3_checkIndex_8e157 9 = .ok (.aload_n 2, 1) := by decide +kernel
theorem dJ3_checkIndex_8e157_10 : decode cJ3_checkIndex_8e157 10 = .ok (.iload_n 0, 1) := by decide +kernel
theorem dJ3_checkIndex_8e157_11 : decode cJ3_checkIndex_8e157 11 = .ok (.iload_n 1, 1) := by decide +kernel
theorem dJ3_checkIndex_8e157_12 : decode cJ3_checkIndex_8e157 12 = .ok (.invokestatic 95, 3) := by decide +kernel
theorem dJ3_checkIndex_8e157_15 : decode cJ3_checkIndex_8e157 15 = .ok (.athrow, 1) := by decide +kernel
theorem dJ3_checkIndex_8e157_16 : decode cJ3_checkIndex_8e157 16 = .ok (.iload_n 0, 1) := by decide +kernel
theorem dJ3_checkIndex_8e157_17 : decode cJ3_checkIndex_8e157 17 = .ok (.ireturn, 1) := by decide +kernel

theorem dX5_init_0 : decode cX5_init 0 = .ok (.aload_n 0, 1) := by decide +kernel
theorem dX5_init_1 : decode cX5_init 1 = .ok (.invokespecial 3, 3) := by decide +kernel
theorem dX5_init_4 : decode cX5_init 4 = .ok (.aload_n 0, 1) := by decide +kernel
theorem dX5_init_5 : decode cX5_init 5 = .ok (.bipush 16, 2) := by decide +kernel
theorem dX5_init_7 : decode cX5_init 7 = .ok (.newarray .int, 2) := by decide +kernel
theorem dX5_init_9 : decode cX5_init 9 = .ok (.putfield 9, 3) := by decide +kernel
theorem dX5_init_12 : decode cX5_init 12 = .ok (.aload_n 0, 1) := by decide +kernel
theorem dX5_init_13 : decode cX5_init 13 = .ok (.aload_n 1, 1) := by decide +kernel
theorem dX5_init_14 : decode cX5_init 14 = .ok (.putfield 15, 3) := by decide +kernel
theorem dX5_init_17 : decode cX5_init 17 = .ok (.aload_n 0, 1) := by decide +kernel
theorem dX5_init_18 : decode cX5_init 18 = .ok (.aload_n 2, 1) := by decide +kernel
theorem dX5_init_19 : decode cX5_init 19 = .ok (.putfield 19, 3) := by decide +kernel
theorem dX5_init_22 : decode cX5_init 22 = .ok (.aload_n 0, 1) := by decide +kernel
theorem dX5_init_23 : decode cX5_init 23 = .ok (.iconst 1, 1) := by decide +kernel
theorem dX5_init_24 : decode cX5_init 24 = .ok (.aload_n 1, 1) := by decide +kernel
theorem dX5_init_25 : decode cX5_init 25 = .ok (.getfield 23, 3) := by decide +kernel
theorem dX5_init_28 : decode cX5_init 28 = .ok (.iconst 1, 1) := by decide +kernel
theorem dX5_init_29 : decode cX5_init 29 = .ok (.iadd, 1) := by decide +kernel
theorem dX5_init_30 : decode cX5_init 30 = .ok (.ishl, 1) := by decide +kernel
theorem dX5_init_31 : decode cX5_init 31 = .ok (.iconst 1, 1) := by decide +kernel
theorem dX5_init_32 : decode cX5_init 32 = .ok (.isub, 1) := by decide +kernel
theorem dX5_init_33 : decode cX5_init 33 = .ok (.putfield 29, 3) := by decide +kernel
theorem dX5_init_36 : decode cX5_init 36 = .ok (.aload_n 0, 1) := by decide +kernel
theorem dX5_init_37 : decode cX5_init 37 = .ok (.bipush 9, 2) := by decide +kernel
theorem dX5_init_39 : decode cX5_init 39 = .ok (.aload_n 1, 1) := by decide +kernel
theorem dX5_init_40 : decode cX5_init 40 = .ok (.getfield 32, 3) := by decide +kernel
theorem dX5_init_43 : decode cX5_init 43 = .ok (.multianewarray 35 2, 4) := by decide +kernel
theorem dX5_init_47 : decode cX5_init 47 = .ok (.putfield 37, 3) := by decide +kernel
theorem dX5_init_50 : decode cX5_init 50 = .ok (.aload_n 0, 1) := by decide +kernel
theorem dX5_init_51 : decode cX5_init 51 = .ok (.aload_n 1, 1) := by decide +kernel
theorem dX5_init_52 : decode cX5_init 52 = .ok (.getfield 32, 3) := by decide +kernel
theorem dX5_init_55 : decode cX5_init 55 = .ok (.newarray .int, 2) := by decide +kernel
theorem dX5_init_57 : decode cX5_init 57 = .ok (.putfield 40, 3) := by decide +kernel
theorem dX5_init_60 : decode cX5_init 60 = .ok (.return_, 1) := by decide +kernel
theorem dX5_trace_0 : decode cX5_trace 0 = .ok (.iload_n 3, 1) := by decide +kernel
theorem dX5_trace_1 : decode cX5_trace 1 = .ok (.bipush 8, 2) := by decide +kernel
theorem dX5_trace_3 : decode cX5_trace 3 = .ok (.invokestatic 43, 3) := by decide +kernel
theorem dX5_trace_6 : decode cX5_trace 6 = .ok (.istore 4, 2) := by decide +kernel
theorem dX5_trace_8 : decode cX5_trace 8 = .ok (.iload 4, 2) := by decide +kernel
theorem dX5_trace_10 : decode cX5_trace 10 = .ok (.ifCond .lt 77, 3) := by decide +kernel
theorem dX5_trace_13 : decode cX5_trace 13 = .ok (.iconst 0, 1) := by decide +kernel
theorem dX5_trace_14 : decode cX5_trace 14 = .ok (.istore 5, 2) := by decide +kernel
theorem dX5_trace_16 : decode cX5_trace 16 = .ok (.iload 5, 2) := by decide +kernel
theorem dX5_trace_18 : decode cX5_trace 18 = .ok (.aload_n 0, 1) := by decide +kernel
theorem dX5_trace_19 : decode cX5_trace 19 = .ok (.getfield 15, 3) := by decide +kernel
theorem dX5_trace_22 : decode cX5_trace 22 = .ok (.getfield 32, 3) := by decide +kernel
theorem dX5_trace_25 : decode cX5_trace 25 = .ok (.if_icmp .ge 37, 3) := by decide +kernel
theorem dX5_trace_28 : decode cX5_trace 28 = .ok (.aload_n 0, 1) := by decide +kernel
theorem dX5_trace_29 : decode cX5_trace 29 = .ok (.getfield 37, 3) := by decide +kernel
theorem dX5_trace_32 : decode cX5_trace 32 = .ok (.iload 4, 2) := by decide +kernel
theorem dX5_trace_34 : decode cX5_trace 34 = .ok (.aaload, 1) := by decide +kernel
theorem dX5_trace_35 : decode cX5_trace 35 = .ok (.iload 5, 2) := by decide +kernel
theorem dX5_trace_37 : decode cX5_trace 37 = .ok (.iload 4, 2) := by decide +kernel
theorem dX5_trace_39 : decode cX5_trace 39 = .ok (.iload_n 3, 1) := by decide +kernel
theorem dX5_trace_40 : decode cX5_trace 40 = .ok (.if_icmp .lt 7, 3) := by decide +kernel
theorem dX5_trace_43 : decode cX5_trace 43 = .ok (.iconst 0, 1) := by decide +kernel
theorem dX5_trace_44 : decode cX5_trace 44 = .ok (.goto 11, 3) := by decide +kernel
theorem dX5_trace_47 : decode cX5_trace 47 = .ok (.aload_n 0, 1) := by decide +kernel
theorem dX5_trace_48 : decode cX5_trace 48 = .ok (.iload 4, 2) := by decide +kernel
theorem dX5_trace_50 : decode cX5_trace 50 = .ok (.iload 5, 2) := by decide +kernel
theorem dX5_trace_52 : decode cX5_trace 52 = .ok (.invokevirtual 49, 3) := by decide +kernel
theorem dX5_trace_55 : decode cX5_trace 55 = .ok (.iastore, 1) := by decide +kernel
theorem dX5_trace_56 : decode cX5_trace 56 = .ok (.iinc 5 1, 3) := by decide +kernel
theorem dX5_trace_59 : decode cX5_trace 59 = .ok (.goto (-43), 3) := by decide +kernel
theorem dX5_trace_62 : decode cX5_trace 62 = .ok (.iload 4, 2) := by decide +kernel
theorem dX5_trace_64 : decode cX5_trace 64 = .ok (.iload_n 2, 1) := by decide +kernel
theorem dX5_trace_65 : decode cX5_trace 65 = .ok (.if_icmp .lt 16, 3) := by decide +kernel
theorem dX5_trace_68 : decode cX5_trace 68 = .ok (.aload_n 0, 1) := by decide +kernel
theorem dX5_trace_69 : decode cX5_trace 69 = .ok (.getfield 37, 3) := by decide +kernel
theorem dX5_trace_72 : decode cX5_trace 72 = .ok (.iload 4, 2) := by decide +kernel
theorem dX5_trace_74 : decode cX5_trace 74 = .ok (.aaload, 1) := by decide +kernel
theorem dX5_trace_75 : decode cX5_trace 75 = .ok (.iload_n 1, 1) := by decide +kernel
theorem dX5_trace_76 : decode cX5_trace 76 = .ok (.aload_n 0, 1) := by decide +kernel
theorem dX5_trace_77 : decode cX5_trace 77 = .ok (.getfield 29, 3) := by decide +kernel
theorem dX5_trace_80 : decode cX5_trace 80 = .ok (.iastore, 1) := by decide +kernel
theorem dX5_trace_81 : decode cX5_trace 81 = .ok (.iinc 4 (-1), 3) := by decide +kernel
theorem dX5_trace_84 : decode cX5_trace 84 = .ok (.goto (-76), 3) := by decide +kernel
theorem dX5_trace_87 : decode cX5_trace 87 = .ok (.return_, 1) := by decide +kernel
theorem dX5_openBehind_0 : decode cX5_openBehind 0 = .ok (.aload_n 0, 1) := by decide +kernel
theorem dX5_openBehind_1 : decode cX5_openBehind 1 = .ok (.getfield 37, 3) := by decide +kernel
theorem dX5_openBehind_4 : decode cX5_openBehind 4 = .ok (.iload_n 1, 1) := by decide +kernel
theorem dX5_openBehind_5 : decode cX5_openBehind 5 = .ok (.iconst 1, 1) := by decide +kernel
theorem dX5_openBehind_6 : decode cX5_openBehind 6 = .ok (.iadd, 1) := by decide +kernel
theorem dX5_openBehind_7 : decode cX5_openBehind 7 = .ok (.aaload, 1) := by decide +kernel
theorem dX5_openBehind_8 : decode cX5_openBehind 8 = .ok (.astore_n 3, 1) := by decide +kernel
theorem dX5_openBehind_9 : decode cX5_openBehind 9 = .ok (.iconst 0, 1) := by decide +kernel
theorem dX5_openBehind_10 : decode cX5_openBehind 10 = .ok (.istore 4, 2) := by decide +kernel
theorem dX5_openBehind_12 : decode cX5_openBehind 12 = .ok (.iconst 0, 1) := by decide +kernel
theorem dX5_openBehind_13 : decode cX5_openBehind 13 = .ok (.istore 5, 2) := by decide +kernel
theorem dX5_openBehind_15 : decode cX5_openBehind 15 = .ok (.iload 5, 2) := by decide +kernel
theorem dX5_openBehind_17 : decode cX5_openBehind 17 = .ok (.aload_n 0, 1) := by decide +kernel
theorem dX5_openBehind_18 : decode cX5_openBehind 18 = .ok (.getfield 15, 3) := by decide +kernel
theorem dX5_openBehind_21 : decode cX5_openBehind 21 = .ok (.getfield 23, 3) := by decide +kernel
theorem dX5_openBehind_24 : decode cX5_openBehind 24 = .ok (.if_icmp .ge 126, 3) := by decide +kernel
theorem dX5_openBehind_27 : decode cX5_openBehind 27 = .ok (.aload_n 0, 1) := by decide +kernel
theorem dX5_openBehind_28 : decode cX5_openBehind 28 = .ok (.getfield 15, 3) := by decide +kernel
theorem dX5_openBehind_31 : decode cX5_openBehind 31 = .ok (.iload_n 2, 1) := by decide +kernel
theorem dX5_openBehind_32 : decode cX5_openBehind 32 = .ok (.iload 5, 2) := by decide +kernel
theorem dX5_openBehind_34 : decode cX5_openBehind 34 = .ok (.invokevirtual 52, 3) := by decide +kernel
theorem dX5_openBehind_37 : decode cX5_openBehind 37 = .ok (.istore 6, 2) := by decide +kernel
theorem dX5_openBehind_39 : decode cX5_openBehind 39 = .ok (.aload_n 0, 1) := by decide +kernel
theorem dX5_openBehind_40 : decode cX5_openBehind 40 = .ok (.getfield 19, 3) := by decide +kernel
theorem dX5_openBehind_43 : decode cX5_openBehind 43 = .ok (.iload_n 1, 1) := by decide +kernel
theorem dX5_openBehind_44 : decode cX5_openBehind 44 = .ok (.iload 5, 2) := by decide +kernel
theorem dX5_openBehind_46 : decode cX5_openBehind 46 = .ok (.iload 6, 2) := by decide +kernel
theorem dX5_openBehind_48 : decode cX5_openBehind 48 = .ok (.invokevirtual 55, 3) := by decide +kernel
theorem dX5_openBehind_51 : decode cX5_openBehind 51 = .ok (.istore 7, 2) := by decide +kernel
theorem dX5_openBehind_53 : decode cX5_openBehind 53 = .ok (.aload_n 0, 1) := by decide +kernel
theorem dX5_openBehind_54 : decode cX5_openBehind 54 = .ok (.getfield 15, 3) := by decide +kernel
theorem dX5_openBehind_57 : decode cX5_openBehind 57 = .ok (.iload_n 2, 1) := by decide +kernel
theorem dX5_openBehind_58 : decode cX5_openBehind 58 = .ok (.iload 5, 2) := by decide +kernel
theorem dX5_openBehind_60 : decode cX5_openBehind 60 = .ok (.invokevirtual 61, 3) := by decide +kernel
theorem dX5_openBehind_63 : decode cX5_openBehind 63 = .ok (.istore 8, 2) := by decide +kernel
theorem dX5_openBehind_65 : decode cX5_openBehind 65 = .ok (.iconst 1, 1) := by decide +kernel
theorem dX5_openBehind_66 : decode cX5_openBehind 66 = .ok (.iload 5, 2) := by decide +kernel
theorem dX5_openBehind_68 : decode cX5_openBehind 68 = .ok (.iconst 1, 1) := by decide +kernel
theorem dX5_openBehind_69 : decode cX5_openBehind 69 = .ok (.iadd, 1) := by decide +kernel
theorem dX5_openBehind_70 : decode cX5_openBehind 70 = .ok (.ishl, 1) := by decide +kernel
theorem dX5_openBehind_71 : decode cX5_openBehind 71 = .ok (.istore 9, 2) := by decide +kernel
theorem dX5_openBehind_73 : decode cX5_openBehind 73 = .ok (.iconst 0, 1) := by decide +kernel
theorem dX5_openBehind_74 : decode cX5_openBehind 74 = .ok (.istore 10, 2) := by decide +kernel
theorem dX5_openBehind_76 : decode cX5_openBehind 76 = .ok (.iload 10, 2) := by decide +kernel
theorem dX5_openBehind_78 : decode cX5_openBehind 78 = .ok (.aload_n 0, 1) := by decide +kernel
theorem dX5_openBehind_79 : decode cX5_openBehind 79 = .ok (.getfield 15, 3) := by decide +kernel
theorem dX5_openBehind_82 : decode cX5_openBehind 82 = .ok (.getfield 64, 3) := by decide +kernel
theorem dX5_openBehind_85 : decode cX5_openBehind 85 = .ok (.if_icmp .ge 59, 3) := by decide +kernel
theorem dX5_openBehind_88 : decode cX5_openBehind 88 = .ok (.iload 10, 2) := by decide +kernel
theorem dX5_openBehind_90 : decode cX5_openBehind 90 = .ok (.iload 6, 2) := by decide +kernel
theorem dX5_openBehind_92 : decode cX5_openBehind 92 = .ok (.if_icmp .eq 31, 3) := by decide +kernel
theorem dX5_openBehind_95 : decode cX5_openBehind 95 = .ok (.aload_n 3, 1) := by decide +kernel
theorem dX5_openBehind_96 : decode cX5_openBehind 96 = .ok (.iload 8, 2) := by decide +kernel
theorem dX5_openBehind_98 : decode cX5_openBehind 98 = .ok (.iaload, 1) := by decide +kernel
theorem dX5_openBehind_99 : decode cX5_openBehind 99 = .ok (.iload 9, 2) := by decide +kernel
theorem dX5_openBehind_101 : decode cX5_openBehind 101 = .ok (.iand, 1) := by decide +kernel
theorem dX5_openBehind_102 : decode cX5_openBehind 102 = .ok (.ifCond .eq 21, 3) := by decide +kernel
theorem dX5_openBehind_105 : decode cX5_openBehind 105 = .ok (.iload 4, 2) := by decide +kernel
theorem dX5_openBehind_107 : decode cX5_openBehind 107 = .ok (.aload_n 0, 1) := by decide +kernel
theorem dX5_openBehind_108 : decode cX5_openBehind 108 = .ok (.getfield 19, 3) := by decide +kernel
theorem dX5_openBehind_111 : decode cX5_openBehind 111 = .ok (.getfield 67, 3) := by decide +kernel
theorem dX5_openBehind_114 : decode cX5_openBehind 114 = .ok (.iload 7, 2) := by decide +kernel
theorem dX5_openBehind_116 : decode cX5_openBehind 116 = .ok (.iload 10, 2) := by decide +kernel
theorem dX5_openBehind_118 : decode cX5_openBehind 118 = .ok (.iadd, 1) := by decide +kernel
theorem dX5_openBehind_119 : decode cX5_openBehind 119 = .ok (.iaload, 1) := by decide +kernel
theorem dX5_openBehind_120 : decode cX5_openBehind 120 = .ok (.ior, 1) := by decide +kernel
theorem dX5_openBehind_121 : decode cX5_openBehind 121 = .ok (.istore 4, 2) := by decide +kernel
theorem dX5_openBehind_123 : decode cX5_openBehind 123 = .ok (.iload 8, 2) := by decide +kernel
theorem dX5_openBehind_125 : decode cX5_openBehind 125 = .ok (.aload_n 0, 1) := by decide +kernel
theorem dX5_openBehind_126 : decode cX5_openBehind 126 = .ok (.getfield 15, 3) := by decide +kernel
theorem dX5_openBehind_129 : decode cX5_openBehind 129 = .ok (.getfield 70, 3) := by decide +kernel
theorem dX5_openBehind_132 : decode cX5_openBehind 132 = .ok (.iload 5, 2) := by decide +kernel
theorem dX5_openBehind_134 : decode cX5_openBehind 134 = .ok (.iaload, 1) := by decide +kernel
theorem dX5_openBehind_135 : decode cX5_openBehind 135 = .ok (.iadd, 1) := by decide +kernel
theorem dX5_openBehind_136 : decode cX5_openBehind 136 = .ok (.istore 8, 2) := by decide +kernel
theorem dX5_openBehind_138 : decode cX5_openBehind 138 = .ok (.iinc 10 1, 3) := by decide +kernel
theorem dX5_openBehind_141 : decode cX5_openBehind 141 = .ok (.goto (-65), 3) := by decide +kernel
theorem dX5_openBehind_144 : decode cX5_openBehind 144 = .ok (.iinc 5 1, 3) := by decide +kernel
theorem dX5_openBehind_147 : decode cX5_openBehind 147 = .ok (.goto (-132), 3) := by decide +kernel
theorem dX5_openBehind_150 : decode cX5_openBehind 150 = .ok (.iload 4, 2) := by decide +kernel
theorem dX5_openBehind_152 : decode cX5_openBehind 152 = .ok (.ireturn, 1) := by decide +kernel
theorem dX5_leads_0 : decode cX5_leads 0 = .ok (.aload_n 0, 1) := by decide +kernel
theorem dX5_leads_1 : decode cX5_leads 1 = .ok (.getfield 37, 3) := by decide +kernel
theorem dX5_leads_4 : decode cX5_leads 4 = .ok (.iconst 0, 1) := by decide +kernel
theorem dX5_leads_5 : decode cX5_leads 5 = .ok (.aaload, 1) := by decide +kernel
theorem dX5_leads_6 : decode cX5_leads 6 = .ok (.iload_n 1, 1) := by decide +kernel
theorem dX5_leads_7 : decode cX5_leads 7 = .ok (.iaload, 1) := by decide +kernel
theorem dX5_leads_8 : decode cX5_leads 8 = .ok (.iconst 1, 1) := by decide +kernel
theorem dX5_leads_9 : decode cX5_leads 9 = .ok (.iand, 1) := by decide +kernel
theorem dX5_leads_10 : decode cX5_leads 10 = .ok (.ifCond .eq 7, 3) := by decide +kernel
theorem dX5_leads_13 : decode cX5_leads 13 = .ok (.iconst 1, 1) := by decide +kernel
theorem dX5_leads_14 : decode cX5_leads 14 = .ok (.goto 4, 3) := by decide +kernel
theorem dX5_leads_17 : decode cX5_leads 17 = .ok (.iconst 0, 1) := by decide +kernel
theorem dX5_leads_18 : decode cX5_leads 18 = .ok (.ireturn, 1) := by decide +kernel
theorem dX5_firstDeed_0 : decode cX5_firstDeed 0 = .ok (.iload_n 1, 1) := by decide +kernel
theorem dX5_firstDeed_1 : decode cX5_firstDeed 1 = .ok (.istore_n 3, 1) := by decide +kernel
theorem dX5_firstDeed_2 : decode cX5_firstDeed 2 = .ok (.iconst 0, 1) := by decide +kernel
theorem dX5_firstDeed_3 : decode cX5_firstDeed 3 = .ok (.istore 4, 2) := by decide +kernel
theorem dX5_firstDeed_5 : decode cX5_firstDeed 5 = .ok (.iconst (-1), 1) := by decide +kernel
theorem dX5_firstDeed_6 : decode cX5_firstDeed 6 = .ok (.istore 5, 2) := by decide +kernel
theorem dX5_firstDeed_8 : decode cX5_firstDeed 8 = .ok (.iconst 0, 1) := by decide +kernel
theorem dX5_firstDeed_9 : decode cX5_firstDeed 9 = .ok (.istore 6, 2) := by decide +kernel
theorem dX5_firstDeed_11 : decode cX5_firstDeed 11 = .ok (.iload 6, 2) := by decide +kernel
theorem dX5_firstDeed_13 : decode cX5_firstDeed 13 = .ok (.iload_n 2, 1) := by decide +kernel
theorem dX5_firstDeed_14 : decode cX5_firstDeed 14 = .ok (.if_icmp .gt 63, 3) := by decide +kernel
theorem dX5_firstDeed_17 : decode cX5_firstDeed 17 = .ok (.iload 6, 2) := by decide +kernel
theorem dX5_firstDeed_19 : decode cX5_firstDeed 19 = .ok (.bipush 8, 2) := by decide +kernel
theorem dX5_firstDeed_21 : decode cX5_firstDeed 21 = .ok (.if_icmp .ge 56, 3) := by decide +kernel
theorem dX5_firstDeed_24 : decode cX5_firstDeed 24 = .ok (.aload_n 0, 1) := by decide +kernel
theorem dX5_firstDeed_25 : decode cX5_firstDeed 25 = .ok (.iload 6, 2) := by decide +kernel
theorem dX5_firstDeed_27 : decode cX5_firstDeed 27 = .ok (.iload_n 3, 1) := by decide +kernel
theorem dX5_firstDeed_28 : decode cX5_firstDeed 28 = .ok (.iload 4, 2) := by decide +kernel
theorem dX5_firstDeed_30 : decode cX5_firstDeed 30 = .ok (.invokevirtual 73, 3) := by decide +kernel
theorem dX5_firstDeed_33 : decode cX5_firstDeed 33 = .ok (.istore 5, 2) := by decide +kernel
theorem dX5_firstDeed_35 : decode cX5_firstDeed 35 = .ok (.iload 5, 2) := by decide +kernel
theorem dX5_firstDeed_37 : decode cX5_firstDeed 37 = .ok (.iconst (-1), 1) := by decide +kernel
theorem dX5_firstDeed_38 : decode cX5_firstDeed 38 = .ok (.if_icmp .ne 5, 3) := by decide +kernel
theorem dX5_firstDeed_41 : decode cX5_firstDeed 41 = .ok (.iconst (-1), 1) := by decide +kernel
theorem dX5_firstDeed_42 : decode cX5_firstDeed 42 = .ok (.ireturn, 1) := by decide +kernel
theorem dX5_firstDeed_43 : decode cX5_firstDeed 43 = .ok (.aload_n 0, 1) := by decide +kernel
theorem dX5_firstDeed_44 : decode cX5_firstDeed 44 = .ok (.getfield 15, 3) := by decide +kernel
theorem dX5_firstDeed_47 : decode cX5_firstDeed 47 = .ok (.iload_n 3, 1) := by decide +kernel
theorem dX5_firstDeed_48 : decode cX5_firstDeed 48 = .ok (.iload 5, 2) := by decide +kernel
theorem dX5_firstDeed_50 : decode cX5_firstDeed 50 = .ok (.bipush 10, 2) := by decide +kernel
theorem dX5_firstDeed_52 : decode cX5_firstDeed 52 = .ok (.idiv, 1) := by decide +kernel
theorem dX5_firstDeed_53 : decode cX5_firstDeed 53 = .ok (.iload 5, 2) := by decide +kernel
theorem dX5_firstDeed_55 : decode cX5_firstDeed 55 = .ok (.bipush 10, 2) := by decide +kernel
theorem dX5_firstDeed_57 : decode cX5_firstDeed 57 = .ok (.irem, 1) := by decide +kernel
theorem dX5_firstDeed_58 : decode cX5_firstDeed 58 = .ok (.invokevirtual 76, 3) := by decide +kernel
theorem dX5_firstDeed_61 : decode cX5_firstDeed 61 = .ok (.istore_n 3, 1) := by decide +kernel
theorem dX5_firstDeed_62 : decode cX5_firstDeed 62 = .ok (.iload 5, 2) := by decide +kernel
theorem dX5_firstDeed_64 : decode cX5_firstDeed 64 = .ok (.bipush 10, 2) := by decide +kernel
theorem dX5_firstDeed_66 : decode cX5_firstDeed 66 = .ok (.idiv, 1) := by decide +kernel
theorem dX5_firstDeed_67 : decode cX5_firstDeed 67 = .ok (.iconst 1, 1) := by decide +kernel
theorem dX5_firstDeed_68 : decode cX5_firstDeed 68 = .ok (.iadd, 1) := by decide +kernel
theorem dX5_firstDeed_69 : decode cX5_firstDeed 69 = .ok (.istore 4, 2) := by decide +kernel
theorem dX5_firstDeed_71 : decode cX5_firstDeed 71 = .ok (.iinc 6 1, 3) := by decide +kernel
theorem dX5_firstDeed_74 : decode cX5_firstDeed 74 = .ok (.goto (-63), 3) := by decide +kernel
theorem dX5_firstDeed_77 : decode cX5_firstDeed 77 = .ok (.iload 5, 2) := by decide +kernel
theorem dX5_firstDeed_79 : decode cX5_firstDeed 79 = .ok (.ireturn, 1) := by decide +kernel
theorem dX5_deedOf_0 : decode cX5_deedOf 0 = .ok (.aload_n 0, 1) := by decide +kernel
theorem dX5_deedOf_1 : decode cX5_deedOf 1 = .ok (.getfield 37, 3) := by decide +kernel
theorem dX5_deedOf_4 : decode cX5_deedOf 4 = .ok (.iload_n 1, 1) := by decide +kernel
theorem dX5_deedOf_5 : decode cX5_deedOf 5 = .ok (.iconst 1, 1) := by decide +kernel
theorem dX5_deedOf_6 : decode cX5_deedOf 6 = .ok (.iadd, 1) := by decide +kernel
theorem dX5_deedOf_7 : decode cX5_deedOf 7 = .ok (.aaload, 1) := by decide +kernel
theorem dX5_deedOf_8 : decode cX5_deedOf 8 = .ok (.astore 4, 2) := by decide +kernel
theorem dX5_deedOf_10 : decode cX5_deedOf 10 = .ok (.iconst 0, 1) := by decide +kernel
theorem dX5_deedOf_11 : decode cX5_deedOf 11 = .ok (.istore 5, 2) := by decide +kernel
theorem dX5_deedOf_13 : decode cX5_deedOf 13 = .ok (.iload 5, 2) := by decide +kernel
theorem dX5_deedOf_15 : decode cX5_deedOf 15 = .ok (.aload_n 0, 1) := by decide +kernel
theorem dX5_deedOf_16 : decode cX5_deedOf 16 = .ok (.getfield 15, 3) := by decide +kernel
theorem dX5_deedOf_19 : decode cX5_deedOf 19 = .ok (.getfield 23, 3) := by decide +kernel
theorem dX5_deedOf_22 : decode cX5_deedOf 22 = .ok (.if_icmp .ge 129, 3) := by decide +kernel
theorem dX5_deedOf_25 : decode cX5_deedOf 25 = .ok (.aload_n 0, 1) := by decide +kernel
theorem dX5_deedOf_26 : decode cX5_deedOf 26 = .ok (.getfield 15, 3) := by decide +kernel
theorem dX5_deedOf_29 : decode cX5_deedOf 29 = .ok (.iload_n 2, 1) := by decide +kernel
theorem dX5_deedOf_30 : decode cX5_deedOf 30 = .ok (.iload 5, 2) := by decide +kernel
theorem dX5_deedOf_32 : decode cX5_deedOf 32 = .ok (.invokevirtual 52, 3) := by decide +kernel
theorem dX5_deedOf_35 : decode cX5_deedOf 35 = .ok (.istore 6, 2) := by decide +kernel
theorem dX5_deedOf_37 : decode cX5_deedOf 37 = .ok (.aload_n 0, 1) := by decide +kernel
theorem dX5_deedOf_38 : decode cX5_deedOf 38 = .ok (.getfield 19, 3) := by decide +kernel
theorem dX5_deedOf_41 : decode cX5_deedOf 41 = .ok (.iload_n 1, 1) := by decide +kernel
theorem dX5_deedOf_42 : decode cX5_deedOf 42 = .ok (.iload 5, 2) := by decide +kernel
theorem dX5_deedOf_44 : decode cX5_deedOf 44 = .ok (.iload 6, 2) := by decide +kernel
theorem dX5_deedOf_46 : decode cX5_deedOf 46 = .ok (.invokevirtual 55, 3) := by decide +kernel
theorem dX5_deedOf_49 : decode cX5_deedOf 49 = .ok (.istore 7, 2) := by decide +kernel
theorem dX5_deedOf_51 : decode cX5_deedOf 51 = .ok (.iconst 0, 1) := by decide +kernel
theorem dX5_deedOf_52 : decode cX5_deedOf 52 = .ok (.istore 8, 2) := by decide +kernel
theorem dX5_deedOf_54 : decode cX5_deedOf 54 = .ok (.iload 8, 2) := by decide +kernel
theorem dX5_deedOf_56 : decode cX5_deedOf 56 = .ok (.aload_n 0, 1) := by decide +kernel
theorem dX5_deedOf_57 : decode cX5_deedOf 57 = .ok (.getfield 15, 3) := by decide +kernel
theorem dX5_deedOf_60 : decode cX5_deedOf 60 = .ok (.getfield 64, 3) := by decide +kernel
theorem dX5_deedOf_63 : decode cX5_deedOf 63 = .ok (.if_icmp .ge 82, 3) := by decide +kernel
theorem dX5_deedOf_66 : decode cX5_deedOf 66 = .ok (.iload 8, 2) := by decide +kernel
theorem dX5_deedOf_68 : decode cX5_deedOf 68 = .ok (.iload 6, 2) := by decide +kernel
theorem dX5_deedOf_70 : decode cX5_deedOf 70 = .ok (.if_icmp .eq 27, 3) := by decide +kernel
theorem dX5_deedOf_73 : decode cX5_deedOf 73 = .ok (.aload_n 0, 1) := by decide +kernel
theorem dX5_deedOf_74 : decode cX5_deedOf 74 = .ok (.getfield 19, 3) := by decide +kernel
theorem dX5_deedOf_77 : decode cX5_deedOf 77 = .ok (.getfield 67, 3) := by decide +kernel
theorem dX5_deedOf_80 : decode cX5_deedOf 80 = .ok (.iload 7, 2) := by decide +kernel
theorem dX5_deedOf_82 : decode cX5_deedOf 82 = .ok (.iload 8, 2) := by decide +kernel
theorem dX5_deedOf_84 : decode cX5_deedOf 84 = .ok (.iadd, 1) := by decide +kernel
theorem dX5_deedOf_85 : decode cX5_deedOf 85 = .ok (.iaload, 1) := by decide +kernel
theorem dX5_deedOf_86 : decode cX5_deedOf 86 = .ok (.iload_n 3, 1) := by decide +kernel
theorem dX5_deedOf_87 : decode cX5_deedOf 87 = .ok (.ishr, 1) := by decide +kernel
theorem dX5_deedOf_88 : decode cX5_deedOf 88 = .ok (.iconst 1, 1) := by decide +kernel
theorem dX5_deedOf_89 : decode cX5_deedOf 89 = .ok (.iand, 1) := by decide +kernel
theorem dX5_deedOf_90 : decode cX5_deedOf 90 = .ok (.ifCond .eq 7, 3) := by decide +kernel
theorem dX5_deedOf_93 : decode cX5_deedOf 93 = .ok (.iconst 1, 1) := by decide +kernel
theorem dX5_deedOf_94 : decode cX5_deedOf 94 = .ok (.goto 4, 3) := by decide +kernel
theorem dX5_deedOf_97 : decode cX5_deedOf 97 = .ok (.iconst 0, 1) := by decide +kernel
theorem dX5_deedOf_98 : decode cX5_deedOf 98 = .ok (.istore 9, 2) := by decide +kernel
theorem dX5_deedOf_100 : decode cX5_deedOf 100 = .ok (.iload 9, 2) := by decide +kernel
theorem dX5_deedOf_102 : decode cX5_deedOf 102 = .ok (.ifCond .eq 37, 3) := by decide +kernel
theorem dX5_deedOf_105 : decode cX5_deedOf 105 = .ok (.aload 4, 2) := by decide +kernel
theorem dX5_deedOf_107 : decode cX5_deedOf 107 = .ok (.aload_n 0, 1) := by decide +kernel
theorem dX5_deedOf_108 : decode cX5_deedOf 108 = .ok (.getfield 15, 3) := by decide +kernel
theorem dX5_deedOf_111 : decode cX5_deedOf 111 = .ok (.iload_n 2, 1) := by decide +kernel
theorem dX5_deedOf_112 : decode cX5_deedOf 112 = .ok (.iload 5, 2) := by decide +kernel
theorem dX5_deedOf_114 : decode cX5_deedOf 114 = .ok (.iload 8, 2) := by decide +kernel
theorem dX5_deedOf_116 : decode cX5_deedOf 116 = .ok (.invokevirtual 76, 3) := by decide +kernel
theorem dX5_deedOf_119 : decode cX5_deedOf 119 = .ok (.iaload, 1) := by decide +kernel
theorem dX5_deedOf_120 : decode cX5_deedOf 120 = .ok (.iload 5, 2) := by decide +kernel
theorem dX5_deedOf_122 : decode cX5_deedOf 122 = .ok (.iconst 1, 1) := by decide +kernel
theorem dX5_deedOf_123 : decode cX5_deedOf 123 = .ok (.iadd, 1) := by decide +kernel
theorem dX5_deedOf_124 : decode cX5_deedOf 124 = .ok (.ishr, 1) := by decide +kernel
theorem dX5_deedOf_125 : decode cX5_deedOf 125 = .ok (.iconst 1, 1) := by decide +kernel
theorem dX5_deedOf_126 : decode cX5_deedOf 126 = .ok (.iand, 1) := by decide +kernel
theorem dX5_deedOf_127 : decode cX5_deedOf 127 = .ok (.ifCond .eq 12, 3) := by decide +kernel
theorem dX5_deedOf_130 : decode cX5_deedOf 130 = .ok (.bipush 10, 2) := by decide +kernel
theorem dX5_deedOf_132 : decode cX5_deedOf 132 = .ok (.iload 5, 2) := by decide +kernel
theorem dX5_deedOf_134 : decode cX5_deedOf 134 = .ok (.imul, 1) := by decide +kernel
theorem dX5_deedOf_135 : decode cX5_deedOf 135 = .ok (.iload 8, 2) := by decide +kernel
theorem dX5_deedOf_137 : decode cX5_deedOf 137 = .ok (.iadd, 1) := by decide +kernel
theorem dX5_deedOf_138 : decode cX5_deedOf 138 = .ok (.ireturn, 1) := by decide +kernel
theorem dX5_deedOf_139 : decode cX5_deedOf 139 = .ok (.iinc 8 1, 3) := by decide +kernel
theorem dX5_deedOf_142 : decode cX5_deedOf 142 = .ok (.goto (-88), 3) := by decide +kernel
theorem dX5_deedOf_145 : decode cX5_deedOf 145 = .ok (.iinc 5 1, 3) := by decide +kernel
theorem dX5_deedOf_148 : decode cX5_deedOf 148 = .ok (.goto (-135), 3) := by decide +kernel
theorem dX5_deedOf_151 : decode cX5_deedOf 151 = .ok (.iconst (-1), 1) := by decide +kernel
theorem dX5_deedOf_152 : decode cX5_deedOf 152 = .ok (.ireturn, 1) := by decide +kernel
theorem dX5_spread_0 : decode cX5_spread 0 = .ok (.aload_n 0, 1) := by decide +kernel
theorem dX5_spread_1 : decode cX5_spread 1 = .ok (.getfield 37, 3) := by decide +kernel
theorem dX5_spread_4 : decode cX5_spread 4 = .ok (.iconst 0, 1) := by decide +kernel
theorem dX5_spread_5 : decode cX5_spread 5 = .ok (.aaload, 1) := by decide +kernel
theorem dX5_spread_6 : decode cX5_spread 6 = .ok (.iconst 0, 1) := by decide +kernel
theorem dX5_spread_7 : decode cX5_spread 7 = .ok (.invokestatic 79, 3) := by decide +kernel
theorem dX5_spread_10 : decode cX5_spread 10 = .ok (.aload_n 0, 1) := by decide +kernel
theorem dX5_spread_11 : decode cX5_spread 11 = .ok (.getfield 37, 3) := by decide +kernel
theorem dX5_spread_14 : decode cX5_spread 14 = .ok (.iconst 0, 1) := by decide +kernel
theorem dX5_spread_15 : decode cX5_spread 15 = .ok (.aaload, 1) := by decide +kernel
theorem dX5_spread_16 : decode cX5_spread 16 = .ok (.iload_n 1, 1) := by decide +kernel
theorem dX5_spread_17 : decode cX5_spread 17 = .ok (.iconst 1, 1) := by decide +kernel
theorem dX5_spread_18 : decode cX5_spread 18 = .ok (.iastore, 1) := by decide +kernel
theorem dX5_spread_19 : decode cX5_spread 19 = .ok (.iconst 0, 1) := by decide +kernel
theorem dX5_spread_20 : decode cX5_spread 20 = .ok (.istore_n 3, 1) := by decide +kernel
theorem dX5_spread_21 : decode cX5_spread 21 = .ok (.iload_n 3, 1) := by decide +kernel
theorem dX5_spread_22 : decode cX5_spread 22 = .ok (.iload_n 2, 1) := by decide +kernel
theorem dX5_spread_23 : decode cX5_spread 23 = .ok (.if_icmp .ge 67, 3) := by decide +kernel
theorem dX5_spread_26 : decode cX5_spread 26 = .ok (.iload_n 3, 1) := by decide +kernel
theorem dX5_spread_27 : decode cX5_spread 27 = .ok (.bipush 8, 2) := by decide +kernel
theorem dX5_spread_29 : decode cX5_spread 29 = .ok (.if_icmp .ge 61, 3) := by decide +kernel
theorem dX5_spread_32 : decode cX5_spread 32 = .ok (.aload_n 0, 1) := by decide +kernel
theorem dX5_spread_33 : decode cX5_spread 33 = .ok (.getfield 37, 3) := by decide +kernel
theorem dX5_spread_36 : decode cX5_spread 36 = .ok (.iload_n 3, 1) := by decide +kernel
theorem dX5_spread_37 : decode cX5_spread 37 = .ok (.iconst 1, 1) := by decide +kernel
theorem dX5_spread_38 : decode cX5_spread 38 = .ok (.iadd, 1) := by decide +kernel
theorem dX5_spread_39 : decode cX5_spread 39 = .ok (.aaload, 1) := by decide +kernel
theorem dX5_spread_40 : decode cX5_spread 40 = .ok (.iconst 0, 1) := by decide +kernel
theorem dX5_spread_41 : decode cX5_spread 41 = .ok (.invokestatic 79, 3) := by decide +kernel
theorem dX5_spread_44 : decode cX5_spread 44 = .ok (.iconst 0, 1) := by decide +kernel
theorem dX5_spread_45 : decode cX5_spread 45 = .ok (.istore 4, 2) := by decide +kernel
theorem dX5_spread_47 : decode cX5_spread 47 = .ok (.iload 4, 2) := by decide +kernel
theorem dX5_spread_49 : decode cX5_spread 49 = .ok (.aload_n 0, 1) := by decide +kernel
theorem dX5_spread_50 : decode cX5_spread 50 = .ok (.getfield 15, 3) := by decide +kernel
theorem dX5_spread_53 : decode cX5_spread 53 = .ok (.getfield 32, 3) := by decide +kernel
theorem dX5_spread_56 : decode cX5_spread 56 = .ok (.if_icmp .ge 28, 3) := by decide +kernel
theorem dX5_spread_59 : decode cX5_spread 59 = .ok (.aload_n 0, 1) := by decide +kernel
theorem dX5_spread_60 : decode cX5_spread 60 = .ok (.getfield 37, 3) := by decide +kernel
theorem dX5_spread_63 : decode cX5_spread 63 = .ok (.iload_n 3, 1) := by decide +kernel
theorem dX5_spread_64 : decode cX5_spread 64 = .ok (.aaload, 1) := by decide +kernel
theorem dX5_spread_65 : decode cX5_spread 65 = .ok (.iload 4, 2) := by decide +kernel
theorem dX5_spread_67 : decode cX5_spread 67 = .ok (.iaload, 1) := by decide +kernel
theorem dX5_spread_68 : decode cX5_spread 68 = .ok (.ifCond .eq 10, 3) := by decide +kernel
theorem dX5_spread_71 : decode cX5_spread 71 = .ok (.aload_n 0, 1) := by decide +kernel
theorem dX5_spread_72 : decode cX5_spread 72 = .ok (.iload_n 3, 1) := by decide +kernel
theorem dX5_spread_73 : decode cX5_spread 73 = .ok (.iload 4, 2) := by decide +kernel
theorem dX5_spread_75 : decode cX5_spread 75 = .ok (.invokevirtual 85, 3) := by decide +kernel
theorem dX5_spread_78 : decode cX5_spread 78 = .ok (.iinc 4 1, 3) := by decide +kernel
theorem dX5_spread_81 : decode cX5_spread 81 = .ok (.goto (-34), 3) := by decide +kernel
theorem dX5_spread_84 : decode cX5_spread 84 = .ok (.iinc 3 1, 3) := by decide +kernel
theorem dX5_spread_87 : decode cX5_spread 87 = .ok (.goto (-66), 3) := by decide +kernel
theorem dX5_spread_90 : decode cX5_spread 90 = .ok (.return_, 1) := by decide +kernel
theorem dX5_spreadWord_0 : decode cX5_spreadWord 0 = .ok (.aload_n 0, 1) := by decide +kernel
theorem dX5_spreadWord_1 : decode cX5_spreadWord 1 = .ok (.getfield 37, 3) := by decide +kernel
theorem dX5_spreadWord_4 : decode cX5_spreadWord 4 = .ok (.iload_n 1, 1) := by decide +kernel
theorem dX5_spreadWord_5 : decode cX5_spreadWord 5 = .ok (.aaload, 1) := by decide +kernel
theorem dX5_spreadWord_6 : decode cX5_spreadWord 6 = .ok (.iload_n 2, 1) := by decide +kernel
theorem dX5_spreadWord_7 : decode cX5_spreadWord 7 = .ok (.iaload, 1) := by decide +kernel
theorem dX5_spreadWord_8 : decode cX5_spreadWord 8 = .ok (.istore_n 3, 1) := by decide +kernel
theorem dX5_spreadWord_9 : decode cX5_spreadWord 9 = .ok (.aload_n 0, 1) := by decide +kernel
theorem dX5_spreadWord_10 : decode cX5_spreadWord 10 = .ok (.getfield 37, 3) := by decide +kernel
theorem dX5_spreadWord_13 : decode cX5_spreadWord 13 = .ok (.iload_n 1, 1) := by decide +kernel
theorem dX5_spreadWord_14 : decode cX5_spreadWord 14 = .ok (.iconst 1, 1) := by decide +kernel
theorem dX5_spreadWord_15 : decode cX5_spreadWord 15 = .ok (.iadd, 1) := by decide +kernel
theorem dX5_spreadWord_16 : decode cX5_spreadWord 16 = .ok (.aaload, 1) := by decide +kernel
theorem dX5_spreadWord_17 : decode cX5_spreadWord 17 = .ok (.astore 4, 2) := by decide +kernel
theorem dX5_spreadWord_19 : decode cX5_spreadWord 19 = .ok (.iconst 0, 1) := by decide +kernel
theorem dX5_spreadWord_20 : decode cX5_spreadWord 20 = .ok (.istore 5, 2) := by decide +kernel
theorem dX5_spreadWord_22 : decode cX5_spreadWord 22 = .ok (.iload 5, 2) := by decide +kernel
theorem dX5_spreadWord_24 : decode cX5_spreadWord 24 = .ok (.aload_n 0, 1) := by decide +kernel
theorem dX5_spreadWord_25 : decode cX5_spreadWord 25 = .ok (.getfield 15, 3) := by decide +kernel
theorem dX5_spreadWord_28 : decode cX5_spreadWord 28 = .ok (.getfield 23, 3) := by decide +kernel
theorem dX5_spreadWord_31 : decode cX5_spreadWord 31 = .ok (.if_icmp .ge 122, 3) := by decide +kernel
theorem dX5_spreadWord_34 : decode cX5_spreadWord 34 = .ok (.aload_n 0, 1) := by decide +kernel
theorem dX5_spreadWord_35 : decode cX5_spreadWord 35 = .ok (.getfield 15, 3) := by decide +kernel
theorem dX5_spreadWord_38 : decode cX5_spreadWord 38 = .ok (.iload_n 2, 1) := by decide +kernel
theorem dX5_spreadWord_39 : decode cX5_spreadWord 39 = .ok (.iload 5, 2) := by decide +kernel
theorem dX5_spreadWord_41 : decode cX5_spreadWord 41 = .ok (.invokevirtual 52, 3) := by decide +kernel
theorem dX5_spreadWord_44 : decode cX5_spreadWord 44 = .ok (.istore 6, 2) := by decide +kernel
theorem dX5_spreadWord_46 : decode cX5_spreadWord 46 = .ok (.aload_n 0, 1) := by decide +kernel
theorem dX5_spreadWord_47 : decode cX5_spreadWord 47 = .ok (.getfield 19, 3) := by decide +kernel
theorem dX5_spreadWord_50 : decode cX5_spreadWord 50 = .ok (.iload_n 1, 1) := by decide +kernel
theorem dX5_spreadWord_51 : decode cX5_spreadWord 51 = .ok (.iload 5, 2) := by decide +kernel
theorem dX5_spreadWord_53 : decode cX5_spreadWord 53 = .ok (.iload 6, 2) := by decide +kernel
theorem dX5_spreadWord_55 : decode cX5_spreadWord 55 = .ok (.invokevirtual 55, 3) := by decide +kernel
theorem dX5_spreadWord_58 : decode cX5_spreadWord 58 = .ok (.istore 7, 2) := by decide +kernel
theorem dX5_spreadWord_60 : decode cX5_spreadWord 60 = .ok (.aload_n 0, 1) := by decide +kernel
theorem dX5_spreadWord_61 : decode cX5_spreadWord 61 = .ok (.getfield 15, 3) := by decide +kernel
theorem dX5_spreadWord_64 : decode cX5_spreadWord 64 = .ok (.iload_n 2, 1) := by decide +kernel
theorem dX5_spreadWord_65 : decode cX5_spreadWord 65 = .ok (.iload 5, 2) := by decide +kernel
theorem dX5_spreadWord_67 : decode cX5_spreadWord 67 = .ok (.invokevirtual 61, 3) := by decide +kernel
theorem dX5_spreadWord_70 : decode cX5_spreadWord 70 = .ok (.istore 8, 2) := by decide +kernel
theorem dX5_spreadWord_72 : decode cX5_spreadWord 72 = .ok (.iconst 0, 1) := by decide +kernel
theorem dX5_spreadWord_73 : decode cX5_spreadWord 73 = .ok (.istore 9, 2) := by decide +kernel
theorem dX5_spreadWord_75 : decode cX5_spreadWord 75 = .ok (.iload 9, 2) := by decide +kernel
theorem dX5_spreadWord_77 : decode cX5_spreadWord 77 = .ok (.aload_n 0, 1) := by decide +kernel
theorem dX5_spreadWord_78 : decode cX5_spreadWord 78 = .ok (.getfield 15, 3) := by decide +kernel
theorem dX5_spreadWord_81 : decode cX5_spreadWord 81 = .ok (.getfield 64, 3) := by decide +kernel
theorem dX5_spreadWord_84 : decode cX5_spreadWord 84 = .ok (.if_icmp .ge 63, 3) := by decide +kernel
theorem dX5_spreadWord_87 : decode cX5_spreadWord 87 = .ok (.iload 9, 2) := by decide +kernel
theorem dX5_spreadWord_89 : decode cX5_spreadWord 89 = .ok (.iload 6, 2) := by decide +kernel
theorem dX5_spreadWord_91 : decode cX5_spreadWord 91 = .ok (.if_icmp .eq 35, 3) := by decide +kernel
theorem dX5_spreadWord_94 : decode cX5_spreadWord 94 = .ok (.aload_n 0, 1) := by decide +kernel
theorem dX5_spreadWord_95 : decode cX5_spreadWord 95 = .ok (.getfield 19, 3) := by decide +kernel
theorem dX5_spreadWord_98 : decode cX5_spreadWord 98 = .ok (.getfield 67, 3) := by decide +kernel
theorem dX5_spreadWord_101 : decode cX5_spreadWord 101 = .ok (.iload 7, 2) := by decide +kernel
theorem dX5_spreadWord_103 : decode cX5_spreadWord 103 = .ok (.iload 9, 2) := by decide +kernel
theorem dX5_spreadWord_105 : decode cX5_spreadWord 105 = .ok (.iadd, 1) := by decide +kernel
theorem dX5_spreadWord_106 : decode cX5_spreadWord 106 = .ok (.iaload, 1) := by decide +kernel
theorem dX5_spreadWord_107 : decode cX5_spreadWord 107 = .ok (.iload_n 3, 1) := by decide +kernel
theorem dX5_spreadWord_108 : decode cX5_spreadWord 108 = .ok (.iand, 1) := by decide +kernel
theorem dX5_spreadWord_109 : decode cX5_spreadWord 109 = .ok (.ifCond .eq 17, 3) := by decide +kernel
theorem dX5_spreadWord_112 : decode cX5_spreadWord 112 = .ok (.aload 4, 2) := by decide +kernel
theorem dX5_spreadWord_114 : decode cX5_spreadWord 114 = .ok (.iload 8, 2) := by decide +kernel
theorem dX5_spreadWord_116 : decode cX5_spreadWord 116 = .ok (.dup2, 1) := by decide +kernel
theorem dX5_spreadWord_117 : decode cX5_spreadWord 117 = .ok (.iaload, 1) := by decide +kernel
theorem dX5_spreadWord_118 : decode cX5_spreadWord 118 = .ok (.iconst 1, 1) := by decide +kernel
theorem dX5_spreadWord_119 : decode cX5_spreadWord 119 = .ok (.iload 5, 2) := by decide +kernel
theorem dX5_spreadWord_121 : decode cX5_spreadWord 121 = .ok (.iconst 1, 1) := by decide +kernel
theorem dX5_spreadWord_122 : decode cX5_spreadWord 122 = .ok (.iadd, 1) := by decide +kernel
theorem dX5_spreadWord_123 : decode cX5_spreadWord 123 = .ok (.ishl, 1) := by decide +kernel
theorem dX5_spreadWord_124 : decode cX5_spreadWord 124 = .ok (.ior, 1) := by decide +kernel
theorem dX5_spreadWord_125 : decode cX5_spreadWord 125 = .ok (.iastore, 1) := by decide +kernel
theorem dX5_spreadWord_126 : decode cX5_spreadWord 126 = .ok (.iload 8, 2) := by decide +kernel
theorem dX5_spreadWord_128 : decode cX5_spreadWord 128 = .ok (.aload_n 0, 1) := by decide +kernel
theorem dX5_spreadWord_129 : decode cX5_spreadWord 129 = .ok (.getfield 15, 3) := by decide +kernel
theorem dX5_spreadWord_132 : decode cX5_spreadWord 132 = .ok (.getfield 70, 3) := by decide +kernel
theorem dX5_spreadWord_135 : decode cX5_spreadWord 135 = .ok (.iload 5, 2) := by decide +kernel
theorem dX5_spreadWord_137 : decode cX5_spreadWord 137 = .ok (.iaload, 1) := by decide +kernel
theorem dX5_spreadWord_138 : decode cX5_spreadWord 138 = .ok (.iadd, 1) := by decide +kernel
theorem dX5_spreadWord_139 : decode cX5_spreadWord 139 = .ok (.istore 8, 2) := by decide +kernel
theorem dX5_spreadWord_141 : decode cX5_spreadWord 141 = .ok (.iinc 9 1, 3) := by decide +kernel
theorem dX5_spreadWord_144 : decode cX5_spreadWord 144 = .ok (.goto (-69), 3) := by decide +kernel
theorem dX5_spreadWord_147 : decode cX5_spreadWord 147 = .ok (.iinc 5 1, 3) := by decide +kernel
theorem dX5_spreadWord_150 : decode cX5_spreadWord 150 = .ok (.goto (-128), 3) := by decide +kernel
theorem dX5_spreadWord_153 : decode cX5_spreadWord 153 = .ok (.return_, 1) := by decide +kernel
theorem dX5_isReached_0 : decode cX5_isReached 0 = .ok (.aload_n 0, 1) := by decide +kernel
theorem dX5_isReached_1 : decode cX5_isReached 1 = .ok (.getfield 37, 3) := by decide +kernel
theorem dX5_isReached_4 : decode cX5_isReached 4 = .ok (.iload_n 2, 1) := by decide +kernel
theorem dX5_isReached_5 : decode cX5_isReached 5 = .ok (.aaload, 1) := by decide +kernel
theorem dX5_isReached_6 : decode cX5_isReached 6 = .ok (.iload_n 1, 1) := by decide +kernel
theorem dX5_isReached_7 : decode cX5_isReached 7 = .ok (.iaload, 1) := by decide +kernel
theorem dX5_isReached_8 : decode cX5_isReached 8 = .ok (.ifCond .eq 7, 3) := by decide +kernel
theorem dX5_isReached_11 : decode cX5_isReached 11 = .ok (.iconst 1, 1) := by decide +kernel
theorem dX5_isReached_12 : decode cX5_isReached 12 = .ok (.goto 4, 3) := by decide +kernel
theorem dX5_isReached_15 : decode cX5_isReached 15 = .ok (.iconst 0, 1) := by decide +kernel
theorem dX5_isReached_16 : decode cX5_isReached 16 = .ok (.ireturn, 1) := by decide +kernel
theorem dX5_apartOf_0 : decode cX5_apartOf 0 = .ok (.aload_n 0, 1) := by decide +kernel
theorem dX5_apartOf_1 : decode cX5_apartOf 1 = .ok (.getfield 40, 3) := by decide +kernel
theorem dX5_apartOf_4 : decode cX5_apartOf 4 = .ok (.iconst 0, 1) := by decide +kernel
theorem dX5_apartOf_5 : decode cX5_apartOf 5 = .ok (.invokestatic 79, 3) := by decide +kernel
theorem dX5_apartOf_8 : decode cX5_apartOf 8 = .ok (.aload_n 1, 1) := by decide +kernel
theorem dX5_apartOf_9 : decode cX5_apartOf 9 = .ok (.getfield 89, 3) := by decide +kernel
theorem dX5_apartOf_12 : decode cX5_apartOf 12 = .ok (.bipush 16, 2) := by decide +kernel
theorem dX5_apartOf_14 : decode cX5_apartOf 14 = .ok (.invokestatic 43, 3) := by decide +kernel
theorem dX5_apartOf_17 : decode cX5_apartOf 17 = .ok (.istore_n 3, 1) := by decide +kernel
theorem dX5_apartOf_18 : decode cX5_apartOf 18 = .ok (.iconst 0, 1) := by decide +kernel
theorem dX5_apartOf_19 : decode cX5_apartOf 19 = .ok (.istore 4, 2) := by decide +kernel
theorem dX5_apartOf_21 : decode cX5_apartOf 21 = .ok (.iload 4, 2) := by decide +kernel
theorem dX5_apartOf_23 : decode cX5_apartOf 23 = .ok (.iload_n 3, 1) := by decide +kernel
theorem dX5_apartOf_24 : decode cX5_apartOf 24 = .ok (.if_icmp .ge 66, 3) := by decide +kernel
theorem dX5_apartOf_27 : decode cX5_apartOf 27 = .ok (.aload_n 0, 1) := by decide +kernel
theorem dX5_apartOf_28 : decode cX5_apartOf 28 = .ok (.aload_n 1, 1) := by decide +kernel
theorem dX5_apartOf_29 : decode cX5_apartOf 29 = .ok (.getfield 94, 3) := by decide +kernel
theorem dX5_apartOf_32 : decode cX5_apartOf 32 = .ok (.iload 4, 2) := by decide +kernel
theorem dX5_apartOf_34 : decode cX5_apartOf 34 = .ok (.iaload, 1) := by decide +kernel
theorem dX5_apartOf_35 : decode cX5_apartOf 35 = .ok (.iload_n 2, 1) := by decide +kernel
theorem dX5_apartOf_36 : decode cX5_apartOf 36 = .ok (.invokevirtual 97, 3) := by decide +kernel
theorem dX5_apartOf_39 : decode cX5_apartOf 39 = .ok (.iconst 0, 1) := by decide +kernel
theorem dX5_apartOf_40 : decode cX5_apartOf 40 = .ok (.istore 5, 2) := by decide +kernel
theorem dX5_apartOf_42 : decode cX5_apartOf 42 = .ok (.iload 5, 2) := by decide +kernel
theorem dX5_apartOf_44 : decode cX5_apartOf 44 = .ok (.aload_n 0, 1) := by decide +kernel
theorem dX5_apartOf_45 : decode cX5_apartOf 45 = .ok (.getfield 15, 3) := by decide +kernel
theorem dX5_apartOf_48 : decode cX5_apartOf 48 = .ok (.getfield 32, 3) := by decide +kernel
theorem dX5_apartOf_51 : decode cX5_apartOf 51 = .ok (.if_icmp .ge 33, 3) := by decide +kernel
theorem dX5_apartOf_54 : decode cX5_apartOf 54 = .ok (.aload_n 0, 1) := by decide +kernel
theorem dX5_apartOf_55 : decode cX5_apartOf 55 = .ok (.iload 5, 2) := by decide +kernel
theorem dX5_apartOf_57 : decode cX5_apartOf 57 = .ok (.iload_n 2, 1) := by decide +kernel
theorem dX5_apartOf_58 : decode cX5_apartOf 58 = .ok (.invokevirtual 100, 3) := by decide +kernel
theorem dX5_apartOf_61 : decode cX5_apartOf 61 = .ok (.ifCond .eq 17, 3) := by decide +kernel
theorem dX5_apartOf_64 : decode cX5_apartOf 64 = .ok (.aload_n 0, 1) := by decide +kernel
theorem dX5_apartOf_65 : decode cX5_apartOf 65 = .ok (.getfield 40, 3) := by decide +kernel
theorem dX5_apartOf_68 : decode cX5_apartOf 68 = .ok (.iload 5, 2) := by decide +kernel
theorem dX5_apartOf_70 : decode cX5_apartOf 70 = .ok (.dup2, 1) := by decide +kernel
theorem dX5_apartOf_71 : decode cX5_apartOf 71 = .ok (.iaload, 1) := by decide +kernel
theorem dX5_apartOf_72 : decode cX5_apartOf 72 = .ok (.iconst 1, 1) := by decide +kernel
theorem dX5_apartOf_73 : decode cX5_apartOf 73 = .ok (.iload 4, 2) := by decide +kernel
theorem dX5_apartOf_75 : decode cX5_apartOf 75 = .ok (.ishl, 1) := by decide +kernel
theorem dX5_apartOf_76 : decode cX5_apartOf 76 = .ok (.ior, 1) := by decide +kernel
theorem dX5_apartOf_77 : decode cX5_apartOf 77 = .ok (.iastore, 1) := by decide +kernel
theorem dX5_apartOf_78 : decode cX5_apartOf 78 = .ok (.iinc 5 1, 3) := by decide +kernel
theorem dX5_apartOf_81 : decode cX5_apartOf 81 = .ok (.goto (-39), 3) := by decide +kernel
theorem dX5_apartOf_84 : decode cX5_apartOf 84 = .ok (.iinc 4 1, 3) := by decide +kernel
theorem dX5_apartOf_87 : decode cX5_apartOf 87 = .ok (.goto (-66), 3) := by decide +kernel
theorem dX5_apartOf_90 : decode cX5_apartOf 90 = .ok (.aload_n 0, 1) := by decide +kernel
theorem dX5_apartOf_91 : decode cX5_apartOf 91 = .ok (.invokevirtual 104, 3) := by decide +kernel
theorem dX5_apartOf_94 : decode cX5_apartOf 94 = .ok (.aload_n 0, 1) := by decide +kernel
theorem dX5_apartOf_95 : decode cX5_apartOf 95 = .ok (.getfield 9, 3) := by decide +kernel
theorem dX5_apartOf_98 : decode cX5_apartOf 98 = .ok (.iload_n 3, 1) := by decide +kernel
theorem dX5_apartOf_99 : decode cX5_apartOf 99 = .ok (.iconst 1, 1) := by decide +kernel
theorem dX5_apartOf_100 : decode cX5_apartOf 100 = .ok (.isub, 1) := by decide +kernel
theorem dX5_apartOf_101 : decode cX5_apartOf 101 = .ok (.iconst 0, 1) := by decide +kernel
theorem dX5_apartOf_102 : decode cX5_apartOf 102 = .ok (.iconst 1, 1) := by decide +kernel
theorem dX5_apartOf_103 : decode cX5_apartOf 103 = .ok (.iload_n 3, 1) := by decide +kernel
theorem dX5_apartOf_104 : decode cX5_apartOf 104 = .ok (.ishl, 1) := by decide +kernel
theorem dX5_apartOf_105 : decode cX5_apartOf 105 = .ok (.iconst 1, 1) := by decide +kernel
theorem dX5_apartOf_106 : decode cX5_apartOf 106 = .ok (.isub, 1) := by decide +kernel
theorem dX5_apartOf_107 : decode cX5_apartOf 107 = .ok (.iconst 0, 1) := by decide +kernel
theorem dX5_apartOf_108 : decode cX5_apartOf 108 = .ok (.invokestatic 107, 3) := by decide +kernel
theorem dX5_apartOf_111 : decode cX5_apartOf 111 = .ok (.ireturn, 1) := by decide +kernel
theorem dX5_findRivals_0 : decode cX5_findRivals 0 = .ok (.aload_n 0, 1) := by decide +kernel
theorem dX5_findRivals_1 : decode cX5_findRivals 1 = .ok (.getfield 9, 3) := by decide +kernel
theorem dX5_findRivals_4 : decode cX5_findRivals 4 = .ok (.iconst 0, 1) := by decide +kernel
theorem dX5_findRivals_5 : decode cX5_findRivals 5 = .ok (.invokestatic 79, 3) := by decide +kernel
theorem dX5_findRivals_8 : decode cX5_findRivals 8 = .ok (.iconst 0, 1) := by decide +kernel
theorem dX5_findRivals_9 : decode cX5_findRivals 9 = .ok (.istore_n 1, 1) := by decide +kernel
theorem dX5_findRivals_10 : decode cX5_findRivals 10 = .ok (.iload_n 1, 1) := by decide +kernel
theorem dX5_findRivals_11 : decode cX5_findRivals 11 = .ok (.aload_n 0, 1) := by decide +kernel
theorem dX5_findRivals_12 : decode cX5_findRivals 12 = .ok (.getfield 15, 3) := by decide +kernel
theorem dX5_findRivals_15 : decode cX5_findRivals 15 = .ok (.getfield 32, 3) := by decide +kernel
theorem dX5_findRivals_18 : decode cX5_findRivals 18 = .ok (.if_icmp .ge 51, 3) := by decide +kernel
theorem dX5_findRivals_21 : decode cX5_findRivals 21 = .ok (.iconst 0, 1) := by decide +kernel
theorem dX5_findRivals_22 : decode cX5_findRivals 22 = .ok (.istore_n 2, 1) := by decide +kernel
theorem dX5_findRivals_23 : decode cX5_findRivals 23 = .ok (.iload_n 2, 1) := by decide +kernel
theorem dX5_findRivals_24 : decode cX5_findRivals 24 = .ok (.bipush 16, 2) := by decide +kernel
theorem dX5_findRivals_26 : decode cX5_findRivals 26 = .ok (.if_icmp .ge 37, 3) := by decide +kernel
theorem dX5_findRivals_29 : decode cX5_findRivals 29 = .ok (.aload_n 0, 1) := by decide +kernel
theorem dX5_findRivals_30 : decode cX5_findRivals 30 = .ok (.getfield 40, 3) := by decide +kernel
theorem dX5_findRivals_33 : decode cX5_findRivals 33 = .ok (.iload_n 1, 1) := by decide +kernel
theorem dX5_findRivals_34 : decode cX5_findRivals 34 = .ok (.iaload, 1) := by decide +kernel
theorem dX5_findRivals_35 : decode cX5_findRivals 35 = .ok (.iload_n 2, 1) := by decide +kernel
theorem dX5_findRivals_36 : decode cX5_findRivals 36 = .ok (.ishr, 1) := by decide +kernel
theorem dX5_findRivals_37 : decode cX5_findRivals 37 = .ok (.iconst 1, 1) := by decide +kernel
theorem dX5_findRivals_38 : decode cX5_findRivals 38 = .ok (.iand, 1) := by decide +kernel
theorem dX5_findRivals_39 : decode cX5_findRivals 39 = .ok (.ifCond .eq 18, 3) := by decide +kernel
theorem dX5_findRivals_42 : decode cX5_findRivals 42 = .ok (.aload_n 0, 1) := by decide +kernel
theorem dX5_findRivals_43 : decode cX5_findRivals 43 = .ok (.getfield 9, 3) := by decide +kernel
theorem dX5_findRivals_46 : decode cX5_findRivals 46 = .ok (.iload_n 2, 1) := by decide +kernel
theorem dX5_findRivals_47 : decode cX5_findRivals 47 = .ok (.dup2, 1) := by decide +kernel
theorem dX5_findRivals_48 : decode cX5_findRivals 48 = .ok (.iaload, 1) := by decide +kernel
theorem dX5_findRivals_49 : decode cX5_findRivals 49 = .ok (.aload_n 0, 1) := by decide +kernel
theorem dX5_findRivals_50 : decode cX5_findRivals 50 = .ok (.getfield 40, 3) := by decide +kernel
theorem dX5_findRivals_53 : decode cX5_findRivals 53 = .ok (.iload_n 1, 1) := by decide +kernel
theorem dX5_findRivals_54 : decode cX5_findRivals 54 = .ok (.iaload, 1) := by decide +kernel
theorem dX5_findRivals_55 : decode cX5_findRivals 55 = .ok (.ior, 1) := by decide +kernel
theorem dX5_findRivals_56 : decode cX5_findRivals 56 = .ok (.iastore, 1) := by decide +kernel
theorem dX5_findRivals_57 : decode cX5_findRivals 57 = .ok (.iinc 2 1, 3) := by decide +kernel
theorem dX5_findRivals_60 : decode cX5_findRivals 60 = .ok (.goto (-37), 3) := by decide +kernel
theorem dX5_findRivals_63 : decode cX5_findRivals 63 = .ok (.iinc 1 1, 3) := by decide +kernel
theorem dX5_findRivals_66 : decode cX5_findRivals 66 = .ok (.goto (-56), 3) := by decide +kernel
theorem dX5_findRivals_69 : decode cX5_findRivals 69 = .ok (.return_, 1) := by decide +kernel
theorem dX5_widest_0 : decode cX5_widest 0 = .ok (.iload_n 2, 1) := by decide +kernel
theorem dX5_widest_1 : decode cX5_widest 1 = .ok (.invokestatic 111, 3) := by decide +kernel
theorem dX5_widest_4 : decode cX5_widest 4 = .ok (.iload_n 3, 1) := by decide +kernel
theorem dX5_widest_5 : decode cX5_widest 5 = .ok (.invokestatic 111, 3) := by decide +kernel
theorem dX5_widest_8 : decode cX5_widest 8 = .ok (.iadd, 1) := by decide +kernel
theorem dX5_widest_9 : decode cX5_widest 9 = .ok (.iload 4, 2) := by decide +kernel
theorem dX5_widest_11 : decode cX5_widest 11 = .ok (.invokestatic 111, 3) := by decide +kernel
theorem dX5_widest_14 : decode cX5_widest 14 = .ok (.if_icmp .gt 6, 3) := by decide +kernel
theorem dX5_widest_17 : decode cX5_widest 17 = .ok (.iload 4, 2) := by decide +kernel
theorem dX5_widest_19 : decode cX5_widest 19 = .ok (.ireturn, 1) := by decide +kernel
theorem dX5_widest_20 : decode cX5_widest 20 = .ok (.iload_n 1, 1) := by decide +kernel
theorem dX5_widest_21 : decode cX5_widest 21 = .ok (.ifCond .lt 9, 3) := by decide +kernel
theorem dX5_widest_24 : decode cX5_widest 24 = .ok (.iload_n 1, 1) := by decide +kernel
theorem dX5_widest_25 : decode cX5_widest 25 = .ok (.aload_n 0, 1) := by decide +kernel
theorem dX5_widest_26 : decode cX5_widest 26 = .ok (.arraylength, 1) := by decide +kernel
theorem dX5_widest_27 : decode cX5_widest 27 = .ok (.if_icmp .lt 5, 3) := by decide +kernel
theorem dX5_widest_30 : decode cX5_widest 30 = .ok (.iload_n 2, 1) := by decide +kernel
theorem dX5_widest_31 : decode cX5_widest 31 = .ok (.ireturn, 1) := by decide +kernel
theorem dX5_widest_32 : decode cX5_widest 32 = .ok (.iload_n 3, 1) := by decide +kernel
theorem dX5_widest_33 : decode cX5_widest 33 = .ok (.iconst 1, 1) := by decide +kernel
theorem dX5_widest_34 : decode cX5_widest 34 = .ok (.iload_n 1, 1) := by decide +kernel
theorem dX5_widest_35 : decode cX5_widest 35 = .ok (.ishl, 1) := by decide +kernel
theorem dX5_widest_36 : decode cX5_widest 36 = .ok (.iconst (-1), 1) := by decide +kernel
theorem dX5_widest_37 : decode cX5_widest 37 = .ok (.ixor, 1) := by decide +kernel
theorem dX5_widest_38 : decode cX5_widest 38 = .ok (.iand, 1) := by decide +kernel
theorem dX5_widest_39 : decode cX5_widest 39 = .ok (.istore 5, 2) := by decide +kernel
theorem dX5_widest_41 : decode cX5_widest 41 = .ok (.aload_n 0, 1) := by decide +kernel
theorem dX5_widest_42 : decode cX5_widest 42 = .ok (.iload_n 1, 1) := by decide +kernel
theorem dX5_widest_43 : decode cX5_widest 43 = .ok (.iconst 1, 1) := by decide +kernel
theorem dX5_widest_44 : decode cX5_widest 44 = .ok (.isub, 1) := by decide +kernel
theorem dX5_widest_45 : decode cX5_widest 45 = .ok (.iload_n 2, 1) := by decide +kernel
theorem dX5_widest_46 : decode cX5_widest 46 = .ok (.iload 5, 2) := by decide +kernel
theorem dX5_widest_48 : decode cX5_widest 48 = .ok (.iload 4, 2) := by decide +kernel
theorem dX5_widest_50 : decode cX5_widest 50 = .ok (.invokestatic 107, 3) := by decide +kernel
theorem dX5_widest_53 : decode cX5_widest 53 = .ok (.istore 6, 2) := by decide +kernel
theorem dX5_widest_55 : decode cX5_widest 55 = .ok (.iload 5, 2) := by decide +kernel
theorem dX5_widest_57 : decode cX5_widest 57 = .ok (.iload_n 3, 1) := by decide +kernel
theorem dX5_widest_58 : decode cX5_widest 58 = .ok (.if_icmp .ne 6, 3) := by decide +kernel
theorem dX5_widest_61 : decode cX5_widest 61 = .ok (.iload 6, 2) := by decide +kernel
theorem dX5_widest_63 : decode cX5_widest 63 = .ok (.ireturn, 1) := by decide +kernel
theorem dX5_widest_64 : decode cX5_widest 64 = .ok (.aload_n 0, 1) := by decide +kernel
theorem dX5_widest_65 : decode cX5_widest 65 = .ok (.iload_n 1, 1) := by decide +kernel
theorem dX5_widest_66 : decode cX5_widest 66 = .ok (.iconst 1, 1) := by decide +kernel
theorem dX5_widest_67 : decode cX5_widest 67 = .ok (.isub, 1) := by decide +kernel
theorem dX5_widest_68 : decode cX5_widest 68 = .ok (.iload_n 2, 1) := by decide +kernel
theorem dX5_widest_69 : decode cX5_widest 69 = .ok (.iconst 1, 1) := by decide +kernel
theorem dX5_widest_70 : decode cX5_widest 70 = .ok (.iload_n 1, 1) := by decide +kernel
theorem dX5_widest_71 : decode cX5_widest 71 = .ok (.ishl, 1) := by decide +kernel
theorem dX5_widest_72 : decode cX5_widest 72 = .ok (.ior, 1) := by decide +kernel
theorem dX5_widest_73 : decode cX5_widest 73 = .ok (.iload 5, 2) := by decide +kernel
theorem dX5_widest_75 : decode cX5_widest 75 = .ok (.aload_n 0, 1) := by decide +kernel
theorem dX5_widest_76 : decode cX5_widest 76 = .ok (.iload_n 1, 1) := by decide +kernel
theorem dX5_widest_77 : decode cX5_widest 77 = .ok (.iaload, 1) := by decide +kernel
theorem dX5_widest_78 : decode cX5_widest 78 = .ok (.iconst (-1), 1) := by decide +kernel
theorem dX5_widest_79 : decode cX5_widest 79 = .ok (.ixor, 1) := by decide +kernel
theorem dX5_widest_80 : decode cX5_widest 80 = .ok (.iand, 1) := by decide +kernel
theorem dX5_widest_81 : decode cX5_widest 81 = .ok (.iload 6, 2) := by decide +kernel
theorem dX5_widest_83 : decode cX5_widest 83 = .ok (.invokestatic 107, 3) := by decide +kernel
theorem dX5_widest_86 : decode cX5_widest 86 = .ok (.ireturn, 1) := by decide +kernel
theorem dX6_init_0 : decode cX6_init 0 = .ok (.aload_n 0, 1) := by decide +kernel
theorem dX6_init_1 : decode cX6_init 1 = .ok (.invokespecial 3, 3) := by decide +kernel
theorem dX6_init_4 : decode cX6_init 4 = .ok (.aload_n 0, 1) := by decide +kernel
theorem dX6_init_5 : decode cX6_init 5 = .ok (.new 9, 3) := by decide +kernel
theorem dX6_init_8 : decode cX6_init 8 = .ok (.dup, 1) := by decide +kernel
theorem dX6_init_9 : decode cX6_init 9 = .ok (.invokespecial 11, 3) := by decide +kernel
theorem dX6_init_12 : decode cX6_init 12 = .ok (.putfield 12, 3) := by decide +kernel
theorem dX6_init_15 : decode cX6_init 15 = .ok (.aload_n 0, 1) := by decide +kernel
theorem dX6_init_16 : decode cX6_init 16 = .ok (.iconst 0, 1) := by decide +kernel
theorem dX6_init_17 : decode cX6_init 17 = .ok (.putfield 18, 3) := by decide +kernel
theorem dX6_init_20 : decode cX6_init 20 = .ok (.aload_n 0, 1) := by decide +kernel
theorem dX6_init_21 : decode cX6_init 21 = .ok (.iconst 0, 1) := by decide +kernel
theorem dX6_init_22 : decode cX6_init 22 = .ok (.putfield 22, 3) := by decide +kernel
theorem dX6_init_25 : decode cX6_init 25 = .ok (.aload_n 0, 1) := by decide +kernel
theorem dX6_init_26 : decode cX6_init 26 = .ok (.iconst 0, 1) := by decide +kernel
theorem dX6_init_27 : decode cX6_init 27 = .ok (.putfield 25, 3) := by decide +kernel
theorem dX6_init_30 : decode cX6_init 30 = .ok (.aload_n 0, 1) := by decide +kernel
theorem dX6_init_31 : decode cX6_init 31 = .ok (.iconst (-1), 1) := by decide +kernel
theorem dX6_init_32 : decode cX6_init 32 = .ok (.putfield 28, 3) := by decide +kernel
theorem dX6_init_35 : decode cX6_init 35 = .ok (.aload_n 0, 1) := by decide +kernel
theorem dX6_init_36 : decode cX6_init 36 = .ok (.new 31, 3) := by decide +kernel
theorem dX6_init_39 : decode cX6_init 39 = .ok (.dup, 1) := by decide +kernel
theorem dX6_init_40 : decode cX6_init 40 = .ok (.aload_n 1, 1) := by decide +kernel
theorem dX6_init_41 : decode cX6_init 41 = .ok (.invokespecial 33, 3) := by decide +kernel
theorem dX6_init_44 : decode cX6_init 44 = .ok (.putfield 36, 3) := by decide +kernel
theorem dX6_init_47 : decode cX6_init 47 = .ok (.return_, 1) := by decide +kernel
theorem dX6_read_0 : decode cX6_read 0 = .ok (.aload_n 0, 1) := by decide +kernel
theorem dX6_read_1 : decode cX6_read 1 = .ok (.iconst 0, 1) := by decide +kernel
theorem dX6_read_2 : decode cX6_read 2 = .ok (.putfield 25, 3) := by decide +kernel
theorem dX6_read_5 : decode cX6_read 5 = .ok (.aload_n 0, 1) := by decide +kernel
theorem dX6_read_6 : decode cX6_read 6 = .ok (.iconst (-1), 1) := by decide +kernel
theorem dX6_read_7 : decode cX6_read 7 = .ok (.putfield 28, 3) := by decide +kernel
theorem dX6_read_10 : decode cX6_read 10 = .ok (.aload_n 0, 1) := by decide +kernel
theorem dX6_read_11 : decode cX6_read 11 = .ok (.iconst 0, 1) := by decide +kernel
theorem dX6_read_12 : decode cX6_read 12 = .ok (.putfield 22, 3) := by decide +kernel
theorem dX6_read_15 : decode cX6_read 15 = .ok (.aload_n 0, 1) := by decide +kernel
theorem dX6_read_16 : decode cX6_read 16 = .ok (.iconst 0, 1) := by decide +kernel
theorem dX6_read_17 : decode cX6_read 17 = .ok (.putfield 18, 3) := by decide +kernel
theorem dX6_read_20 : decode cX6_read 20 = .ok (.aload_n 3, 1) := by decide +kernel
theorem dX6_read_21 : decode cX6_read 21 = .ok (.ifnonnull 8, 3) := by decide +kernel
theorem dX6_read_24 : decode cX6_read 24 = .ok (.aload_n 0, 1) := by decide +kernel
theorem dX6_read_25 : decode cX6_read 25 = .ok (.getfield 25, 3) := by decide +kernel
theorem dX6_read_28 : decode cX6_read 28 = .ok (.ireturn, 1) := by decide +kernel
theorem dX6_read_29 : decode cX6_read 29 = .ok (.aload_n 0, 1) := by decide +kernel
theorem dX6_read_30 : decode cX6_read 30 = .ok (.aload_n 3, 1) := by decide +kernel
theorem dX6_read_31 : decode cX6_read 31 = .ok (.putfield 12, 3) := by decide +kernel
theorem dX6_read_34 : decode cX6_read 34 = .ok (.aload_n 0, 1) := by decide +kernel
theorem dX6_read_35 : decode cX6_read 35 = .ok (.getfield 12, 3) := by decide +kernel
theorem dX6_read_38 : decode cX6_read 38 = .ok (.invokevirtual 40, 3) := by decide +kernel
theorem dX6_read_41 : decode cX6_read 41 = .ok (.aload_n 0, 1) := by decide +kernel
theorem dX6_read_42 : decode cX6_read 42 = .ok (.getfield 36, 3) := by decide +kernel
theorem dX6_read_45 : decode cX6_read 45 = .ok (.aload_n 1, 1) := by decide +kernel
theorem dX6_read_46 : decode cX6_read 46 = .ok (.iload_n 2, 1) := by decide +kernel
theorem dX6_read_47 : decode cX6_read 47 = .ok (.invokevirtual 43, 3) := by decide +kernel
theorem dX6_read_50 : decode cX6_read 50 = .ok (.iconst 0, 1) := by decide +kernel
theorem dX6_read_51 : decode cX6_read 51 = .ok (.istore 4, 2) := by decide +kernel
theorem dX6_read_53 : decode cX6_read 53 = .ok (.iload 4, 2) := by decide +kernel
theorem dX6_read_55 : decode cX6_read 55 = .ok (.bipush 24, 2) := by decide +kernel
theorem dX6_read_57 : decode cX6_read 57 = .ok (.if_icmp .gt 27, 3) := by decide +kernel
theorem dX6_read_60 : decode cX6_read 60 = .ok (.aload_n 0, 1) := by decide +kernel
theorem dX6_read_61 : decode cX6_read 61 = .ok (.getfield 25, 3) := by decide +kernel
theorem dX6_read_64 : decode cX6_read 64 = .ok (.ifCond .ne 20, 3) := by decide +kernel
theorem dX6_read_67 : decode cX6_read 67 = .ok (.aload_n 0, 1) := by decide +kernel
theorem dX6_read_68 : decode cX6_read 68 = .ok (.invokevirtual 47, 3) := by decide +kernel
theorem dX6_read_71 : decode cX6_read 71 = .ok (.ifCond .eq 13, 3) := by decide +kernel
theorem dX6_read_74 : decode cX6_read 74 = .ok (.aload_n 0, 1) := by decide +kernel
theorem dX6_read_75 : decode cX6_read 75 = .ok (.invokevirtual 51, 3) := by decide +kernel
theorem dX6_read_78 : decode cX6_read 78 = .ok (.iinc 4 1, 3) := by decide +kernel
theorem dX6_read_81 : decode cX6_read 81 = .ok (.goto (-28), 3) := by decide +kernel
theorem dX6_read_84 : decode cX6_read 84 = .ok (.aload_n 0, 1) := by decide +kernel
theorem dX6_read_85 : decode cX6_read 85 = .ok (.getfield 25, 3) := by decide +kernel
theorem dX6_read_88 : decode cX6_read 88 = .ok (.ireturn, 1) := by decide +kernel
theorem dX6_kind_0 : decode cX6_kind 0 = .ok (.aload_n 0, 1) := by decide +kernel
theorem dX6_kind_1 : decode cX6_kind 1 = .ok (.getfield 18, 3) := by decide +kernel
theorem dX6_kind_4 : decode cX6_kind 4 = .ok (.ifCond .lt 32, 3) := by decide +kernel
theorem dX6_kind_7 : decode cX6_kind 7 = .ok (.aload_n 0, 1) := by decide +kernel
theorem dX6_kind_8 : decode cX6_kind 8 = .ok (.getfield 18, 3) := by decide +kernel
theorem dX6_kind_11 : decode cX6_kind 11 = .ok (.aload_n 0, 1) := by decide +kernel
theorem dX6_kind_12 : decode cX6_kind 12 = .ok (.getfield 36, 3) := by decide +kernel
theorem dX6_kind_15 : decode cX6_kind 15 = .ok (.getfield 54, 3) := by decide +kernel
theorem dX6_kind_18 : decode cX6_kind 18 = .ok (.if_icmp .ge 18, 3) := by decide +kernel
theorem dX6_kind_21 : decode cX6_kind 21 = .ok (.aload_n 0, 1) := by decide +kernel
theorem dX6_kind_22 : decode cX6_kind 22 = .ok (.getfield 36, 3) := by decide +kernel
theorem dX6_kind_25 : decode cX6_kind 25 = .ok (.getfield 57, 3) := by decide +kernel
theorem dX6_kind_28 : decode cX6_kind 28 = .ok (.aload_n 0, 1) := by decide +kernel
theorem dX6_kind_29 : decode cX6_kind 29 = .ok (.getfield 18, 3) := by decide +kernel
theorem dX6_kind_32 : decode cX6_kind 32 = .ok (.iaload, 1) := by decide +kernel
theorem dX6_kind_33 : decode cX6_kind 33 = .ok (.goto 4, 3) := by decide +kernel
theorem dX6_kind_36 : decode cX6_kind 36 = .ok (.iconst 0, 1) := by decide +kernel
theorem dX6_kind_37 : decode cX6_kind 37 = .ok (.ireturn, 1) := by decide +kernel
theorem dX6_isName_0 : decode cX6_isName 0 = .ok (.aload_n 0, 1) := by decide +kernel
theorem dX6_isName_1 : decode cX6_isName 1 = .ok (.getfield 18, 3) := by decide +kernel
theorem dX6_isName_4 : decode cX6_isName 4 = .ok (.ifCond .lt 37, 3) := by decide +kernel
theorem dX6_isName_7 : decode cX6_isName 7 = .ok (.aload_n 0, 1) := by decide +kernel
theorem dX6_isName_8 : decode cX6_isName 8 = .ok (.getfield 18, 3) := by decide +kernel
theorem dX6_isName_11 : decode cX6_isName 11 = .ok (.aload_n 0, 1) := by decide +kernel
theorem dX6_isName_12 : decode cX6_isName 12 = .ok (.getfield 36, 3) := by decide +kernel
theorem dX6_isName_15 : decode cX6_isName 15 = .ok (.getfield 54, 3) := by decide +kernel
theorem dX6_isName_18 : decode cX6_isName 18 = .ok (.if_icmp .ge 23, 3) := by decide +kernel
theorem dX6_isName_21 : decode cX6_isName 21 = .ok (.aload_n 0, 1) := by decide +kernel
theorem dX6_isName_22 : decode cX6_isName 22 = .ok (.getfield 36, 3) := by decide +kernel
theorem dX6_isName_25 : decode cX6_isName 25 = .ok (.getfield 60, 3) := by decide +kernel
theorem dX6_isName_28 : decode cX6_isName 28 = .ok (.aload_n 0, 1) := by decide +kernel
theorem dX6_isName_29 : decode cX6_isName 29 = .ok (.getfield 18, 3) := by decide +kernel
theorem dX6_isName_32 : decode cX6_isName 32 = .ok (.iaload, 1) := by decide +kernel
theorem dX6_isName_33 : decode cX6_isName 33 = .ok (.iload_n 1, 1) := by decide +kernel
theorem dX6_isName_34 : decode cX6_isName 34 = .ok (.if_icmp .ne 7, 3) := by decide +kernel
theorem dX6_isName_37 : decode cX6_isName 37 = .ok (.iconst 1, 1) := by decide +kernel
theorem dX6_isName_38 : decode cX6_isName 38 = .ok (.goto 4, 3) := by decide +kernel
theorem dX6_isName_41 : decode cX6_isName 41 = .ok (.iconst 0, 1) := by decide +kernel
theorem dX6_isName_42 : decode cX6_isName 42 = .ok (.ireturn, 1) := by decide +kernel
theorem dX6_fail_0 : decode cX6_fail 0 = .ok (.aload_n 0, 1) := by decide +kernel
theorem dX6_fail_1 : decode cX6_fail 1 = .ok (.getfield 25, 3) := by decide +kernel
theorem dX6_fail_4 : decode cX6_fail 4 = .ok (.ifCond .ne 45, 3) := by decide +kernel
theorem dX6_fail_7 : decode cX6_fail 7 = .ok (.aload_n 0, 1) := by decide +kernel
theorem dX6_fail_8 : decode cX6_fail 8 = .ok (.getfield 18, 3) := by decide +kernel
theorem dX6_fail_11 : decode cX6_fail 11 = .ok (.ifCond .lt 38, 3) := by decide +kernel
theorem dX6_fail_14 : decode cX6_fail 14 = .ok (.aload_n 0, 1) := by decide +kernel
theorem dX6_fail_15 : decode cX6_fail 15 = .ok (.getfield 18, 3) := by decide +kernel
theorem dX6_fail_18 : decode cX6_fail 18 = .ok (.aload_n 0, 1) := by decide +kernel
theorem dX6_fail_19 : decode cX6_fail 19 = .ok (.getfield 36, 3) := by decide +kernel
theorem dX6_fail_22 : decode cX6_fail 22 = .ok (.getfield 54, 3) := by decide +kernel
theorem dX6_fail_25 : decode cX6_fail 25 = .ok (.if_icmp .ge 24, 3) := by decide +kernel
theorem dX6_fail_28 : decode cX6_fail 28 = .ok (.aload_n 0, 1) := by decide +kernel
theorem dX6_fail_29 : decode cX6_fail 29 = .ok (.iload_n 1, 1) := by decide +kernel
theorem dX6_fail_30 : decode cX6_fail 30 = .ok (.putfield 25, 3) := by decide +kernel
theorem dX6_fail_33 : decode cX6_fail 33 = .ok (.aload_n 0, 1) := by decide +kernel
theorem dX6_fail_34 : decode cX6_fail 34 = .ok (.aload_n 0, 1) := by decide +kernel
theorem dX6_fail_35 : decode cX6_fail 35 = .ok (.getfield 36, 3) := by decide +kernel
theorem dX6_fail_38 : decode cX6_fail 38 = .ok (.getfield 63, 3) := by decide +kernel
theorem dX6_fail_41 : decode cX6_fail 41 = .ok (.aload_n 0, 1) := by decide +kernel
theorem dX6_fail_42 : decode cX6_fail 42 = .ok (.getfield 18, 3) := by decide +kernel
theorem dX6_fail_45 : decode cX6_fail 45 = .ok (.iaload, 1) := by decide +kernel
theorem dX6_fail_46 : decode cX6_fail 46 = .ok (.putfield 28, 3) := by decide +kernel
theorem dX6_fail_49 : decode cX6_fail 49 = .ok (.return_, 1) := by decide +kernel
theorem dX6_pass_0 : decode cX6_pass 0 = .ok (.iload_n 1, 1) := by decide +kernel
theorem dX6_pass_1 : decode cX6_pass 1 = .ok (.ifCond .ne 8, 3) := by decide +kernel
theorem dX6_pass_4 : decode cX6_pass 4 = .ok (.aload_n 0, 1) := by decide +kernel
theorem dX6_pass_5 : decode cX6_pass 5 = .ok (.iconst 1, 1) := by decide +kernel
theorem dX6_pass_6 : decode cX6_pass 6 = .ok (.invokevirtual 66, 3) := by decide +kernel
theorem dX6_pass_9 : decode cX6_pass 9 = .ok (.aload_n 0, 1) := by decide +kernel
theorem dX6_pass_10 : decode cX6_pass 10 = .ok (.getfield 25, 3) := by decide +kernel
theorem dX6_pass_13 : decode cX6_pass 13 = .ok (.ifCond .ne 13, 3) := by decide +kernel
theorem dX6_pass_16 : decode cX6_pass 16 = .ok (.aload_n 0, 1) := by decide +kernel
theorem dX6_pass_17 : decode cX6_pass 17 = .ok (.dup, 1) := by decide +kernel
theorem dX6_pass_18 : decode cX6_pass 18 = .ok (.getfield 18, 3) := by decide +kernel
theorem dX6_pass_21 : decode cX6_pass 21 = .ok (.iconst 1, 1) := by decide +kernel
theorem dX6_pass_22 : decode cX6_pass 22 = .ok (.iadd, 1) := by decide +kernel
theorem dX6_pass_23 : decode cX6_pass 23 = .ok (.putfield 18, 3) := by decide +kernel
theorem dX6_pass_26 : decode cX6_pass 26 = .ok (.return_, 1) := by decide +kernel
theorem dX6_readClause_0 : decode cX6_readClause 0 = .ok (.aload_n 0, 1) := by decide +kernel
theorem dX6_readClause_1 : decode cX6_readClause 1 = .ok (.bipush 6, 2) := by decide +kernel
theorem dX6_readClause_3 : decode cX6_readClause 3 = .ok (.invokevirtual 70, 3) := by decide +kernel
theorem dX6_readClause_6 : decode cX6_readClause 6 = .ok (.istore_n 1, 1) := by decide +kernel
theorem dX6_readClause_7 : decode cX6_readClause 7 = .ok (.aload_n 0, 1) := by decide +kernel
theorem dX6_readClause_8 : decode cX6_readClause 8 = .ok (.bipush 7, 2) := by decide +kernel
theorem dX6_readClause_10 : decode cX6_readClause 10 = .ok (.invokevirtual 70, 3) := by decide +kernel
theorem dX6_readClause_13 : decode cX6_readClause 13 = .ok (.istore_n 2, 1) := by decide +kernel
theorem dX6_readClause_14 : decode cX6_readClause 14 = .ok (.aload_n 0, 1) := by decide +kernel
theorem dX6_readClause_15 : decode cX6_readClause 15 = .ok (.bipush 8, 2) := by decide +kernel
theorem dX6_readClause_17 : decode cX6_readClause 17 = .ok (.invokevirtual 70, 3) := by decide +kernel
theorem dX6_readClause_20 : decode cX6_readClause 20 = .ok (.istore_n 3, 1) := by decide +kernel
theorem dX6_readClause_21 : decode cX6_readClause 21 = .ok (.iload_n 1, 1) := by decide +kernel
theorem dX6_readClause_22 : decode cX6_readClause 22 = .ok (.ifCond .ne 28, 3) := by decide +kernel
theorem dX6_readClause_25 : decode cX6_readClause 25 = .ok (.iload_n 2, 1) := by decide +kernel
theorem dX6_readClause_26 : decode cX6_readClause 26 = .ok (.ifCond .ne 24, 3) := by decide +kernel
theorem dX6_readClause_29 : decode cX6_readClause 29 = .ok (.iload_n 3, 1) := by decide +kernel
theorem dX6_readClause_30 : decode cX6_readClause 30 = .ok (.ifCond .ne 20, 3) := by decide +kernel
theorem dX6_readClause_33 : decode cX6_readClause 33 = .ok (.aload_n 0, 1) := by decide +kernel
theorem dX6_readClause_34 : decode cX6_readClause 34 = .ok (.bipush 9, 2) := by decide +kernel
theorem dX6_readClause_36 : decode cX6_readClause 36 = .ok (.invokevirtual 70, 3) := by decide +kernel
theorem dX6_readClause_39 : decode cX6_readClause 39 = .ok (.ifCond .ne 11, 3) := by decide +kernel
theorem dX6_readClause_42 : decode cX6_readClause 42 = .ok (.aload_n 0, 1) := by decide +kernel
theorem dX6_readClause_43 : decode cX6_readClause 43 = .ok (.iconst 1, 1) := by decide +kernel
theorem dX6_readClause_44 : decode cX6_readClause 44 = .ok (.invokevirtual 66, 3) := by decide +kernel
theorem dX6_readClause_47 : decode cX6_readClause 47 = .ok (.goto 131, 3) := by decide +kernel
theorem dX6_readClause_50 : decode cX6_readClause 50 = .ok (.iload_n 1, 1) := by decide +kernel
theorem dX6_readClause_51 : decode cX6_readClause 51 = .ok (.ifCond .eq 13, 3) := by decide +kernel
theorem dX6_readClause_54 : decode cX6_readClause 54 = .ok (.aload_n 0, 1) := by decide +kernel
theorem dX6_readClause_55 : decode cX6_readClause 55 = .ok (.getfield 12, 3) := by decide +kernel
theorem dX6_readClause_58 : decode cX6_readClause 58 = .ok (.getfield 74, 3) := by decide +kernel
theorem dX6_readClause_61 : decode cX6_readClause 61 = .ok (.ifCond .ne 17, 3) := by decide +kernel
theorem dX6_readClause_64 : decode cX6_readClause 64 = .ok (.iload_n 2, 1) := by decide +kernel
theorem dX6_readClause_65 : decode cX6_readClause 65 = .ok (.ifCond .eq 21, 3) := by decide +kernel
theorem dX6_readClause_68 : decode cX6_readClause 68 = .ok (.aload_n 0, 1) := by decide +kernel
theorem dX6_readClause_69 : decode cX6_readClause 69 = .ok (.getfield 12, 3) := by decide +kernel
theorem dX6_readClause_72 : decode cX6_readClause 72 = .ok (.getfield 78, 3) := by decide +kernel
theorem dX6_readClause_75 : decode cX6_readClause 75 = .ok (.ifCond .eq 11, 3) := by decide +kernel
theorem dX6_readClause_78 : decode cX6_readClause 78 = .ok (.aload_n 0, 1) := by decide +kernel
theorem dX6_readClause_79 : decode cX6_readClause 79 = .ok (.iconst 4, 1) := by decide +kernel
theorem dX6_readClause_80 : decode cX6_readClause 80 = .ok (.invokevirtual 66, 3) := by decide +kernel
theorem dX6_readClause_83 : decode cX6_readClause 83 = .ok (.goto 95, 3) := by decide +kernel
theorem dX6_readClause_86 : decode cX6_readClause 86 = .ok (.aload_n 0, 1) := by decide +kernel
theorem dX6_readClause_87 : decode cX6_readClause 87 = .ok (.getfield 22, 3) := by decide +kernel
theorem dX6_readClause_90 : decode cX6_readClause 90 = .ok (.bipush 24, 2) := by decide +kernel
theorem dX6_readClause_92 : decode cX6_readClause 92 = .ok (.if_icmp .lt 11, 3) := by decide +kernel
theorem dX6_readClause_95 : decode cX6_readClause 95 = .ok (.aload_n 0, 1) := by decide +kernel
theorem dX6_readClause_96 : decode cX6_readClause 96 = .ok (.iconst 5, 1) := by decide +kernel
theorem dX6_readClause_97 : decode cX6_readClause 97 = .ok (.invokevirtual 66, 3) := by decide +kernel
theorem dX6_readClause_100 : decode cX6_readClause 100 = .ok (.goto 78, 3) := by decide +kernel
theorem dX6_readClause_103 : decode cX6_readClause 103 = .ok (.aload_n 0, 1) := by decide +kernel
theorem dX6_readClause_104 : decode cX6_readClause 104 = .ok (.dup, 1) := by decide +kernel
theorem dX6_readClause_105 : decode cX6_readClause 105 = .ok (.getfield 22, 3) := by decide +kernel
theorem dX6_readClause_108 : decode cX6_readClause 108 = .ok (.iconst 1, 1) := by decide +kernel
theorem dX6_readClause_109 : decode cX6_readClause 109 = .ok (.iadd, 1) := by decide +kernel
theorem dX6_readClause_110 : decode cX6_readClause 110 = .ok (.putfield 22, 3) := by decide +kernel
theorem dX6_readClause_113 : decode cX6_readClause 113 = .ok (.aload_n 0, 1) := by decide +kernel
theorem dX6_readClause_114 : decode cX6_readClause 114 = .ok (.dup, 1) := by decide +kernel
theorem dX6_readClause_115 : decode cX6_readClause 115 = .ok (.getfield 18, 3) := by decide +kernel
theorem dX6_readClause_118 : decode cX6_readClause 118 = .ok (.iconst 1, 1) := by decide +kernel
theorem dX6_readClause_119 : decode cX6_readClause 119 = .ok (.iadd, 1) := by decide +kernel
theorem dX6_readClause_120 : decode cX6_readClause 120 = .ok (.putfield 18, 3) := by decide +kernel
theorem dX6_readClause_123 : decode cX6_readClause 123 = .ok (.iload_n 1, 1) := by decide +kernel
theorem dX6_readClause_124 : decode cX6_readClause 124 = .ok (.ifCond .eq 10, 3) := by decide +kernel
theorem dX6_readClause_127 : decode cX6_readClause 127 = .ok (.aload_n 0, 1) := by decide +kernel
theorem dX6_readClause_128 : decode cX6_readClause 128 = .ok (.invokevirtual 81, 3) := by decide +kernel
theorem dX6_readClause_131 : decode cX6_readClause 131 = .ok (.goto 29, 3) := by decide +kernel
theorem dX6_readClause_134 : decode cX6_readClause 134 = .ok (.iload_n 2, 1) := by decide +kernel
theorem dX6_readClause_135 : decode cX6_readClause 135 = .ok (.ifCond .eq 10, 3) := by decide +kernel
theorem dX6_readClause_138 : decode cX6_readClause 138 = .ok (.aload_n 0, 1) := by decide +kernel
theorem dX6_readClause_139 : decode cX6_readClause 139 = .ok (.invokevirtual 84, 3) := by decide +kernel
theorem dX6_readClause_142 : decode cX6_readClause 142 = .ok (.goto 18, 3) := by decide +kernel
theorem dX6_readClause_145 : decode cX6_readClause 145 = .ok (.iload_n 3, 1) := by decide +kernel
theorem dX6_readClause_146 : decode cX6_readClause 146 = .ok (.ifCond .eq 10, 3) := by decide +kernel
theorem dX6_readClause_149 : decode cX6_readClause 149 = .ok (.aload_n 0, 1) := by decide +kernel
theorem dX6_readClause_150 : decode cX6_readClause 150 = .ok (.invokevirtual 87, 3) := by decide +kernel
theorem dX6_readClause_153 : decode cX6_readClause 153 = .ok (.goto 7, 3) := by decide +kernel
theorem dX6_readClause_156 : decode cX6_readClause 156 = .ok (.aload_n 0, 1) := by decide +kernel
theorem dX6_readClause_157 : decode cX6_readClause 157 = .ok (.invokevirtual 90, 3) := by decide +kernel
theorem dX6_readClause_160 : decode cX6_readClause 160 = .ok (.aload_n 0, 1) := by decide +kernel
theorem dX6_readClause_161 : decode cX6_readClause 161 = .ok (.aload_n 0, 1) := by decide +kernel
theorem dX6_readClause_162 : decode cX6_readClause 162 = .ok (.invokevirtual 47, 3) := by decide +kernel
theorem dX6_readClause_165 : decode cX6_readClause 165 = .ok (.bipush 59, 2) := by decide +kernel
theorem dX6_readClause_167 : decode cX6_readClause 167 = .ok (.if_icmp .ne 7, 3) := by decide +kernel
theorem dX6_readClause_170 : decode cX6_readClause 170 = .ok (.iconst 1, 1) := by decide +kernel
theorem dX6_readClause_171 : decode cX6_readClause 171 = .ok (.goto 4, 3) := by decide +kernel
theorem dX6_readClause_174 : decode cX6_readClause 174 = .ok (.iconst 0, 1) := by decide +kernel
theorem dX6_readClause_175 : decode cX6_readClause 175 = .ok (.invokevirtual 93, 3) := by decide +kernel
theorem dX6_readClause_178 : decode cX6_readClause 178 = .ok (.return_, 1) := by decide +kernel
theorem dX6_readWeight_0 : decode cX6_readWeight 0 = .ok (.aload_n 0, 1) := by decide +kernel
theorem dX6_readWeight_1 : decode cX6_readWeight 1 = .ok (.getfield 12, 3) := by decide +kernel
theorem dX6_readWeight_4 : decode cX6_readWeight 4 = .ok (.iconst 1, 1) := by decide +kernel
theorem dX6_readWeight_5 : decode cX6_readWeight 5 = .ok (.putfield 78, 3) := by decide +kernel
theorem dX6_readWeight_8 : decode cX6_readWeight 8 = .ok (.aload_n 0, 1) := by decide +kernel
theorem dX6_readWeight_9 : decode cX6_readWeight 9 = .ok (.getfield 12, 3) := by decide +kernel
theorem dX6_readWeight_12 : decode cX6_readWeight 12 = .ok (.aload_n 0, 1) := by decide +kernel
theorem dX6_readWeight_13 : decode cX6_readWeight 13 = .ok (.getfield 12, 3) := by decide +kernel
theorem dX6_readWeight_16 : decode cX6_readWeight 16 = .ok (.getfield 97, 3) := by decide +kernel
theorem dX6_readWeight_19 : decode cX6_readWeight 19 = .ok (.putfield 100, 3) := by decide +kernel
theorem dX6_readWeight_22 : decode cX6_readWeight 22 = .ok (.aload_n 0, 1) := by decide +kernel
theorem dX6_readWeight_23 : decode cX6_readWeight 23 = .ok (.iconst 0, 1) := by decide +kernel
theorem dX6_readWeight_24 : decode cX6_readWeight 24 = .ok (.invokevirtual 103, 3) := by decide +kernel
theorem dX6_readWeight_27 : decode cX6_readWeight 27 = .ok (.aload_n 0, 1) := by decide +kernel
theorem dX6_readWeight_28 : decode cX6_readWeight 28 = .ok (.getfield 12, 3) := by decide +kernel
theorem dX6_readWeight_31 : decode cX6_readWeight 31 = .ok (.aload_n 0, 1) := by decide +kernel
theorem dX6_readWeight_32 : decode cX6_readWeight 32 = .ok (.getfield 12, 3) := by decide +kernel
theorem dX6_readWeight_35 : decode cX6_readWeight 35 = .ok (.getfield 97, 3) := by decide +kernel
theorem dX6_readWeight_38 : decode cX6_readWeight 38 = .ok (.putfield 106, 3) := by decide +kernel
theorem dX6_readWeight_41 : decode cX6_readWeight 41 = .ok (.return_, 1) := by decide +kernel
theorem dX6_readEntry_0 : decode cX6_readEntry 0 = .ok (.aload_n 0, 1) := by decide +kernel
theorem dX6_readEntry_1 : decode cX6_readEntry 1 = .ok (.invokevirtual 109, 3) := by decide +kernel
theorem dX6_readEntry_4 : decode cX6_readEntry 4 = .ok (.istore_n 1, 1) := by decide +kernel
theorem dX6_readEntry_5 : decode cX6_readEntry 5 = .ok (.aload_n 0, 1) := by decide +kernel
theorem dX6_readEntry_6 : decode cX6_readEntry 6 = .ok (.iconst 1, 1) := by decide +kernel
theorem dX6_readEntry_7 : decode cX6_readEntry 7 = .ok (.bipush 9, 2) := by decide +kernel
theorem dX6_readEntry_9 : decode cX6_readEntry 9 = .ok (.invokevirtual 112, 3) := by decide +kernel
theorem dX6_readEntry_12 : decode cX6_readEntry 12 = .ok (.istore_n 2, 1) := by decide +kernel
theorem dX6_readEntry_13 : decode cX6_readEntry 13 = .ok (.aload_n 0, 1) := by decide +kernel
theorem dX6_readEntry_14 : decode cX6_readEntry 14 = .ok (.getfield 25, 3) := by decide +kernel
theorem dX6_readEntry_17 : decode cX6_readEntry 17 = .ok (.ifCond .ne 12, 3) := by decide +kernel
theorem dX6_readEntry_20 : decode cX6_readEntry 20 = .ok (.aload_n 0, 1) := by decide +kernel
theorem dX6_readEntry_21 : decode cX6_readEntry 21 = .ok (.getfield 12, 3) := by decide +kernel
theorem dX6_readEntry_24 : decode cX6_readEntry 24 = .ok (.iload_n 1, 1) := by decide +kernel
theorem dX6_readEntry_25 : decode cX6_readEntry 25 = .ok (.iload_n 2, 1) := by decide +kernel
theorem dX6_readEntry_26 : decode cX6_readEntry 26 = .ok (.invokevirtual 116, 3) := by decide +kernel
theorem dX6_readEntry_29 : decode cX6_readEntry 29 = .ok (.return_, 1) := by decide +kernel
theorem dX6_readRoad_0 : decode cX6_readRoad 0 = .ok (.aload_n 0, 1) := by decide +kernel
theorem dX6_readRoad_1 : decode cX6_readRoad 1 = .ok (.iconst 0, 1) := by decide +kernel
theorem dX6_readRoad_2 : decode cX6_readRoad 2 = .ok (.bipush 8, 2) := by decide +kernel
theorem dX6_readRoad_4 : decode cX6_readRoad 4 = .ok (.invokevirtual 112, 3) := by decide +kernel
theorem dX6_readRoad_7 : decode cX6_readRoad 7 = .ok (.istore_n 1, 1) := by decide +kernel
theorem dX6_readRoad_8 : decode cX6_readRoad 8 = .ok (.aload_n 0, 1) := by decide +kernel
theorem dX6_readRoad_9 : decode cX6_readRoad 9 = .ok (.aload_n 0, 1) := by decide +kernel
theorem dX6_readRoad_10 : decode cX6_readRoad 10 = .ok (.bipush 10, 2) := by decide +kernel
theorem dX6_readRoad_12 : decode cX6_readRoad 12 = .ok (.invokevirtual 70, 3) := by decide +kernel
theorem dX6_readRoad_15 : decode cX6_readRoad 15 = .ok (.invokevirtual 93, 3) := by decide +kernel
theorem dX6_readRoad_18 : decode cX6_readRoad 18 = .ok (.aload_n 0, 1) := by decide +kernel
theorem dX6_readRoad_19 : decode cX6_readRoad 19 = .ok (.iload_n 1, 1) := by decide +kernel
theorem dX6_readRoad_20 : decode cX6_readRoad 20 = .ok (.bipush 8, 2) := by decide +kernel
theorem dX6_readRoad_22 : decode cX6_readRoad 22 = .ok (.invokevirtual 112, 3) := by decide +kernel
theorem dX6_readRoad_25 : decode cX6_readRoad 25 = .ok (.istore_n 2, 1) := by decide +kernel
theorem dX6_readRoad_26 : decode cX6_readRoad 26 = .ok (.aload_n 0, 1) := by decide +kernel
theorem dX6_readRoad_27 : decode cX6_readRoad 27 = .ok (.getfield 25, 3) := by decide +kernel
theorem dX6_readRoad_30 : decode cX6_readRoad 30 = .ok (.ifCond .ne 12, 3) := by decide +kernel
theorem dX6_readRoad_33 : decode cX6_readRoad 33 = .ok (.aload_n 0, 1) := by decide +kernel
theorem dX6_readRoad_34 : decode cX6_readRoad 34 = .ok (.getfield 12, 3) := by decide +kernel
theorem dX6_readRoad_37 : decode cX6_readRoad 37 = .ok (.iload_n 1, 1) := by decide +kernel
theorem dX6_readRoad_38 : decode cX6_readRoad 38 = .ok (.iload_n 2, 1) := by decide +kernel
theorem dX6_readRoad_39 : decode cX6_readRoad 39 = .ok (.invokevirtual 120, 3) := by decide +kernel
theorem dX6_readRoad_42 : decode cX6_readRoad 42 = .ok (.return_, 1) := by decide +kernel
theorem dX6_readWord_0 : decode cX6_readWord 0 = .ok (.aload_n 0, 1) := by decide +kernel
theorem dX6_readWord_1 : decode cX6_readWord 1 = .ok (.invokevirtual 47, 3) := by decide +kernel
theorem dX6_readWord_4 : decode cX6_readWord 4 = .ok (.iconst 1, 1) := by decide +kernel
theorem dX6_readWord_5 : decode cX6_readWord 5 = .ok (.if_icmp .ne 18, 3) := by decide +kernel
theorem dX6_readWord_8 : decode cX6_readWord 8 = .ok (.aload_n 0, 1) := by decide +kernel
theorem dX6_readWord_9 : decode cX6_readWord 9 = .ok (.getfield 36, 3) := by decide +kernel
theorem dX6_readWord_12 : decode cX6_readWord 12 = .ok (.getfield 123, 3) := by decide +kernel
theorem dX6_readWord_15 : decode cX6_readWord 15 = .ok (.aload_n 0, 1) := by decide +kernel
theorem dX6_readWord_16 : decode cX6_readWord 16 = .ok (.getfield 18, 3) := by decide +kernel
theorem dX6_readWord_19 : decode cX6_readWord 19 = .ok (.iaload, 1) := by decide +kernel
theorem dX6_readWord_20 : decode cX6_readWord 20 = .ok (.goto 4, 3) := by decide +kernel
theorem dX6_readWord_23 : decode cX6_readWord 23 = .ok (.iconst (-1), 1) := by decide +kernel
theorem dX6_readWord_24 : decode cX6_readWord 24 = .ok (.istore_n 1, 1) := by decide +kernel
theorem dX6_readWord_25 : decode cX6_readWord 25 = .ok (.aload_n 0, 1) := by decide +kernel
theorem dX6_readWord_26 : decode cX6_readWord 26 = .ok (.invokevirtual 47, 3) := by decide +kernel
theorem dX6_readWord_29 : decode cX6_readWord 29 = .ok (.iconst 1, 1) := by decide +kernel
theorem dX6_readWord_30 : decode cX6_readWord 30 = .ok (.if_icmp .eq 11, 3) := by decide +kernel
theorem dX6_readWord_33 : decode cX6_readWord 33 = .ok (.aload_n 0, 1) := by decide +kernel
theorem dX6_readWord_34 : decode cX6_readWord 34 = .ok (.iconst 1, 1) := by decide +kernel
theorem dX6_readWord_35 : decode cX6_readWord 35 = .ok (.invokevirtual 66, 3) := by decide +kernel
theorem dX6_readWord_38 : decode cX6_readWord 38 = .ok (.goto 26, 3) := by decide +kernel
theorem dX6_readWord_41 : decode cX6_readWord 41 = .ok (.iload_n 1, 1) := by decide +kernel
theorem dX6_readWord_42 : decode cX6_readWord 42 = .ok (.iconst (-1), 1) := by decide +kernel
theorem dX6_readWord_43 : decode cX6_readWord 43 = .ok (.if_icmp .ne 11, 3) := by decide +kernel
theorem dX6_readWord_46 : decode cX6_readWord 46 = .ok (.aload_n 0, 1) := by decide +kernel
theorem dX6_readWord_47 : decode cX6_readWord 47 = .ok (.iconst 2, 1) := by decide +kernel
theorem dX6_readWord_48 : decode cX6_readWord 48 = .ok (.invokevirtual 66, 3) := by decide +kernel
theorem dX6_readWord_51 : decode cX6_readWord 51 = .ok (.goto 13, 3) := by decide +kernel
theorem dX6_readWord_54 : decode cX6_readWord 54 = .ok (.aload_n 0, 1) := by decide +kernel
theorem dX6_readWord_55 : decode cX6_readWord 55 = .ok (.dup, 1) := by decide +kernel
theorem dX6_readWord_56 : decode cX6_readWord 56 = .ok (.getfield 18, 3) := by decide +kernel
theorem dX6_readWord_59 : decode cX6_readWord 59 = .ok (.iconst 1, 1) := by decide +kernel
theorem dX6_readWord_60 : decode cX6_readWord 60 = .ok (.iadd, 1) := by decide +kernel
theorem dX6_readWord_61 : decode cX6_readWord 61 = .ok (.putfield 18, 3) := by decide +kernel
theorem dX6_readWord_64 : decode cX6_readWord 64 = .ok (.iload_n 1, 1) := by decide +kernel
theorem dX6_readWord_65 : decode cX6_readWord 65 = .ok (.ireturn, 1) := by decide +kernel
theorem dX6_readNumber_0 : decode cX6_readNumber 0 = .ok (.aload_n 0, 1) := by decide +kernel
theorem dX6_readNumber_1 : decode cX6_readNumber 1 = .ok (.invokevirtual 47, 3) := by decide +kernel
theorem dX6_readNumber_4 : decode cX6_readNumber 4 = .ok (.iconst 2, 1) := by decide +kernel
theorem dX6_readNumber_5 : decode cX6_readNumber 5 = .ok (.if_icmp .ne 18, 3) := by decide +kernel
theorem dX6_readNumber_8 : decode cX6_readNumber 8 = .ok (.aload_n 0, 1) := by decide +kernel
theorem dX6_readNumber_9 : decode cX6_readNumber 9 = .ok (.getfield 36, 3) := by decide +kernel
theorem dX6_readNumber_12 : decode cX6_readNumber 12 = .ok (.getfield 123, 3) := by decide +kernel
theorem dX6_readNumber_15 : decode cX6_readNumber 15 = .ok (.aload_n 0, 1) := by decide +kernel
theorem dX6_readNumber_16 : decode cX6_readNumber 16 = .ok (.getfield 18, 3) := by decide +kernel
theorem dX6_readNumber_19 : decode cX6_readNumber 19 = .ok (.iaload, 1) := by decide +kernel
theorem dX6_readNumber_20 : decode cX6_readNumber 20 = .ok (.goto 4, 3) := by decide +kernel
theorem dX6_readNumber_23 : decode cX6_readNumber 23 = .ok (.iconst (-1), 1) := by decide +kernel
theorem dX6_readNumber_24 : decode cX6_readNumber 24 = .ok (.istore_n 3, 1) := by decide +kernel
theorem dX6_readNumber_25 : decode cX6_readNumber 25 = .ok (.aload_n 0, 1) := by decide +kernel
theorem dX6_readNumber_26 : decode cX6_readNumber 26 = .ok (.invokevirtual 47, 3) := by decide +kernel
theorem dX6_readNumber_29 : decode cX6_readNumber 29 = .ok (.iconst 2, 1) := by decide +kernel
theorem dX6_readNumber_30 : decode cX6_readNumber 30 = .ok (.if_icmp .eq 11, 3) := by decide +kernel
theorem dX6_readNumber_33 : decode cX6_readNumber 33 = .ok (.aload_n 0, 1) := by decide +kernel
theorem dX6_readNumber_34 : decode cX6_readNumber 34 = .ok (.iconst 1, 1) := by decide +kernel
theorem dX6_readNumber_35 : decode cX6_readNumber 35 = .ok (.invokevirtual 66, 3) := by decide +kernel
theorem dX6_readNumber_38 : decode cX6_readNumber 38 = .ok (.goto 31, 3) := by decide +kernel
theorem dX6_readNumber_41 : decode cX6_readNumber 41 = .ok (.iload_n 3, 1) := by decide +kernel
theorem dX6_readNumber_42 : decode cX6_readNumber 42 = .ok (.iload_n 1, 1) := by decide +kernel
theorem dX6_readNumber_43 : decode cX6_readNumber 43 = .ok (.if_icmp .lt 8, 3) := by decide +kernel
theorem dX6_readNumber_46 : decode cX6_readNumber 46 = .ok (.iload_n 3, 1) := by decide +kernel
theorem dX6_readNumber_47 : decode cX6_readNumber 47 = .ok (.iload_n 2, 1) := by decide +kernel
theorem dX6_readNumber_48 : decode cX6_readNumber 48 = .ok (.if_icmp .le 11, 3) := by decide +kernel
theorem dX6_readNumber_51 : decode cX6_readNumber 51 = .ok (.aload_n 0, 1) := by decide +kernel
theorem dX6_readNumber_52 : decode cX6_readNumber 52 = .ok (.iconst 2, 1) := by decide +kernel
theorem dX6_readNumber_53 : decode cX6_readNumber 53 = .ok (.invokevirtual 66, 3) := by decide +kernel
theorem dX6_readNumber_56 : decode cX6_readNumber 56 = .ok (.goto 13, 3) := by decide +kernel
theorem dX6_readNumber_59 : decode cX6_readNumber 59 = .ok (.aload_n 0, 1) := by decide +kernel
theorem dX6_readNumber_60 : decode cX6_readNumber 60 = .ok (.dup, 1) := by decide +kernel
theorem dX6_readNumber_61 : decode cX6_readNumber 61 = .ok (.getfield 18, 3) := by decide +kernel
theorem dX6_readNumber_64 : decode cX6_readNumber 64 = .ok (.iconst 1, 1) := by decide +kernel
theorem dX6_readNumber_65 : decode cX6_readNumber 65 = .ok (.iadd, 1) := by decide +kernel
theorem dX6_readNumber_66 : decode cX6_readNumber 66 = .ok (.putfield 18, 3) := by decide +kernel
theorem dX6_readNumber_69 : decode cX6_readNumber 69 = .ok (.iload_n 3, 1) := by decide +kernel
theorem dX6_readNumber_70 : decode cX6_readNumber 70 = .ok (.ireturn, 1) := by decide +kernel
theorem dX6_readMay_0 : decode cX6_readMay 0 = .ok (.aload_n 0, 1) := by decide +kernel
theorem dX6_readMay_1 : decode cX6_readMay 1 = .ok (.getfield 12, 3) := by decide +kernel
theorem dX6_readMay_4 : decode cX6_readMay 4 = .ok (.iconst 1, 1) := by decide +kernel
theorem dX6_readMay_5 : decode cX6_readMay 5 = .ok (.putfield 74, 3) := by decide +kernel
theorem dX6_readMay_8 : decode cX6_readMay 8 = .ok (.aload_n 0, 1) := by decide +kernel
theorem dX6_readMay_9 : decode cX6_readMay 9 = .ok (.getfield 12, 3) := by decide +kernel
theorem dX6_readMay_12 : decode cX6_readMay 12 = .ok (.aload_n 0, 1) := by decide +kernel
theorem dX6_readMay_13 : decode cX6_readMay 13 = .ok (.getfield 12, 3) := by decide +kernel
theorem dX6_readMay_16 : decode cX6_readMay 16 = .ok (.getfield 97, 3) := by decide +kernel
theorem dX6_readMay_19 : decode cX6_readMay 19 = .ok (.putfield 126, 3) := by decide +kernel
theorem dX6_readMay_22 : decode cX6_readMay 22 = .ok (.aload_n 0, 1) := by decide +kernel
theorem dX6_readMay_23 : decode cX6_readMay 23 = .ok (.iconst 0, 1) := by decide +kernel
theorem dX6_readMay_24 : decode cX6_readMay 24 = .ok (.invokevirtual 129, 3) := by decide +kernel
theorem dX6_readMay_27 : decode cX6_readMay 27 = .ok (.iconst 0, 1) := by decide +kernel
theorem dX6_readMay_28 : decode cX6_readMay 28 = .ok (.istore_n 1, 1) := by decide +kernel
theorem dX6_readMay_29 : decode cX6_readMay 29 = .ok (.iconst 0, 1) := by decide +kernel
theorem dX6_readMay_30 : decode cX6_readMay 30 = .ok (.istore_n 2, 1) := by decide +kernel
theorem dX6_readMay_31 : decode cX6_readMay 31 = .ok (.iload_n 2, 1) := by decide +kernel
theorem dX6_readMay_32 : decode cX6_readMay 32 = .ok (.sipush 300, 3) := by decide +kernel
theorem dX6_readMay_35 : decode cX6_readMay 35 = .ok (.if_icmp .ge 98, 3) := by decide +kernel
theorem dX6_readMay_38 : decode cX6_readMay 38 = .ok (.aload_n 0, 1) := by decide +kernel
theorem dX6_readMay_39 : decode cX6_readMay 39 = .ok (.getfield 25, 3) := by decide +kernel
theorem dX6_readMay_42 : decode cX6_readMay 42 = .ok (.ifCond .ne 91, 3) := by decide +kernel
theorem dX6_readMay_45 : decode cX6_readMay 45 = .ok (.aload_n 0, 1) := by decide +kernel
theorem dX6_readMay_46 : decode cX6_readMay 46 = .ok (.bipush 11, 2) := by decide +kernel
theorem dX6_readMay_48 : decode cX6_readMay 48 = .ok (.invokevirtual 70, 3) := by decide +kernel
theorem dX6_readMay_51 : decode cX6_readMay 51 = .ok (.ifCond .ne 12, 3) := by decide +kernel
theorem dX6_readMay_54 : decode cX6_readMay 54 = .ok (.aload_n 0, 1) := by decide +kernel
theorem dX6_readMay_55 : decode cX6_readMay 55 = .ok (.bipush 12, 2) := by decide +kernel
theorem dX6_readMay_57 : decode cX6_readMay 57 = .ok (.invokevirtual 70, 3) := by decide +kernel
theorem dX6_readMay_60 : decode cX6_readMay 60 = .ok (.ifCond .eq 73, 3) := by decide +kernel
theorem dX6_readMay_63 : decode cX6_readMay 63 = .ok (.aload_n 0, 1) := by decide +kernel
theorem dX6_readMay_64 : decode cX6_readMay 64 = .ok (.bipush 12, 2) := by decide +kernel
theorem dX6_readMay_66 : decode cX6_readMay 66 = .ok (.invokevirtual 70, 3) := by decide +kernel
theorem dX6_readMay_69 : decode cX6_readMay 69 = .ok (.istore_n 3, 1) := by decide +kernel
theorem dX6_readMay_70 : decode cX6_readMay 70 = .ok (.iload_n 3, 1) := by decide +kernel
theorem dX6_readMay_71 : decode cX6_readMay 71 = .ok (.ifCond .ne 16, 3) := by decide +kernel
theorem dX6_readMay_74 : decode cX6_readMay 74 = .ok (.iload_n 1, 1) := by decide +kernel
theorem dX6_readMay_75 : decode cX6_readMay 75 = .ok (.ifCond .eq 12, 3) := by decide +kernel
theorem dX6_readMay_78 : decode cX6_readMay 78 = .ok (.aload_n 0, 1) := by decide +kernel
theorem dX6_readMay_79 : decode cX6_readMay 79 = .ok (.getfield 12, 3) := by decide +kernel
theorem dX6_readMay_82 : decode cX6_readMay 82 = .ok (.bipush (-22), 2) := by decide +kernel
theorem dX6_readMay_84 : decode cX6_readMay 84 = .ok (.invokevirtual 134, 3) := by decide +kernel
theorem dX6_readMay_87 : decode cX6_readMay 87 = .ok (.iload_n 1, 1) := by decide +kernel
theorem dX6_readMay_88 : decode cX6_readMay 88 = .ok (.iload_n 3, 1) := by decide +kernel
theorem dX6_readMay_89 : decode cX6_readMay 89 = .ok (.ifCond .ne 7, 3) := by decide +kernel
theorem dX6_readMay_92 : decode cX6_readMay 92 = .ok (.iconst 1, 1) := by decide +kernel
theorem dX6_readMay_93 : decode cX6_readMay 93 = .ok (.goto 4, 3) := by decide +kernel
theorem dX6_readMay_96 : decode cX6_readMay 96 = .ok (.iconst 0, 1) := by decide +kernel
theorem dX6_readMay_97 : decode cX6_readMay 97 = .ok (.ior, 1) := by decide +kernel
theorem dX6_readMay_98 : decode cX6_readMay 98 = .ok (.istore_n 1, 1) := by decide +kernel
theorem dX6_readMay_99 : decode cX6_readMay 99 = .ok (.aload_n 0, 1) := by decide +kernel
theorem dX6_readMay_100 : decode cX6_readMay 100 = .ok (.dup, 1) := by decide +kernel
theorem dX6_readMay_101 : decode cX6_readMay 101 = .ok (.getfield 18, 3) := by decide +kernel
theorem dX6_readMay_104 : decode cX6_readMay 104 = .ok (.iconst 1, 1) := by decide +kernel
theorem dX6_readMay_105 : decode cX6_readMay 105 = .ok (.iadd, 1) := by decide +kernel
theorem dX6_readMay_106 : decode cX6_readMay 106 = .ok (.putfield 18, 3) := by decide +kernel
theorem dX6_readMay_109 : decode cX6_readMay 109 = .ok (.aload_n 0, 1) := by decide +kernel
theorem dX6_readMay_110 : decode cX6_readMay 110 = .ok (.iconst 0, 1) := by decide +kernel
theorem dX6_readMay_111 : decode cX6_readMay 111 = .ok (.invokevirtual 129, 3) := by decide +kernel
theorem dX6_readMay_114 : decode cX6_readMay 114 = .ok (.iload_n 3, 1) := by decide +kernel
theorem dX6_readMay_115 : decode cX6_readMay 115 = .ok (.ifCond .eq 12, 3) := by decide +kernel
theorem dX6_readMay_118 : decode cX6_readMay 118 = .ok (.aload_n 0, 1) := by decide +kernel
theorem dX6_readMay_119 : decode cX6_readMay 119 = .ok (.getfield 12, 3) := by decide +kernel
theorem dX6_readMay_122 : decode cX6_readMay 122 = .ok (.bipush (-21), 2) := by decide +kernel
theorem dX6_readMay_124 : decode cX6_readMay 124 = .ok (.invokevirtual 134, 3) := by decide +kernel
theorem dX6_readMay_127 : decode cX6_readMay 127 = .ok (.iinc 2 1, 3) := by decide +kernel
theorem dX6_readMay_130 : decode cX6_readMay 130 = .ok (.goto (-99), 3) := by decide +kernel
theorem dX6_readMay_133 : decode cX6_readMay 133 = .ok (.iload_n 1, 1) := by decide +kernel
theorem dX6_readMay_134 : decode cX6_readMay 134 = .ok (.ifCond .eq 12, 3) := by decide +kernel
theorem dX6_readMay_137 : decode cX6_readMay 137 = .ok (.aload_n 0, 1) := by decide +kernel
theorem dX6_readMay_138 : decode cX6_readMay 138 = .ok (.getfield 12, 3) := by decide +kernel
theorem dX6_readMay_141 : decode cX6_readMay 141 = .ok (.bipush (-22), 2) := by decide +kernel
theorem dX6_readMay_143 : decode cX6_readMay 143 = .ok (.invokevirtual 134, 3) := by decide +kernel
theorem dX6_readMay_146 : decode cX6_readMay 146 = .ok (.aload_n 0, 1) := by decide +kernel
theorem dX6_readMay_147 : decode cX6_readMay 147 = .ok (.getfield 12, 3) := by decide +kernel
theorem dX6_readMay_150 : decode cX6_readMay 150 = .ok (.aload_n 0, 1) := by decide +kernel
theorem dX6_readMay_151 : decode cX6_readMay 151 = .ok (.getfield 12, 3) := by decide +kernel
theorem dX6_readMay_154 : decode cX6_readMay 154 = .ok (.getfield 97, 3) := by decide +kernel
theorem dX6_readMay_157 : decode cX6_readMay 157 = .ok (.putfield 137, 3) := by decide +kernel
theorem dX6_readMay_160 : decode cX6_readMay 160 = .ok (.return_, 1) := by decide +kernel
theorem dX6_readAsk_0 : decode cX6_readAsk 0 = .ok (.aload_n 0, 1) := by decide +kernel
theorem dX6_readAsk_1 : decode cX6_readAsk 1 = .ok (.bipush 13, 2) := by decide +kernel
theorem dX6_readAsk_3 : decode cX6_readAsk 3 = .ok (.invokevirtual 70, 3) := by decide +kernel
theorem dX6_readAsk_6 : decode cX6_readAsk 6 = .ok (.ifCond .eq 28, 3) := by decide +kernel
theorem dX6_readAsk_9 : decode cX6_readAsk 9 = .ok (.aload_n 0, 1) := by decide +kernel
theorem dX6_readAsk_10 : decode cX6_readAsk 10 = .ok (.iload_n 1, 1) := by decide +kernel
theorem dX6_readAsk_11 : decode cX6_readAsk 11 = .ok (.invokevirtual 140, 3) := by decide +kernel
theorem dX6_readAsk_14 : decode cX6_readAsk 14 = .ok (.ifCond .eq 19, 3) := by decide +kernel
theorem dX6_readAsk_17 : decode cX6_readAsk 17 = .ok (.aload_n 0, 1) := by decide +kernel
theorem dX6_readAsk_18 : decode cX6_readAsk 18 = .ok (.iload_n 1, 1) := by decide +kernel
theorem dX6_readAsk_19 : decode cX6_readAsk 19 = .ok (.iconst 1, 1) := by decide +kernel
theorem dX6_readAsk_20 : decode cX6_readAsk 20 = .ok (.iadd, 1) := by decide +kernel
theorem dX6_readAsk_21 : decode cX6_readAsk 21 = .ok (.invokevirtual 129, 3) := by decide +kernel
theorem dX6_readAsk_24 : decode cX6_readAsk 24 = .ok (.aload_n 0, 1) := by decide +kernel
theorem dX6_readAsk_25 : decode cX6_readAsk 25 = .ok (.getfield 12, 3) := by decide +kernel
theorem dX6_readAsk_28 : decode cX6_readAsk 28 = .ok (.bipush (-24), 2) := by decide +kernel
theorem dX6_readAsk_30 : decode cX6_readAsk 30 = .ok (.invokevirtual 134, 3) := by decide +kernel
theorem dX6_readAsk_33 : decode cX6_readAsk 33 = .ok (.return_, 1) := by decide +kernel
theorem dX6_readAsk_34 : decode cX6_readAsk 34 = .ok (.aload_n 0, 1) := by decide +kernel
theorem dX6_readAsk_35 : decode cX6_readAsk 35 = .ok (.iload_n 1, 1) := by decide +kernel
theorem dX6_readAsk_36 : decode cX6_readAsk 36 = .ok (.invokevirtual 103, 3) := by decide +kernel
theorem dX6_readAsk_39 : decode cX6_readAsk 39 = .ok (.aload_n 0, 1) := by decide +kernel
theorem dX6_readAsk_40 : decode cX6_readAsk 40 = .ok (.invokevirtual 47, 3) := by decide +kernel
theorem dX6_readAsk_43 : decode cX6_readAsk 43 = .ok (.invokestatic 143, 3) := by decide +kernel
theorem dX6_readAsk_46 : decode cX6_readAsk 46 = .ok (.istore_n 2, 1) := by decide +kernel
theorem dX6_readAsk_47 : decode cX6_readAsk 47 = .ok (.aload_n 0, 1) := by decide +kernel
theorem dX6_readAsk_48 : decode cX6_readAsk 48 = .ok (.iload_n 2, 1) := by decide +kernel
theorem dX6_readAsk_49 : decode cX6_readAsk 49 = .ok (.ifCond .eq 7, 3) := by decide +kernel
theorem dX6_readAsk_52 : decode cX6_readAsk 52 = .ok (.iconst 1, 1) := by decide +kernel
theorem dX6_readAsk_53 : decode cX6_readAsk 53 = .ok (.goto 4, 3) := by decide +kernel
theorem dX6_readAsk_56 : decode cX6_readAsk 56 = .ok (.iconst 0, 1) := by decide +kernel
theorem dX6_readAsk_57 : decode cX6_readAsk 57 = .ok (.invokevirtual 93, 3) := by decide +kernel
theorem dX6_readAsk_60 : decode cX6_readAsk 60 = .ok (.aload_n 0, 1) := by decide +kernel
theorem dX6_readAsk_61 : decode cX6_readAsk 61 = .ok (.iload_n 1, 1) := by decide +kernel
theorem dX6_readAsk_62 : decode cX6_readAsk 62 = .ok (.invokevirtual 103, 3) := by decide +kernel
theorem dX6_readAsk_65 : decode cX6_readAsk 65 = .ok (.aload_n 0, 1) := by decide +kernel
theorem dX6_readAsk_66 : decode cX6_readAsk 66 = .ok (.getfield 12, 3) := by decide +kernel
theorem dX6_readAsk_69 : decode cX6_readAsk 69 = .ok (.iload_n 2, 1) := by decide +kernel
theorem dX6_readAsk_70 : decode cX6_readAsk 70 = .ok (.invokevirtual 134, 3) := by decide +kernel
theorem dX6_readAsk_73 : decode cX6_readAsk 73 = .ok (.return_, 1) := by decide +kernel
theorem dX6_opensOneMore_0 : decode cX6_opensOneMore 0 = .ok (.iload_n 1, 1) := by decide +kernel
theorem dX6_opensOneMore_1 : decode cX6_opensOneMore 1 = .ok (.bipush 8, 2) := by decide +kernel
theorem dX6_opensOneMore_3 : decode cX6_opensOneMore 3 = .ok (.if_icmp .lt 10, 3) := by decide +kernel
theorem dX6_opensOneMore_6 : decode cX6_opensOneMore 6 = .ok (.aload_n 0, 1) := by decide +kernel
theorem dX6_opensOneMore_7 : decode cX6_opensOneMore 7 = .ok (.iconst 3, 1) := by decide +kernel
theorem dX6_opensOneMore_8 : decode cX6_opensOneMore 8 = .ok (.invokevirtual 66, 3) := by decide +kernel
theorem dX6_opensOneMore_11 : decode cX6_opensOneMore 11 = .ok (.iconst 0, 1) := by decide +kernel
theorem dX6_opensOneMore_12 : decode cX6_opensOneMore 12 = .ok (.ireturn, 1) := by decide +kernel
theorem dX6_opensOneMore_13 : decode cX6_opensOneMore 13 = .ok (.aload_n 0, 1) := by decide +kernel
theorem dX6_opensOneMore_14 : decode cX6_opensOneMore 14 = .ok (.dup, 1) := by decide +kernel
theorem dX6_opensOneMore_15 : decode cX6_opensOneMore 15 = .ok (.getfield 18, 3) := by decide +kernel
theorem dX6_opensOneMore_18 : decode cX6_opensOneMore 18 = .ok (.iconst 1, 1) := by decide +kernel
theorem dX6_opensOneMore_19 : decode cX6_opensOneMore 19 = .ok (.iadd, 1) := by decide +kernel
theorem dX6_opensOneMore_20 : decode cX6_opensOneMore 20 = .ok (.putfield 18, 3) := by decide +kernel
theorem dX6_opensOneMore_23 : decode cX6_opensOneMore 23 = .ok (.iconst 1, 1) := by decide +kernel
theorem dX6_opensOneMore_24 : decode cX6_opensOneMore 24 = .ok (.ireturn, 1) := by decide +kernel
theorem dX6_readSum_0 : decode cX6_readSum 0 = .ok (.aload_n 0, 1) := by decide +kernel
theorem dX6_readSum_1 : decode cX6_readSum 1 = .ok (.iload_n 1, 1) := by decide +kernel
theorem dX6_readSum_2 : decode cX6_readSum 2 = .ok (.invokevirtual 147, 3) := by decide +kernel
theorem dX6_readSum_5 : decode cX6_readSum 5 = .ok (.iconst 0, 1) := by decide +kernel
theorem dX6_readSum_6 : decode cX6_readSum 6 = .ok (.istore_n 2, 1) := by decide +kernel
theorem dX6_readSum_7 : decode cX6_readSum 7 = .ok (.iload_n 2, 1) := by decide +kernel
theorem dX6_readSum_8 : decode cX6_readSum 8 = .ok (.sipush 300, 3) := by decide +kernel
theorem dX6_readSum_11 : decode cX6_readSum 11 = .ok (.if_icmp .ge 74, 3) := by decide +kernel
theorem dX6_readSum_14 : decode cX6_readSum 14 = .ok (.aload_n 0, 1) := by decide +kernel
theorem dX6_readSum_15 : decode cX6_readSum 15 = .ok (.getfield 25, 3) := by decide +kernel
theorem dX6_readSum_18 : decode cX6_readSum 18 = .ok (.ifCond .ne 67, 3) := by decide +kernel
theorem dX6_readSum_21 : decode cX6_readSum 21 = .ok (.aload_n 0, 1) := by decide +kernel
theorem dX6_readSum_22 : decode cX6_readSum 22 = .ok (.invokevirtual 47, 3) := by decide +kernel
theorem dX6_readSum_25 : decode cX6_readSum 25 = .ok (.bipush 43, 2) := by decide +kernel
theorem dX6_readSum_27 : decode cX6_readSum 27 = .ok (.if_icmp .eq 12, 3) := by decide +kernel
theorem dX6_readSum_30 : decode cX6_readSum 30 = .ok (.aload_n 0, 1) := by decide +kernel
theorem dX6_readSum_31 : decode cX6_readSum 31 = .ok (.invokevirtual 47, 3) := by decide +kernel
theorem dX6_readSum_34 : decode cX6_readSum 34 = .ok (.bipush 45, 2) := by decide +kernel
theorem dX6_readSum_36 : decode cX6_readSum 36 = .ok (.if_icmp .ne 49, 3) := by decide +kernel
theorem dX6_readSum_39 : decode cX6_readSum 39 = .ok (.aload_n 0, 1) := by decide +kernel
theorem dX6_readSum_40 : decode cX6_readSum 40 = .ok (.invokevirtual 47, 3) := by decide +kernel
theorem dX6_readSum_43 : decode cX6_readSum 43 = .ok (.bipush 43, 2) := by decide +kernel
theorem dX6_readSum_45 : decode cX6_readSum 45 = .ok (.if_icmp .ne 8, 3) := by decide +kernel
theorem dX6_readSum_48 : decode cX6_readSum 48 = .ok (.bipush (-11), 2) := by decide +kernel
theorem dX6_readSum_50 : decode cX6_readSum 50 = .ok (.goto 5, 3) := by decide +kernel
theorem dX6_readSum_53 : decode cX6_readSum 53 = .ok (.bipush (-12), 2) := by decide +kernel
theorem dX6_readSum_55 : decode cX6_readSum 55 = .ok (.istore_n 3, 1) := by decide +kernel
theorem dX6_readSum_56 : decode cX6_readSum 56 = .ok (.aload_n 0, 1) := by decide +kernel
theorem dX6_readSum_57 : decode cX6_readSum 57 = .ok (.dup, 1) := by decide +kernel
theorem dX6_readSum_58 : decode cX6_readSum 58 = .ok (.getfield 18, 3) := by decide +kernel
theorem dX6_readSum_61 : decode cX6_readSum 61 = .ok (.iconst 1, 1) := by decide +kernel
theorem dX6_readSum_62 : decode cX6_readSum 62 = .ok (.iadd, 1) := by decide +kernel
theorem dX6_readSum_63 : decode cX6_readSum 63 = .ok (.putfield 18, 3) := by decide +kernel
theorem dX6_readSum_66 : decode cX6_readSum 66 = .ok (.aload_n 0, 1) := by decide +kernel
theorem dX6_readSum_67 : decode cX6_readSum 67 = .ok (.iload_n 1, 1) := by decide +kernel
theorem dX6_readSum_68 : decode cX6_readSum 68 = .ok (.invokevirtual 147, 3) := by decide +kernel
theorem dX6_readSum_71 : decode cX6_readSum 71 = .ok (.aload_n 0, 1) := by decide +kernel
theorem dX6_readSum_72 : decode cX6_readSum 72 = .ok (.getfield 12, 3) := by decide +kernel
theorem dX6_readSum_75 : decode cX6_readSum 75 = .ok (.iload_n 3, 1) := by decide +kernel
theorem dX6_readSum_76 : decode cX6_readSum 76 = .ok (.invokevirtual 134, 3) := by decide +kernel
theorem dX6_readSum_79 : decode cX6_readSum 79 = .ok (.iinc 2 1, 3) := by decide +kernel
theorem dX6_readSum_82 : decode cX6_readSum 82 = .ok (.goto (-75), 3) := by decide +kernel
theorem dX6_readSum_85 : decode cX6_readSum 85 = .ok (.return_, 1) := by decide +kernel
theorem dX6_readProduct_0 : decode cX6_readProduct 0 = .ok (.aload_n 0, 1) := by decide +kernel
theorem dX6_readProduct_1 : decode cX6_readProduct 1 = .ok (.iload_n 1, 1) := by decide +kernel
theorem dX6_readProduct_2 : decode cX6_readProduct 2 = .ok (.invokevirtual 150, 3) := by decide +kernel
theorem dX6_readProduct_5 : decode cX6_readProduct 5 = .ok (.iconst 0, 1) := by decide +kernel
theorem dX6_readProduct_6 : decode cX6_readProduct 6 = .ok (.istore_n 2, 1) := by decide +kernel
theorem dX6_readProduct_7 : decode cX6_readProduct 7 = .ok (.iload_n 2, 1) := by decide +kernel
theorem dX6_readProduct_8 : decode cX6_readProduct 8 = .ok (.sipush 300, 3) := by decide +kernel
theorem dX6_readProduct_11 : decode cX6_readProduct 11 = .ok (.if_icmp .ge 74, 3) := by decide +kernel
theorem dX6_readProduct_14 : decode cX6_readProduct 14 = .ok (.aload_n 0, 1) := by decide +kernel
theorem dX6_readProduct_15 : decode cX6_readProduct 15 = .ok (.getfield 25, 3) := by decide +kernel
theorem dX6_readProduct_18 : decode cX6_readProduct 18 = .ok (.ifCond .ne 67, 3) := by decide +kernel
theorem dX6_readProduct_21 : decode cX6_readProduct 21 = .ok (.aload_n 0, 1) := by decide +kernel
theorem dX6_readProduct_22 : decode cX6_readProduct 22 = .ok (.invokevirtual 47, 3) := by decide +kernel
theorem dX6_readProduct_25 : decode cX6_readProduct 25 = .ok (.bipush 42, 2) := by decide +kernel
theorem dX6_readProduct_27 : decode cX6_readProduct 27 = .ok (.if_icmp .eq 12, 3) := by decide +kernel
theorem dX6_readProduct_30 : decode cX6_readProduct 30 = .ok (.aload_n 0, 1) := by decide +kernel
theorem dX6_readProduct_31 : decode cX6_readProduct 31 = .ok (.invokevirtual 47, 3) := by decide +kernel
theorem dX6_readProduct_34 : decode cX6_readProduct 34 = .ok (.bipush 47, 2) := by decide +kernel
theorem dX6_readProduct_36 : decode cX6_readProduct 36 = .ok (.if_icmp .ne 49, 3) := by decide +kernel
theorem dX6_readProduct_39 : decode cX6_readProduct 39 = .ok (.aload_n 0, 1) := by decide +kernel
theorem dX6_readProduct_40 : decode cX6_readProduct 40 = .ok (.invokevirtual 47, 3) := by decide +kernel
theorem dX6_readProduct_43 : decode cX6_readProduct 43 = .ok (.bipush 42, 2) := by decide +kernel
theorem dX6_readProduct_45 : decode cX6_readProduct 45 = .ok (.if_icmp .ne 8, 3) := by decide +kernel
theorem dX6_readProduct_48 : decode cX6_readProduct 48 = .ok (.bipush (-13), 2) := by decide +kernel
theorem dX6_readProduct_50 : decode cX6_readProduct 50 = .ok (.goto 5, 3) := by decide +kernel
theorem dX6_readProduct_53 : decode cX6_readProduct 53 = .ok (.bipush (-14), 2) := by decide +kernel
theorem dX6_readProduct_55 : decode cX6_readProduct 55 = .ok (.istore_n 3, 1) := by decide +kernel
theorem dX6_readProduct_56 : decode cX6_readProduct 56 = .ok (.aload_n 0, 1) := by decide +kernel
theorem dX6_readProduct_57 : decode cX6_readProduct 57 = .ok (.dup, 1) := by decide +kernel
theorem dX6_readProduct_58 : decode cX6_readProduct 58 = .ok (.getfield 18, 3) := by decide +kernel
theorem dX6_readProduct_61 : decode cX6_readProduct 61 = .ok (.iconst 1, 1) := by decide +kernel
theorem dX6_readProduct_62 : decode cX6_readProduct 62 = .ok (.iadd, 1) := by decide +kernel
theorem dX6_readProduct_63 : decode cX6_readProduct 63 = .ok (.putfield 18, 3) := by decide +kernel
theorem dX6_readProduct_66 : decode cX6_readProduct 66 = .ok (.aload_n 0, 1) := by decide +kernel
theorem dX6_readProduct_67 : decode cX6_readProduct 67 = .ok (.iload_n 1, 1) := by decide +kernel
theorem dX6_readProduct_68 : decode cX6_readProduct 68 = .ok (.invokevirtual 150, 3) := by decide +kernel
theorem dX6_readProduct_71 : decode cX6_readProduct 71 = .ok (.aload_n 0, 1) := by decide +kernel
theorem dX6_readProduct_72 : decode cX6_readProduct 72 = .ok (.getfield 12, 3) := by decide +kernel
theorem dX6_readProduct_75 : decode cX6_readProduct 75 = .ok (.iload_n 3, 1) := by decide +kernel
theorem dX6_readProduct_76 : decode cX6_readProduct 76 = .ok (.invokevirtual 134, 3) := by decide +kernel
theorem dX6_readProduct_79 : decode cX6_readProduct 79 = .ok (.iinc 2 1, 3) := by decide +kernel
theorem dX6_readProduct_82 : decode cX6_readProduct 82 = .ok (.goto (-75), 3) := by decide +kernel
theorem dX6_readProduct_85 : decode cX6_readProduct 85 = .ok (.return_, 1) := by decide +kernel
theorem dX6_readOne_0 : decode cX6_readOne 0 = .ok (.aload_n 0, 1) := by decide +kernel
theorem dX6_readOne_1 : decode cX6_readOne 1 = .ok (.getfield 25, 3) := by decide +kernel
theorem dX6_readOne_4 : decode cX6_readOne 4 = .ok (.ifCond .eq 4, 3) := by decide +kernel
theorem dX6_readOne_7 : decode cX6_readOne 7 = .ok (.return_, 1) := by decide +kernel
theorem dX6_readOne_8 : decode cX6_readOne 8 = .ok (.aload_n 0, 1) := by decide +kernel
theorem dX6_readOne_9 : decode cX6_readOne 9 = .ok (.invokevirtual 47, 3) := by decide +kernel
theorem dX6_readOne_12 : decode cX6_readOne 12 = .ok (.iconst 2, 1) := by decide +kernel
theorem dX6_readOne_13 : decode cX6_readOne 13 = .ok (.if_icmp .ne 21, 3) := by decide +kernel
theorem dX6_readOne_16 : decode cX6_readOne 16 = .ok (.aload_n 0, 1) := by decide +kernel
theorem dX6_readOne_17 : decode cX6_readOne 17 = .ok (.getfield 12, 3) := by decide +kernel
theorem dX6_readOne_20 : decode cX6_readOne 20 = .ok (.aload_n 0, 1) := by decide +kernel
theorem dX6_readOne_21 : decode cX6_readOne 21 = .ok (.iconst 0, 1) := by decide +kernel
theorem dX6_readOne_22 : decode cX6_readOne 22 = .ok (.sipush 9999, 3) := by decide +kernel
theorem dX6_readOne_25 : decode cX6_readOne 25 = .ok (.invokevirtual 112, 3) := by decide +kernel
theorem dX6_readOne_28 : decode cX6_readOne 28 = .ok (.invokevirtual 134, 3) := by decide +kernel
theorem dX6_readOne_31 : decode cX6_readOne 31 = .ok (.goto 88, 3) := by decide +kernel
theorem dX6_readOne_34 : decode cX6_readOne 34 = .ok (.aload_n 0, 1) := by decide +kernel
theorem dX6_readOne_35 : decode cX6_readOne 35 = .ok (.invokevirtual 47, 3) := by decide +kernel
theorem dX6_readOne_38 : decode cX6_readOne 38 = .ok (.bipush 40, 2) := by decide +kernel
theorem dX6_readOne_40 : decode cX6_readOne 40 = .ok (.if_icmp .ne 39, 3) := by decide +kernel
theorem dX6_readOne_43 : decode cX6_readOne 43 = .ok (.aload_n 0, 1) := by decide +kernel
theorem dX6_readOne_44 : decode cX6_readOne 44 = .ok (.iload_n 1, 1) := by decide +kernel
theorem dX6_readOne_45 : decode cX6_readOne 45 = .ok (.invokevirtual 140, 3) := by decide +kernel
theorem dX6_readOne_48 : decode cX6_readOne 48 = .ok (.ifCond .eq 71, 3) := by decide +kernel
theorem dX6_readOne_51 : decode cX6_readOne 51 = .ok (.aload_n 0, 1) := by decide +kernel
theorem dX6_readOne_52 : decode cX6_readOne 52 = .ok (.iload_n 1, 1) := by decide +kernel
theorem dX6_readOne_53 : decode cX6_readOne 53 = .ok (.iconst 1, 1) := by decide +kernel
theorem dX6_readOne_54 : decode cX6_readOne 54 = .ok (.iadd, 1) := by decide +kernel
theorem dX6_readOne_55 : decode cX6_readOne 55 = .ok (.invokevirtual 103, 3) := by decide +kernel
theorem dX6_readOne_58 : decode cX6_readOne 58 = .ok (.aload_n 0, 1) := by decide +kernel
theorem dX6_readOne_59 : decode cX6_readOne 59 = .ok (.aload_n 0, 1) := by decide +kernel
theorem dX6_readOne_60 : decode cX6_readOne 60 = .ok (.invokevirtual 47, 3) := by decide +kernel
theorem dX6_readOne_63 : decode cX6_readOne 63 = .ok (.bipush 41, 2) := by decide +kernel
theorem dX6_readOne_65 : decode cX6_readOne 65 = .ok (.if_icmp .ne 7, 3) := by decide +kernel
theorem dX6_readOne_68 : decode cX6_readOne 68 = .ok (.iconst 1, 1) := by decide +kernel
theorem dX6_readOne_69 : decode cX6_readOne 69 = .ok (.goto 4, 3) := by decide +kernel
theorem dX6_readOne_72 : decode cX6_readOne 72 = .ok (.iconst 0, 1) := by decide +kernel
theorem dX6_readOne_73 : decode cX6_readOne 73 = .ok (.invokevirtual 93, 3) := by decide +kernel
theorem dX6_readOne_76 : decode cX6_readOne 76 = .ok (.goto 43, 3) := by decide +kernel
theorem dX6_readOne_79 : decode cX6_readOne 79 = .ok (.aload_n 0, 1) := by decide +kernel
theorem dX6_readOne_80 : decode cX6_readOne 80 = .ok (.invokevirtual 47, 3) := by decide +kernel
theorem dX6_readOne_83 : decode cX6_readOne 83 = .ok (.bipush 45, 2) := by decide +kernel
theorem dX6_readOne_85 : decode cX6_readOne 85 = .ok (.if_icmp .ne 30, 3) := by decide +kernel
theorem dX6_readOne_88 : decode cX6_readOne 88 = .ok (.aload_n 0, 1) := by decide +kernel
theorem dX6_readOne_89 : decode cX6_readOne 89 = .ok (.iload_n 1, 1) := by decide +kernel
theorem dX6_readOne_90 : decode cX6_readOne 90 = .ok (.invokevirtual 140, 3) := by decide +kernel
theorem dX6_readOne_93 : decode cX6_readOne 93 = .ok (.ifCond .eq 26, 3) := by decide +kernel
theorem dX6_readOne_96 : decode cX6_readOne 96 = .ok (.aload_n 0, 1) := by decide +kernel
theorem dX6_readOne_97 : decode cX6_readOne 97 = .ok (.iload_n 1, 1) := by decide +kernel
theorem dX6_readOne_98 : decode cX6_readOne 98 = .ok (.iconst 1, 1) := by decide +kernel
theorem dX6_readOne_99 : decode cX6_readOne 99 = .ok (.iadd, 1) := by decide +kernel
theorem dX6_readOne_100 : decode cX6_readOne 100 = .ok (.invokevirtual 150, 3) := by decide +kernel
theorem dX6_readOne_103 : decode cX6_readOne 103 = .ok (.aload_n 0, 1) := by decide +kernel
theorem dX6_readOne_104 : decode cX6_readOne 104 = .ok (.getfield 12, 3) := by decide +kernel
theorem dX6_readOne_107 : decode cX6_readOne 107 = .ok (.bipush (-23), 2) := by decide +kernel
theorem dX6_readOne_109 : decode cX6_readOne 109 = .ok (.invokevirtual 134, 3) := by decide +kernel
theorem dX6_readOne_112 : decode cX6_readOne 112 = .ok (.goto 7, 3) := by decide +kernel
theorem dX6_readOne_115 : decode cX6_readOne 115 = .ok (.aload_n 0, 1) := by decide +kernel
theorem dX6_readOne_116 : decode cX6_readOne 116 = .ok (.invokevirtual 153, 3) := by decide +kernel
theorem dX6_readOne_119 : decode cX6_readOne 119 = .ok (.return_, 1) := by decide +kernel
theorem dX6_readName_0 : decode cX6_readName 0 = .ok (.aload_n 0, 1) := by decide +kernel
theorem dX6_readName_1 : decode cX6_readName 1 = .ok (.getfield 18, 3) := by decide +kernel
theorem dX6_readName_4 : decode cX6_readName 4 = .ok (.ifCond .lt 32, 3) := by decide +kernel
theorem dX6_readName_7 : decode cX6_readName 7 = .ok (.aload_n 0, 1) := by decide +kernel
theorem dX6_readName_8 : decode cX6_readName 8 = .ok (.getfield 18, 3) := by decide +kernel
theorem dX6_readName_11 : decode cX6_readName 11 = .ok (.aload_n 0, 1) := by decide +kernel
theorem dX6_readName_12 : decode cX6_readName 12 = .ok (.getfield 36, 3) := by decide +kernel
theorem dX6_readName_15 : decode cX6_readName 15 = .ok (.getfield 54, 3) := by decide +kernel
theorem dX6_readName_18 : decode cX6_readName 18 = .ok (.if_icmp .ge 18, 3) := by decide +kernel
theorem dX6_readName_21 : decode cX6_readName 21 = .ok (.aload_n 0, 1) := by decide +kernel
theorem dX6_readName_22 : decode cX6_readName 22 = .ok (.getfield 36, 3) := by decide +kernel
theorem dX6_readName_25 : decode cX6_readName 25 = .ok (.getfield 60, 3) := by decide +kernel
theorem dX6_readName_28 : decode cX6_readName 28 = .ok (.aload_n 0, 1) := by decide +kernel
theorem dX6_readName_29 : decode cX6_readName 29 = .ok (.getfield 18, 3) := by decide +kernel
theorem dX6_readName_32 : decode cX6_readName 32 = .ok (.iaload, 1) := by decide +kernel
theorem dX6_readName_33 : decode cX6_readName 33 = .ok (.goto 4, 3) := by decide +kernel
theorem dX6_readName_36 : decode cX6_readName 36 = .ok (.iconst (-1), 1) := by decide +kernel
theorem dX6_readName_37 : decode cX6_readName 37 = .ok (.istore_n 1, 1) := by decide +kernel
theorem dX6_readName_38 : decode cX6_readName 38 = .ok (.iload_n 1, 1) := by decide +kernel
theorem dX6_readName_39 : decode cX6_readName 39 = .ok (.ifCond .lt 54, 3) := by decide +kernel
theorem dX6_readName_42 : decode cX6_readName 42 = .ok (.iload_n 1, 1) := by decide +kernel
theorem dX6_readName_43 : decode cX6_readName 43 = .ok (.bipush 6, 2) := by decide +kernel
theorem dX6_readName_45 : decode cX6_readName 45 = .ok (.if_icmp .ge 48, 3) := by decide +kernel
theorem dX6_readName_48 : decode cX6_readName 48 = .ok (.aload_n 0, 1) := by decide +kernel
theorem dX6_readName_49 : decode cX6_readName 49 = .ok (.getfield 12, 3) := by decide +kernel
theorem dX6_readName_52 : decode cX6_readName 52 = .ok (.iconst (-1), 1) := by decide +kernel
theorem dX6_readName_53 : decode cX6_readName 53 = .ok (.iload_n 1, 1) := by decide +kernel
theorem dX6_readName_54 : decode cX6_readName 54 = .ok (.isub, 1) := by decide +kernel
theorem dX6_readName_55 : decode cX6_readName 55 = .ok (.invokevirtual 134, 3) := by decide +kernel
theorem dX6_readName_58 : decode cX6_readName 58 = .ok (.aload_n 0, 1) := by decide +kernel
theorem dX6_readName_59 : decode cX6_readName 59 = .ok (.getfield 12, 3) := by decide +kernel
theorem dX6_readName_62 : decode cX6_readName 62 = .ok (.dup, 1) := by decide +kernel
theorem dX6_readName_63 : decode cX6_readName 63 = .ok (.getfield 156, 3) := by decide +kernel
theorem dX6_readName_66 : decode cX6_readName 66 = .ok (.iload_n 1, 1) := by decide +kernel
theorem dX6_readName_67 : decode cX6_readName 67 = .ok (.iconst 3, 1) := by decide +kernel
theorem dX6_readName_68 : decode cX6_readName 68 = .ok (.if_icmp .ne 7, 3) := by decide +kernel
theorem dX6_readName_71 : decode cX6_readName 71 = .ok (.iconst 1, 1) := by decide +kernel
theorem dX6_readName_72 : decode cX6_readName 72 = .ok (.goto 4, 3) := by decide +kernel
theorem dX6_readName_75 : decode cX6_readName 75 = .ok (.iconst 0, 1) := by decide +kernel
theorem dX6_readName_76 : decode cX6_readName 76 = .ok (.ior, 1) := by decide +kernel
theorem dX6_readName_77 : decode cX6_readName 77 = .ok (.putfield 156, 3) := by decide +kernel
theorem dX6_readName_80 : decode cX6_readName 80 = .ok (.aload_n 0, 1) := by decide +kernel
theorem dX6_readName_81 : decode cX6_readName 81 = .ok (.dup, 1) := by decide +kernel
theorem dX6_readName_82 : decode cX6_readName 82 = .ok (.getfield 18, 3) := by decide +kernel
theorem dX6_readName_85 : decode cX6_readName 85 = .ok (.iconst 1, 1) := by decide +kernel
theorem dX6_readName_86 : decode cX6_readName 86 = .ok (.iadd, 1) := by decide +kernel
theorem dX6_readName_87 : decode cX6_readName 87 = .ok (.putfield 18, 3) := by decide +kernel
theorem dX6_readName_90 : decode cX6_readName 90 = .ok (.goto 8, 3) := by decide +kernel
theorem dX6_readName_93 : decode cX6_readName 93 = .ok (.aload_n 0, 1) := by decide +kernel
theorem dX6_readName_94 : decode cX6_readName 94 = .ok (.iconst 1, 1) := by decide +kernel
theorem dX6_readName_95 : decode cX6_readName 95 = .ok (.invokevirtual 66, 3) := by decide +kernel
theorem dX6_readName_98 : decode cX6_readName 98 = .ok (.return_, 1) := by decide +kernel
theorem dX7_init_0 : decode cX7_init 0 = .ok (.aload_n 0, 1) := by decide +kernel
theorem dX7_init_1 : decode cX7_init 1 = .ok (.invokespecial 3, 3) := by decide +kernel
theorem dX7_init_4 : decode cX7_init 4 = .ok (.aload_n 0, 1) := by decide +kernel
theorem dX7_init_5 : decode cX7_init 5 = .ok (.sipush 300, 3) := by decide +kernel
theorem dX7_init_8 : decode cX7_init 8 = .ok (.newarray .int, 2) := by decide +kernel
theorem dX7_init_10 : decode cX7_init 10 = .ok (.putfield 9, 3) := by decide +kernel
theorem dX7_init_13 : decode cX7_init 13 = .ok (.aload_n 0, 1) := by decide +kernel
theorem dX7_init_14 : decode cX7_init 14 = .ok (.iconst 0, 1) := by decide +kernel
theorem dX7_init_15 : decode cX7_init 15 = .ok (.putfield 15, 3) := by decide +kernel
theorem dX7_init_18 : decode cX7_init 18 = .ok (.aload_n 0, 1) := by decide +kernel
theorem dX7_init_19 : decode cX7_init 19 = .ok (.iconst 0, 1) := by decide +kernel
theorem dX7_init_20 : decode cX7_init 20 = .ok (.putfield 19, 3) := by decide +kernel
theorem dX7_init_23 : decode cX7_init 23 = .ok (.aload_n 0, 1) := by decide +kernel
theorem dX7_init_24 : decode cX7_init 24 = .ok (.iconst 0, 1) := by decide +kernel
theorem dX7_init_25 : decode cX7_init 25 = .ok (.putfield 23, 3) := by decide +kernel
theorem dX7_init_28 : decode cX7_init 28 = .ok (.aload_n 0, 1) := by decide +kernel
theorem dX7_init_29 : decode cX7_init 29 = .ok (.iconst 0, 1) := by decide +kernel
theorem dX7_init_30 : decode cX7_init 30 = .ok (.putfield 26, 3) := by decide +kernel
theorem dX7_init_33 : decode cX7_init 33 = .ok (.aload_n 0, 1) := by decide +kernel
theorem dX7_init_34 : decode cX7_init 34 = .ok (.iconst 0, 1) := by decide +kernel
theorem dX7_init_35 : decode cX7_init 35 = .ok (.putfield 29, 3) := by decide +kernel
theorem dX7_init_38 : decode cX7_init 38 = .ok (.aload_n 0, 1) := by decide +kernel
theorem dX7_init_39 : decode cX7_init 39 = .ok (.iconst 0, 1) := by decide +kernel
theorem dX7_init_40 : decode cX7_init 40 = .ok (.putfield 32, 3) := by decide +kernel
theorem dX7_init_43 : decode cX7_init 43 = .ok (.aload_n 0, 1) := by decide +kernel
theorem dX7_init_44 : decode cX7_init 44 = .ok (.iconst 0, 1) := by decide +kernel
theorem dX7_init_45 : decode cX7_init 45 = .ok (.putfield 35, 3) := by decide +kernel
theorem dX7_init_48 : decode cX7_init 48 = .ok (.aload_n 0, 1) := by decide +kernel
theorem dX7_init_49 : decode cX7_init 49 = .ok (.iconst 0, 1) := by decide +kernel
theorem dX7_init_50 : decode cX7_init 50 = .ok (.putfield 38, 3) := by decide +kernel
theorem dX7_init_53 : decode cX7_init 53 = .ok (.aload_n 0, 1) := by decide +kernel
theorem dX7_init_54 : decode cX7_init 54 = .ok (.bipush 24, 2) := by decide +kernel
theorem dX7_init_56 : decode cX7_init 56 = .ok (.newarray .int, 2) := by decide +kernel
theorem dX7_init_58 : decode cX7_init 58 = .ok (.putfield 41, 3) := by decide +kernel
theorem dX7_init_61 : decode cX7_init 61 = .ok (.aload_n 0, 1) := by decide +kernel
theorem dX7_init_62 : decode cX7_init 62 = .ok (.bipush 24, 2) := by decide +kernel
theorem dX7_init_64 : decode cX7_init 64 = .ok (.newarray .int, 2) := by decide +kernel
theorem dX7_init_66 : decode cX7_init 66 = .ok (.putfield 44, 3) := by decide +kernel
theorem dX7_init_69 : decode cX7_init 69 = .ok (.aload_n 0, 1) := by decide +kernel
theorem dX7_init_70 : decode cX7_init 70 = .ok (.iconst 0, 1) := by decide +kernel
theorem dX7_init_71 : decode cX7_init 71 = .ok (.putfield 47, 3) := by decide +kernel
theorem dX7_init_74 : decode cX7_init 74 = .ok (.aload_n 0, 1) := by decide +kernel
theorem dX7_init_75 : decode cX7_init 75 = .ok (.bipush 24, 2) := by decide +kernel
theorem dX7_init_77 : decode cX7_init 77 = .ok (.newarray .int, 2) := by decide +kernel
theorem dX7_init_79 : decode cX7_init 79 = .ok (.putfield 50, 3) := by decide +kernel
theorem dX7_init_82 : decode cX7_init 82 = .ok (.aload_n 0, 1) := by decide +kernel
theorem dX7_init_83 : decode cX7_init 83 = .ok (.bipush 24, 2) := by decide +kernel
theorem dX7_init_85 : decode cX7_init 85 = .ok (.newarray .int, 2) := by decide +kernel
theorem dX7_init_87 : decode cX7_init 87 = .ok (.putfield 53, 3) := by decide +kernel
theorem dX7_init_90 : decode cX7_init 90 = .ok (.aload_n 0, 1) := by decide +kernel
theorem dX7_init_91 : decode cX7_init 91 = .ok (.iconst 0, 1) := by decide +kernel
theorem dX7_init_92 : decode cX7_init 92 = .ok (.putfield 56, 3) := by decide +kernel
theorem dX7_init_95 : decode cX7_init 95 = .ok (.return_, 1) := by decide +kernel
theorem dX7_clear_0 : decode cX7_clear 0 = .ok (.aload_n 0, 1) := by decide +kernel
theorem dX7_clear_1 : decode cX7_clear 1 = .ok (.iconst 0, 1) := by decide +kernel
theorem dX7_clear_2 : decode cX7_clear 2 = .ok (.putfield 15, 3) := by decide +kernel
theorem dX7_clear_5 : decode cX7_clear 5 = .ok (.aload_n 0, 1) := by decide +kernel
theorem dX7_clear_6 : decode cX7_clear 6 = .ok (.iconst 0, 1) := by decide +kernel
theorem dX7_clear_7 : decode cX7_clear 7 = .ok (.putfield 19, 3) := by decide +kernel
theorem dX7_clear_10 : decode cX7_clear 10 = .ok (.aload_n 0, 1) := by decide +kernel
theorem dX7_clear_11 : decode cX7_clear 11 = .ok (.iconst 0, 1) := by decide +kernel
theorem dX7_clear_12 : decode cX7_clear 12 = .ok (.putfield 23, 3) := by decide +kernel
theorem dX7_clear_15 : decode cX7_clear 15 = .ok (.aload_n 0, 1) := by decide +kernel
theorem dX7_clear_16 : decode cX7_clear 16 = .ok (.iconst 0, 1) := by decide +kernel
theorem dX7_clear_17 : decode cX7_clear 17 = .ok (.putfield 32, 3) := by decide +kernel
theorem dX7_clear_20 : decode cX7_clear 20 = .ok (.aload_n 0, 1) := by decide +kernel
theorem dX7_clear_21 : decode cX7_clear 21 = .ok (.iconst 0, 1) := by decide +kernel
theorem dX7_clear_22 : decode cX7_clear 22 = .ok (.putfield 47, 3) := by decide +kernel
theorem dX7_clear_25 : decode cX7_clear 25 = .ok (.aload_n 0, 1) := by decide +kernel
theorem dX7_clear_26 : decode cX7_clear 26 = .ok (.iconst 0, 1) := by decide +kernel
theorem dX7_clear_27 : decode cX7_clear 27 = .ok (.putfield 56, 3) := by decide +kernel
theorem dX7_clear_30 : decode cX7_clear 30 = .ok (.return_, 1) := by decide +kernel
theorem dX7_emit_0 : decode cX7_emit 0 = .ok (.aload_n 0, 1) := by decide +kernel
theorem dX7_emit_1 : decode cX7_emit 1 = .ok (.getfield 15, 3) := by decide +kernel
theorem dX7_emit_4 : decode cX7_emit 4 = .ok (.sipush 300, 3) := by decide +kernel
theorem dX7_emit_7 : decode cX7_emit 7 = .ok (.if_icmp .ge 23, 3) := by decide +kernel
theorem dX7_emit_10 : decode cX7_emit 10 = .ok (.aload_n 0, 1) := by decide +kernel
theorem dX7_emit_11 : decode cX7_emit 11 = .ok (.getfield 9, 3) := by decide +kernel
theorem dX7_emit_14 : decode cX7_emit 14 = .ok (.aload_n 0, 1) := by decide +kernel
theorem dX7_emit_15 : decode cX7_emit 15 = .ok (.getfield 15, 3) := by decide +kernel
theorem dX7_emit_18 : decode cX7_emit 18 = .ok (.iload_n 1, 1) := by decide +kernel
theorem dX7_emit_19 : decode cX7_emit 19 = .ok (.iastore, 1) := by decide +kernel
theorem dX7_emit_20 : decode cX7_emit 20 = .ok (.aload_n 0, 1) := by decide +kernel
theorem dX7_emit_21 : decode cX7_emit 21 = .ok (.dup, 1) := by decide +kernel
theorem dX7_emit_22 : decode cX7_emit 22 = .ok (.getfield 15, 3) := by decide +kernel
theorem dX7_emit_25 : decode cX7_emit 25 = .ok (.iconst 1, 1) := by decide +kernel
theorem dX7_emit_26 : decode cX7_emit 26 = .ok (.iadd, 1) := by decide +kernel
theorem dX7_emit_27 : decode cX7_emit 27 = .ok (.putfield 15, 3) := by decide +kernel
theorem dX7_emit_30 : decode cX7_emit 30 = .ok (.return_, 1) := by decide +kernel
theorem dX7_addEntry_0 : decode cX7_addEntry 0 = .ok (.aload_n 0, 1) := by decide +kernel
theorem dX7_addEntry_1 : decode cX7_addEntry 1 = .ok (.getfield 47, 3) := by decide +kernel
theorem dX7_addEntry_4 : decode cX7_addEntry 4 = .ok (.bipush 24, 2) := by decide +kernel
theorem dX7_addEntry_6 : decode cX7_addEntry 6 = .ok (.if_icmp .ge 33, 3) := by decide +kernel
theorem dX7_addEntry_9 : decode cX7_addEntry 9 = .ok (.aload_n 0, 1) := by decide +kernel
theorem dX7_addEntry_10 : decode cX7_addEntry 10 = .ok (.getfield 41, 3) := by decide +kernel
theorem dX7_addEntry_13 : decode cX7_addEntry 13 = .ok (.aload_n 0, 1) := by decide +kernel
theorem dX7_addEntry_14 : decode cX7_addEntry 14 = .ok (.getfield 47, 3) := by decide +kernel
theorem dX7_addEntry_17 : decode cX7_addEntry 17 = .ok (.iload_n 1, 1) := by decide +kernel
theorem dX7_addEntry_18 : decode cX7_addEntry 18 = .ok (.iastore, 1) := by decide +kernel
theorem dX7_addEntry_19 : decode cX7_addEntry 19 = .ok (.aload_n 0, 1) := by decide +kernel
theorem dX7_addEntry_20 : decode cX7_addEntry 20 = .ok (.getfield 44, 3) := by decide +kernel
theorem dX7_addEntry_23 : decode cX7_addEntry 23 = .ok (.aload_n 0, 1) := by decide +kernel
theorem dX7_addEntry_24 : decode cX7_addEntry 24 = .ok (.getfield 47, 3) := by decide +kernel
theorem dX7_addEntry_27 : decode cX7_addEntry 27 = .ok (.iload_n 2, 1) := by decide +kernel
theorem dX7_addEntry_28 : decode cX7_addEntry 28 = .ok (.iastore, 1) := by decide +kernel
theorem dX7_addEntry_29 : decode cX7_addEntry 29 = .ok (.aload_n 0, 1) := by decide +kernel
theorem dX7_addEntry_30 : decode cX7_addEntry 30 = .ok (.dup, 1) := by decide +kernel
theorem dX7_addEntry_31 : decode cX7_addEntry 31 = .ok (.getfield 47, 3) := by decide +kernel
theorem dX7_addEntry_34 : decode cX7_addEntry 34 = .ok (.iconst 1, 1) := by decide +kernel
theorem dX7_addEntry_35 : decode cX7_addEntry 35 = .ok (.iadd, 1) := by decide +kernel
theorem dX7_addEntry_36 : decode cX7_addEntry 36 = .ok (.putfield 47, 3) := by decide +kernel
theorem dX7_addEntry_39 : decode cX7_addEntry 39 = .ok (.return_, 1) := by decide +kernel
theorem dX7_addRoad_0 : decode cX7_addRoad 0 = .ok (.aload_n 0, 1) := by decide +kernel
theorem dX7_addRoad_1 : decode cX7_addRoad 1 = .ok (.getfield 56, 3) := by decide +kernel
theorem dX7_addRoad_4 : decode cX7_addRoad 4 = .ok (.bipush 24, 2) := by decide +kernel
theorem dX7_addRoad_6 : decode cX7_addRoad 6 = .ok (.if_icmp .ge 33, 3) := by decide +kernel
theorem dX7_addRoad_9 : decode cX7_addRoad 9 = .ok (.aload_n 0, 1) := by decide +kernel
theorem dX7_addRoad_10 : decode cX7_addRoad 10 = .ok (.getfield 50, 3) := by decide +kernel
theorem dX7_addRoad_13 : decode cX7_addRoad 13 = .ok (.aload_n 0, 1) := by decide +kernel
theorem dX7_addRoad_14 : decode cX7_addRoad 14 = .ok (.getfield 56, 3) := by decide +kernel
theorem dX7_addRoad_17 : decode cX7_addRoad 17 = .ok (.iload_n 1, 1) := by decide +kernel
theorem dX7_addRoad_18 : decode cX7_addRoad 18 = .ok (.iastore, 1) := by decide +kernel
theorem dX7_addRoad_19 : decode cX7_addRoad 19 = .ok (.aload_n 0, 1) := by decide +kernel
theorem dX7_addRoad_20 : decode cX7_addRoad 20 = .ok (.getfield 53, 3) := by decide +kernel
theorem dX7_addRoad_23 : decode cX7_addRoad 23 = .ok (.aload_n 0, 1) := by decide +kernel
theorem dX7_addRoad_24 : decode cX7_addRoad 24 = .ok (.getfield 56, 3) := by decide +kernel
theorem dX7_addRoad_27 : decode cX7_addRoad 27 = .ok (.iload_n 2, 1) := by decide +kernel
theorem dX7_addRoad_28 : decode cX7_addRoad 28 = .ok (.iastore, 1) := by decide +kernel
theorem dX7_addRoad_29 : decode cX7_addRoad 29 = .ok (.aload_n 0, 1) := by decide +kernel
theorem dX7_addRoad_30 : decode cX7_addRoad 30 = .ok (.dup, 1) := by decide +kernel
theorem dX7_addRoad_31 : decode cX7_addRoad 31 = .ok (.getfield 56, 3) := by decide +kernel
theorem dX7_addRoad_34 : decode cX7_addRoad 34 = .ok (.iconst 1, 1) := by decide +kernel
theorem dX7_addRoad_35 : decode cX7_addRoad 35 = .ok (.iadd, 1) := by decide +kernel
theorem dX7_addRoad_36 : decode cX7_addRoad 36 = .ok (.putfield 56, 3) := by decide +kernel
theorem dX7_addRoad_39 : decode cX7_addRoad 39 = .ok (.return_, 1) := by decide +kernel
theorem dX8_init_0 : decode cX8_init 0 = .ok (.aload_n 0, 1) := by decide +kernel
theorem dX8_init_1 : decode cX8_init 1 = .ok (.invokespecial 3, 3) := by decide +kernel
theorem dX8_init_4 : decode cX8_init 4 = .ok (.aload_n 0, 1) := by decide +kernel
theorem dX8_init_5 : decode cX8_init 5 = .ok (.sipush 301, 3) := by decide +kernel
theorem dX8_init_8 : decode cX8_init 8 = .ok (.newarray .int, 2) := by decide +kernel
theorem dX8_init_10 : decode cX8_init 10 = .ok (.putfield 9, 3) := by decide +kernel
theorem dX8_init_13 : decode cX8_init 13 = .ok (.aload_n 0, 1) := by decide +kernel
theorem dX8_init_14 : decode cX8_init 14 = .ok (.sipush 301, 3) := by decide +kernel
theorem dX8_init_17 : decode cX8_init 17 = .ok (.newarray .int, 2) := by decide +kernel
theorem dX8_init_19 : decode cX8_init 19 = .ok (.putfield 15, 3) := by decide +kernel
theorem dX8_init_22 : decode cX8_init 22 = .ok (.aload_n 0, 1) := by decide +kernel
theorem dX8_init_23 : decode cX8_init 23 = .ok (.sipush 301, 3) := by decide +kernel
theorem dX8_init_26 : decode cX8_init 26 = .ok (.newarray .int, 2) := by decide +kernel
theorem dX8_init_28 : decode cX8_init 28 = .ok (.putfield 18, 3) := by decide +kernel
theorem dX8_init_31 : decode cX8_init 31 = .ok (.aload_n 0, 1) := by decide +kernel
theorem dX8_init_32 : decode cX8_init 32 = .ok (.sipush 301, 3) := by decide +kernel
theorem dX8_init_35 : decode cX8_init 35 = .ok (.newarray .int, 2) := by decide +kernel
theorem dX8_init_37 : decode cX8_init 37 = .ok (.putfield 21, 3) := by decide +kernel
theorem dX8_init_40 : decode cX8_init 40 = .ok (.aload_n 0, 1) := by decide +kernel
theorem dX8_init_41 : decode cX8_init 41 = .ok (.iconst 0, 1) := by decide +kernel
theorem dX8_init_42 : decode cX8_init 42 = .ok (.putfield 24, 3) := by decide +kernel
theorem dX8_init_45 : decode cX8_init 45 = .ok (.aload_n 0, 1) := by decide +kernel
theorem dX8_init_46 : decode cX8_init 46 = .ok (.aconst_null, 1) := by decide +kernel
theorem dX8_init_47 : decode cX8_init 47 = .ok (.putfield 28, 3) := by decide +kernel
theorem dX8_init_50 : decode cX8_init 50 = .ok (.aload_n 0, 1) := by decide +kernel
theorem dX8_init_51 : decode cX8_init 51 = .ok (.iconst 0, 1) := by decide +kernel
theorem dX8_init_52 : decode cX8_init 52 = .ok (.putfield 31, 3) := by decide +kernel
theorem dX8_init_55 : decode cX8_init 55 = .ok (.aload_n 0, 1) := by decide +kernel
theorem dX8_init_56 : decode cX8_init 56 = .ok (.aload_n 1, 1) := by decide +kernel
theorem dX8_init_57 : decode cX8_init 57 = .ok (.putfield 34, 3) := by decide +kernel
theorem dX8_init_60 : decode cX8_init 60 = .ok (.return_, 1) := by decide +kernel
theorem dX8_cut_0 : decode cX8_cut 0 = .ok (.aload_n 0, 1) := by decide +kernel
theorem dX8_cut_1 : decode cX8_cut 1 = .ok (.aload_n 1, 1) := by decide +kernel
theorem dX8_cut_2 : decode cX8_cut 2 = .ok (.putfield 28, 3) := by decide +kernel
theorem dX8_cut_5 : decode cX8_cut 5 = .ok (.aload_n 0, 1) := by decide +kernel
theorem dX8_cut_6 : decode cX8_cut 6 = .ok (.aload_n 1, 1) := by decide +kernel
theorem dX8_cut_7 : decode cX8_cut 7 = .ok (.ifnonnull 7, 3) := by decide +kernel
theorem dX8_cut_10 : decode cX8_cut 10 = .ok (.iconst 0, 1) := by decide +kernel
theorem dX8_cut_11 : decode cX8_cut 11 = .ok (.goto 13, 3) := by decide +kernel
theorem dX8_cut_14 : decode cX8_cut 14 = .ok (.iconst 0, 1) := by decide +kernel
theorem dX8_cut_15 : decode cX8_cut 15 = .ok (.iload_n 2, 1) := by decide +kernel
theorem dX8_cut_16 : decode cX8_cut 16 = .ok (.aload_n 1, 1) := by decide +kernel
theorem dX8_cut_17 : decode cX8_cut 17 = .ok (.arraylength, 1) := by decide +kernel
theorem dX8_cut_18 : decode cX8_cut 18 = .ok (.invokestatic 38, 3) := by decide +kernel
theorem dX8_cut_21 : decode cX8_cut 21 = .ok (.invokestatic 44, 3) := by decide +kernel
theorem dX8_cut_24 : decode cX8_cut 24 = .ok (.putfield 31, 3) := by decide +kernel
theorem dX8_cut_27 : decode cX8_cut 27 = .ok (.aload_n 0, 1) := by decide +kernel
theorem dX8_cut_28 : decode cX8_cut 28 = .ok (.iconst 0, 1) := by decide +kernel
theorem dX8_cut_29 : decode cX8_cut 29 = .ok (.putfield 24, 3) := by decide +kernel
theorem dX8_cut_32 : decode cX8_cut 32 = .ok (.iconst 0, 1) := by decide +kernel
theorem dX8_cut_33 : decode cX8_cut 33 = .ok (.istore_n 3, 1) := by decide +kernel
theorem dX8_cut_34 : decode cX8_cut 34 = .ok (.iconst 0, 1) := by decide +kernel
theorem dX8_cut_35 : decode cX8_cut 35 = .ok (.istore 4, 2) := by decide +kernel
theorem dX8_cut_37 : decode cX8_cut 37 = .ok (.iload 4, 2) := by decide +kernel
theorem dX8_cut_39 : decode cX8_cut 39 = .ok (.sipush 300, 3) := by decide +kernel
theorem dX8_cut_42 : decode cX8_cut 42 = .ok (.if_icmp .ge 50, 3) := by decide +kernel
theorem dX8_cut_45 : decode cX8_cut 45 = .ok (.iload_n 3, 1) := by decide +kernel
theorem dX8_cut_46 : decode cX8_cut 46 = .ok (.aload_n 0, 1) := by decide +kernel
theorem dX8_cut_47 : decode cX8_cut 47 = .ok (.getfield 31, 3) := by decide +kernel
theorem dX8_cut_50 : decode cX8_cut 50 = .ok (.if_icmp .ge 42, 3) := by decide +kernel
theorem dX8_cut_53 : decode cX8_cut 53 = .ok (.aload_n 0, 1) := by decide +kernel
theorem dX8_cut_54 : decode cX8_cut 54 = .ok (.getfield 24, 3) := by decide +kernel
theorem dX8_cut_57 : decode cX8_cut 57 = .ok (.sipush 300, 3) := by decide +kernel
theorem dX8_cut_60 : decode cX8_cut 60 = .ok (.if_icmp .ge 32, 3) := by decide +kernel
theorem dX8_cut_63 : decode cX8_cut 63 = .ok (.aload_n 0, 1) := by decide +kernel
theorem dX8_cut_64 : decode cX8_cut 64 = .ok (.iload_n 3, 1) := by decide +kernel
theorem dX8_cut_65 : decode cX8_cut 65 = .ok (.invokevirtual 47, 3) := by decide +kernel
theorem dX8_cut_68 : decode cX8_cut 68 = .ok (.invokestatic 51, 3) := by decide +kernel
theorem dX8_cut_71 : decode cX8_cut 71 = .ok (.ifCond .eq 9, 3) := by decide +kernel
theorem dX8_cut_74 : decode cX8_cut 74 = .ok (.iinc 3 1, 3) := by decide +kernel
theorem dX8_cut_77 : decode cX8_cut 77 = .ok (.goto 9, 3) := by decide +kernel
theorem dX8_cut_80 : decode cX8_cut 80 = .ok (.aload_n 0, 1) := by decide +kernel
theorem dX8_cut_81 : decode cX8_cut 81 = .ok (.iload_n 3, 1) := by decide +kernel
theorem dX8_cut_82 : decode cX8_cut 82 = .ok (.invokevirtual 55, 3) := by decide +kernel
theorem dX8_cut_85 : decode cX8_cut 85 = .ok (.istore_n 3, 1) := by decide +kernel
theorem dX8_cut_86 : decode cX8_cut 86 = .ok (.iinc 4 1, 3) := by decide +kernel
theorem dX8_cut_89 : decode cX8_cut 89 = .ok (.goto (-52), 3) := by decide +kernel
theorem dX8_cut_92 : decode cX8_cut 92 = .ok (.aload_n 0, 1) := by decide +kernel
theorem dX8_cut_93 : decode cX8_cut 93 = .ok (.getfield 9, 3) := by decide +kernel
theorem dX8_cut_96 : decode cX8_cut 96 = .ok (.aload_n 0, 1) := by decide +kernel
theorem dX8_cut_97 : decode cX8_cut 97 = .ok (.getfield 24, 3) := by decide +kernel
theorem dX8_cut_100 : decode cX8_cut 100 = .ok (.iconst 0, 1) := by decide +kernel
theorem dX8_cut_101 : decode cX8_cut 101 = .ok (.iastore, 1) := by decide +kernel
theorem dX8_cut_102 : decode cX8_cut 102 = .ok (.aload_n 0, 1) := by decide +kernel
theorem dX8_cut_103 : decode cX8_cut 103 = .ok (.getfield 15, 3) := by decide +kernel
theorem dX8_cut_106 : decode cX8_cut 106 = .ok (.aload_n 0, 1) := by decide +kernel
theorem dX8_cut_107 : decode cX8_cut 107 = .ok (.getfield 24, 3) := by decide +kernel
theorem dX8_cut_110 : decode cX8_cut 110 = .ok (.aload_n 0, 1) := by decide +kernel
theorem dX8_cut_111 : decode cX8_cut 111 = .ok (.getfield 31, 3) := by decide +kernel
theorem dX8_cut_114 : decode cX8_cut 114 = .ok (.iastore, 1) := by decide +kernel
theorem dX8_cut_115 : decode cX8_cut 115 = .ok (.aload_n 0, 1) := by decide +kernel
theorem dX8_cut_116 : decode cX8_cut 116 = .ok (.getfield 18, 3) := by decide +kernel
theorem dX8_cut_119 : decode cX8_cut 119 = .ok (.aload_n 0, 1) := by decide +kernel
theorem dX8_cut_120 : decode cX8_cut 120 = .ok (.getfield 24, 3) := by decide +kernel
theorem dX8_cut_123 : decode cX8_cut 123 = .ok (.iconst (-1), 1) := by decide +kernel
theorem dX8_cut_124 : decode cX8_cut 124 = .ok (.iastore, 1) := by decide +kernel
theorem dX8_cut_125 : decode cX8_cut 125 = .ok (.aload_n 0, 1) := by decide +kernel
theorem dX8_cut_126 : decode cX8_cut 126 = .ok (.dup, 1) := by decide +kernel
theorem dX8_cut_127 : decode cX8_cut 127 = .ok (.getfield 24, 3) := by decide +kernel
theorem dX8_cut_130 : decode cX8_cut 130 = .ok (.iconst 1, 1) := by decide +kernel
theorem dX8_cut_131 : decode cX8_cut 131 = .ok (.iadd, 1) := by decide +kernel
theorem dX8_cut_132 : decode cX8_cut 132 = .ok (.putfield 24, 3) := by decide +kernel
theorem dX8_cut_135 : decode cX8_cut 135 = .ok (.return_, 1) := by decide +kernel
theorem dX8_cutOne_0 : decode cX8_cutOne 0 = .ok (.aload_n 0, 1) := by decide +kernel
theorem dX8_cutOne_1 : decode cX8_cutOne 1 = .ok (.iload_n 1, 1) := by decide +kernel
theorem dX8_cutOne_2 : decode cX8_cutOne 2 = .ok (.invokevirtual 47, 3) := by decide +kernel
theorem dX8_cutOne_5 : decode cX8_cutOne 5 = .ok (.istore_n 2, 1) := by decide +kernel
theorem dX8_cutOne_6 : decode cX8_cutOne 6 = .ok (.iload_n 1, 1) := by decide +kernel
theorem dX8_cutOne_7 : decode cX8_cutOne 7 = .ok (.iconst 1, 1) := by decide +kernel
theorem dX8_cutOne_8 : decode cX8_cutOne 8 = .ok (.iadd, 1) := by decide +kernel
theorem dX8_cutOne_9 : decode cX8_cutOne 9 = .ok (.istore_n 3, 1) := by decide +kernel
theorem dX8_cutOne_10 : decode cX8_cutOne 10 = .ok (.aload_n 0, 1) := by decide +kernel
theorem dX8_cutOne_11 : decode cX8_cutOne 11 = .ok (.getfield 18, 3) := by decide +kernel
theorem dX8_cutOne_14 : decode cX8_cutOne 14 = .ok (.aload_n 0, 1) := by decide +kernel
theorem dX8_cutOne_15 : decode cX8_cutOne 15 = .ok (.getfield 24, 3) := by decide +kernel
theorem dX8_cutOne_18 : decode cX8_cutOne 18 = .ok (.iconst (-1), 1) := by decide +kernel
theorem dX8_cutOne_19 : decode cX8_cutOne 19 = .ok (.iastore, 1) := by decide +kernel
theorem dX8_cutOne_20 : decode cX8_cutOne 20 = .ok (.aload_n 0, 1) := by decide +kernel
theorem dX8_cutOne_21 : decode cX8_cutOne 21 = .ok (.getfield 15, 3) := by decide +kernel
theorem dX8_cutOne_24 : decode cX8_cutOne 24 = .ok (.aload_n 0, 1) := by decide +kernel
theorem dX8_cutOne_25 : decode cX8_cutOne 25 = .ok (.getfield 24, 3) := by decide +kernel
theorem dX8_cutOne_28 : decode cX8_cutOne 28 = .ok (.iload_n 1, 1) := by decide +kernel
theorem dX8_cutOne_29 : decode cX8_cutOne 29 = .ok (.iastore, 1) := by decide +kernel
theorem dX8_cutOne_30 : decode cX8_cutOne 30 = .ok (.iload_n 2, 1) := by decide +kernel
theorem dX8_cutOne_31 : decode cX8_cutOne 31 = .ok (.invokestatic 58, 3) := by decide +kernel
theorem dX8_cutOne_34 : decode cX8_cutOne 34 = .ok (.ifCond .eq 52, 3) := by decide +kernel
theorem dX8_cutOne_37 : decode cX8_cutOne 37 = .ok (.aload_n 0, 1) := by decide +kernel
theorem dX8_cutOne_38 : decode cX8_cutOne 38 = .ok (.iload_n 1, 1) := by decide +kernel
theorem dX8_cutOne_39 : decode cX8_cutOne 39 = .ok (.invokevirtual 61, 3) := by decide +kernel
theorem dX8_cutOne_42 : decode cX8_cutOne 42 = .ok (.istore_n 3, 1) := by decide +kernel
theorem dX8_cutOne_43 : decode cX8_cutOne 43 = .ok (.aload_n 0, 1) := by decide +kernel
theorem dX8_cutOne_44 : decode cX8_cutOne 44 = .ok (.getfield 9, 3) := by decide +kernel
theorem dX8_cutOne_47 : decode cX8_cutOne 47 = .ok (.aload_n 0, 1) := by decide +kernel
theorem dX8_cutOne_48 : decode cX8_cutOne 48 = .ok (.getfield 24, 3) := by decide +kernel
theorem dX8_cutOne_51 : decode cX8_cutOne 51 = .ok (.iconst 1, 1) := by decide +kernel
theorem dX8_cutOne_52 : decode cX8_cutOne 52 = .ok (.iastore, 1) := by decide +kernel
theorem dX8_cutOne_53 : decode cX8_cutOne 53 = .ok (.aload_n 0, 1) := by decide +kernel
theorem dX8_cutOne_54 : decode cX8_cutOne 54 = .ok (.getfield 18, 3) := by decide +kernel
theorem dX8_cutOne_57 : decode cX8_cutOne 57 = .ok (.aload_n 0, 1) := by decide +kernel
theorem dX8_cutOne_58 : decode cX8_cutOne 58 = .ok (.getfield 24, 3) := by decide +kernel
theorem dX8_cutOne_61 : decode cX8_cutOne 61 = .ok (.aload_n 0, 1) := by decide +kernel
theorem dX8_cutOne_62 : decode cX8_cutOne 62 = .ok (.iload_n 1, 1) := by decide +kernel
theorem dX8_cutOne_63 : decode cX8_cutOne 63 = .ok (.iload_n 3, 1) := by decide +kernel
theorem dX8_cutOne_64 : decode cX8_cutOne 64 = .ok (.invokevirtual 64, 3) := by decide +kernel
theorem dX8_cutOne_67 : decode cX8_cutOne 67 = .ok (.iastore, 1) := by decide +kernel
theorem dX8_cutOne_68 : decode cX8_cutOne 68 = .ok (.aload_n 0, 1) := by decide +kernel
theorem dX8_cutOne_69 : decode cX8_cutOne 69 = .ok (.getfield 21, 3) := by decide +kernel
theorem dX8_cutOne_72 : decode cX8_cutOne 72 = .ok (.aload_n 0, 1) := by decide +kernel
theorem dX8_cutOne_73 : decode cX8_cutOne 73 = .ok (.getfield 24, 3) := by decide +kernel
theorem dX8_cutOne_76 : decode cX8_cutOne 76 = .ok (.aload_n 0, 1) := by decide +kernel
theorem dX8_cutOne_77 : decode cX8_cutOne 77 = .ok (.iload_n 1, 1) := by decide +kernel
theorem dX8_cutOne_78 : decode cX8_cutOne 78 = .ok (.iload_n 3, 1) := by decide +kernel
theorem dX8_cutOne_79 : decode cX8_cutOne 79 = .ok (.invokevirtual 67, 3) := by decide +kernel
theorem dX8_cutOne_82 : decode cX8_cutOne 82 = .ok (.iastore, 1) := by decide +kernel
theorem dX8_cutOne_83 : decode cX8_cutOne 83 = .ok (.goto 117, 3) := by decide +kernel
theorem dX8_cutOne_86 : decode cX8_cutOne 86 = .ok (.iload_n 2, 1) := by decide +kernel
theorem dX8_cutOne_87 : decode cX8_cutOne 87 = .ok (.invokestatic 70, 3) := by decide +kernel
theorem dX8_cutOne_90 : decode cX8_cutOne 90 = .ok (.ifCond .eq 37, 3) := by decide +kernel
theorem dX8_cutOne_93 : decode cX8_cutOne 93 = .ok (.aload_n 0, 1) := by decide +kernel
theorem dX8_cutOne_94 : decode cX8_cutOne 94 = .ok (.iload_n 1, 1) := by decide +kernel
theorem dX8_cutOne_95 : decode cX8_cutOne 95 = .ok (.invokevirtual 73, 3) := by decide +kernel
theorem dX8_cutOne_98 : decode cX8_cutOne 98 = .ok (.istore_n 3, 1) := by decide +kernel
theorem dX8_cutOne_99 : decode cX8_cutOne 99 = .ok (.aload_n 0, 1) := by decide +kernel
theorem dX8_cutOne_100 : decode cX8_cutOne 100 = .ok (.getfield 9, 3) := by decide +kernel
theorem dX8_cutOne_103 : decode cX8_cutOne 103 = .ok (.aload_n 0, 1) := by decide +kernel
theorem dX8_cutOne_104 : decode cX8_cutOne 104 = .ok (.getfield 24, 3) := by decide +kernel
theorem dX8_cutOne_107 : decode cX8_cutOne 107 = .ok (.iconst 2, 1) := by decide +kernel
theorem dX8_cutOne_108 : decode cX8_cutOne 108 = .ok (.iastore, 1) := by decide +kernel
theorem dX8_cutOne_109 : decode cX8_cutOne 109 = .ok (.aload_n 0, 1) := by decide +kernel
theorem dX8_cutOne_110 : decode cX8_cutOne 110 = .ok (.getfield 21, 3) := by decide +kernel
theorem dX8_cutOne_113 : decode cX8_cutOne 113 = .ok (.aload_n 0, 1) := by decide +kernel
theorem dX8_cutOne_114 : decode cX8_cutOne 114 = .ok (.getfield 24, 3) := by decide +kernel
theorem dX8_cutOne_117 : decode cX8_cutOne 117 = .ok (.aload_n 0, 1) := by decide +kernel
theorem dX8_cutOne_118 : decode cX8_cutOne 118 = .ok (.iload_n 1, 1) := by decide +kernel
theorem dX8_cutOne_119 : decode cX8_cutOne 119 = .ok (.iload_n 3, 1) := by decide +kernel
theorem dX8_cutOne_120 : decode cX8_cutOne 120 = .ok (.invokevirtual 76, 3) := by decide +kernel
theorem dX8_cutOne_123 : decode cX8_cutOne 123 = .ok (.iastore, 1) := by decide +kernel
theorem dX8_cutOne_124 : decode cX8_cutOne 124 = .ok (.goto 76, 3) := by decide +kernel
theorem dX8_cutOne_127 : decode cX8_cutOne 127 = .ok (.iload_n 2, 1) := by decide +kernel
theorem dX8_cutOne_128 : decode cX8_cutOne 128 = .ok (.bipush 60, 2) := by decide +kernel
theorem dX8_cutOne_130 : decode cX8_cutOne 130 = .ok (.if_icmp .eq 9, 3) := by decide +kernel
theorem dX8_cutOne_133 : decode cX8_cutOne 133 = .ok (.iload_n 2, 1) := by decide +kernel
theorem dX8_cutOne_134 : decode cX8_cutOne 134 = .ok (.bipush 62, 2) := by decide +kernel
theorem dX8_cutOne_136 : decode cX8_cutOne 136 = .ok (.if_icmp .ne 43, 3) := by decide +kernel
theorem dX8_cutOne_139 : decode cX8_cutOne 139 = .ok (.aload_n 0, 1) := by decide +kernel
theorem dX8_cutOne_140 : decode cX8_cutOne 140 = .ok (.iload_n 3, 1) := by decide +kernel
theorem dX8_cutOne_141 : decode cX8_cutOne 141 = .ok (.invokevirtual 47, 3) := by decide +kernel
theorem dX8_cutOne_144 : decode cX8_cutOne 144 = .ok (.bipush 61, 2) := by decide +kernel
theorem dX8_cutOne_146 : decode cX8_cutOne 146 = .ok (.if_icmp .ne 33, 3) := by decide +kernel
theorem dX8_cutOne_149 : decode cX8_cutOne 149 = .ok (.iinc 3 1, 3) := by decide +kernel
theorem dX8_cutOne_152 : decode cX8_cutOne 152 = .ok (.aload_n 0, 1) := by decide +kernel
theorem dX8_cutOne_153 : decode cX8_cutOne 153 = .ok (.getfield 9, 3) := by decide +kernel
theorem dX8_cutOne_156 : decode cX8_cutOne 156 = .ok (.aload_n 0, 1) := by decide +kernel
theorem dX8_cutOne_157 : decode cX8_cutOne 157 = .ok (.getfield 24, 3) := by decide +kernel
theorem dX8_cutOne_160 : decode cX8_cutOne 160 = .ok (.iload_n 2, 1) := by decide +kernel
theorem dX8_cutOne_161 : decode cX8_cutOne 161 = .ok (.bipush 60, 2) := by decide +kernel
theorem dX8_cutOne_163 : decode cX8_cutOne 163 = .ok (.if_icmp .ne 9, 3) := by decide +kernel
theorem dX8_cutOne_166 : decode cX8_cutOne 166 = .ok (.sipush 256, 3) := by decide +kernel
theorem dX8_cutOne_169 : decode cX8_cutOne 169 = .ok (.goto 6, 3) := by decide +kernel
theorem dX8_cutOne_172 : decode cX8_cutOne 172 = .ok (.sipush 257, 3) := by decide +kernel
theorem dX8_cutOne_175 : decode cX8_cutOne 175 = .ok (.iastore, 1) := by decide +kernel
theorem dX8_cutOne_176 : decode cX8_cutOne 176 = .ok (.goto 24, 3) := by decide +kernel
theorem dX8_cutOne_179 : decode cX8_cutOne 179 = .ok (.aload_n 0, 1) := by decide +kernel
theorem dX8_cutOne_180 : decode cX8_cutOne 180 = .ok (.getfield 9, 3) := by decide +kernel
theorem dX8_cutOne_183 : decode cX8_cutOne 183 = .ok (.aload_n 0, 1) := by decide +kernel
theorem dX8_cutOne_184 : decode cX8_cutOne 184 = .ok (.getfield 24, 3) := by decide +kernel
theorem dX8_cutOne_187 : decode cX8_cutOne 187 = .ok (.iload_n 2, 1) := by decide +kernel
theorem dX8_cutOne_188 : decode cX8_cutOne 188 = .ok (.invokestatic 79, 3) := by decide +kernel
theorem dX8_cutOne_191 : decode cX8_cutOne 191 = .ok (.ifCond .eq 7, 3) := by decide +kernel
theorem dX8_cutOne_194 : decode cX8_cutOne 194 = .ok (.iload_n 2, 1) := by decide +kernel
theorem dX8_cutOne_195 : decode cX8_cutOne 195 = .ok (.goto 4, 3) := by decide +kernel
theorem dX8_cutOne_198 : decode cX8_cutOne 198 = .ok (.iconst 3, 1) := by decide +kernel
theorem dX8_cutOne_199 : decode cX8_cutOne 199 = .ok (.iastore, 1) := by decide +kernel
theorem dX8_cutOne_200 : decode cX8_cutOne 200 = .ok (.aload_n 0, 1) := by decide +kernel
theorem dX8_cutOne_201 : decode cX8_cutOne 201 = .ok (.dup, 1) := by decide +kernel
theorem dX8_cutOne_202 : decode cX8_cutOne 202 = .ok (.getfield 24, 3) := by decide +kernel
theorem dX8_cutOne_205 : decode cX8_cutOne 205 = .ok (.iconst 1, 1) := by decide +kernel
theorem dX8_cutOne_206 : decode cX8_cutOne 206 = .ok (.iadd, 1) := by decide +kernel
theorem dX8_cutOne_207 : decode cX8_cutOne 207 = .ok (.putfield 24, 3) := by decide +kernel
theorem dX8_cutOne_210 : decode cX8_cutOne 210 = .ok (.iload_n 3, 1) := by decide +kernel
theorem dX8_cutOne_211 : decode cX8_cutOne 211 = .ok (.ireturn, 1) := by decide +kernel
theorem dX8_byteAt_0 : decode cX8_byteAt 0 = .ok (.aload_n 0, 1) := by decide +kernel
theorem dX8_byteAt_1 : decode cX8_byteAt 1 = .ok (.getfield 28, 3) := by decide +kernel
theorem dX8_byteAt_4 : decode cX8_byteAt 4 = .ok (.ifnull 24, 3) := by decide +kernel
theorem dX8_byteAt_7 : decode cX8_byteAt 7 = .ok (.iload_n 1, 1) := by decide +kernel
theorem dX8_byteAt_8 : decode cX8_byteAt 8 = .ok (.ifCond .lt 20, 3) := by decide +kernel
theorem dX8_byteAt_11 : decode cX8_byteAt 11 = .ok (.iload_n 1, 1) := by decide +kernel
theorem dX8_byteAt_12 : decode cX8_byteAt 12 = .ok (.aload_n 0, 1) := by decide +kernel
theorem dX8_byteAt_13 : decode cX8_byteAt 13 = .ok (.getfield 31, 3) := by decide +kernel
theorem dX8_byteAt_16 : decode cX8_byteAt 16 = .ok (.if_icmp .ge 12, 3) := by decide +kernel
theorem dX8_byteAt_19 : decode cX8_byteAt 19 = .ok (.aload_n 0, 1) := by decide +kernel
theorem dX8_byteAt_20 : decode cX8_byteAt 20 = .ok (.getfield 28, 3) := by decide +kernel
theorem dX8_byteAt_23 : decode cX8_byteAt 23 = .ok (.iload_n 1, 1) := by decide +kernel
theorem dX8_byteAt_24 : decode cX8_byteAt 24 = .ok (.iaload, 1) := by decide +kernel
theorem dX8_byteAt_25 : decode cX8_byteAt 25 = .ok (.goto 4, 3) := by decide +kernel
theorem dX8_byteAt_28 : decode cX8_byteAt 28 = .ok (.iconst (-1), 1) := by decide +kernel
theorem dX8_byteAt_29 : decode cX8_byteAt 29 = .ok (.ireturn, 1) := by decide +kernel
theorem dX8_isBlank_0 : decode cX8_isBlank 0 = .ok (.iload_n 0, 1) := by decide +kernel
theorem dX8_isBlank_1 : decode cX8_isBlank 1 = .ok (.bipush 32, 2) := by decide +kernel
theorem dX8_isBlank_3 : decode cX8_isBlank 3 = .ok (.if_icmp .eq 9, 3) := by decide +kernel
theorem dX8_isBlank_6 : decode cX8_isBlank 6 = .ok (.iload_n 0, 1) := by decide +kernel
theorem dX8_isBlank_7 : decode cX8_isBlank 7 = .ok (.bipush 10, 2) := by decide +kernel
theorem dX8_isBlank_9 : decode cX8_isBlank 9 = .ok (.if_icmp .ne 7, 3) := by decide +kernel
theorem dX8_isBlank_12 : decode cX8_isBlank 12 = .ok (.iconst 1, 1) := by decide +kernel
theorem dX8_isBlank_13 : decode cX8_isBlank 13 = .ok (.goto 4, 3) := by decide +kernel
theorem dX8_isBlank_16 : decode cX8_isBlank 16 = .ok (.iconst 0, 1) := by decide +kernel
theorem dX8_isBlank_17 : decode cX8_isBlank 17 = .ok (.ireturn, 1) := by decide +kernel
theorem dX8_isLetter_0 : decode cX8_isLetter 0 = .ok (.iload_n 0, 1) := by decide +kernel
theorem dX8_isLetter_1 : decode cX8_isLetter 1 = .ok (.bipush 97, 2) := by decide +kernel
theorem dX8_isLetter_3 : decode cX8_isLetter 3 = .ok (.if_icmp .lt 9, 3) := by decide +kernel
theorem dX8_isLetter_6 : decode cX8_isLetter 6 = .ok (.iload_n 0, 1) := by decide +kernel
theorem dX8_isLetter_7 : decode cX8_isLetter 7 = .ok (.bipush 122, 2) := by decide +kernel
theorem dX8_isLetter_9 : decode cX8_isLetter 9 = .ok (.if_icmp .le 15, 3) := by decide +kernel
theorem dX8_isLetter_12 : decode cX8_isLetter 12 = .ok (.iload_n 0, 1) := by decide +kernel
theorem dX8_isLetter_13 : decode cX8_isLetter 13 = .ok (.bipush 65, 2) := by decide +kernel
theorem dX8_isLetter_15 : decode cX8_isLetter 15 = .ok (.if_icmp .lt 13, 3) := by decide +kernel
theorem dX8_isLetter_18 : decode cX8_isLetter 18 = .ok (.iload_n 0, 1) := by decide +kernel
theorem dX8_isLetter_19 : decode cX8_isLetter 19 = .ok (.bipush 90, 2) := by decide +kernel
theorem dX8_isLetter_21 : decode cX8_isLetter 21 = .ok (.if_icmp .gt 7, 3) := by decide +kernel
theorem dX8_isLetter_24 : decode cX8_isLetter 24 = .ok (.iconst 1, 1) := by decide +kernel
theorem dX8_isLetter_25 : decode cX8_isLetter 25 = .ok (.goto 4, 3) := by decide +kernel
theorem dX8_isLetter_28 : decode cX8_isLetter 28 = .ok (.iconst 0, 1) := by decide +kernel
theorem dX8_isLetter_29 : decode cX8_isLetter 29 = .ok (.ireturn, 1) := by decide +kernel
theorem dX8_isDigit_0 : decode cX8_isDigit 0 = .ok (.iload_n 0, 1) := by decide +kernel
theorem dX8_isDigit_1 : decode cX8_isDigit 1 = .ok (.bipush 48, 2) := by decide +kernel
theorem dX8_isDigit_3 : decode cX8_isDigit 3 = .ok (.if_icmp .lt 13, 3) := by decide +kernel
theorem dX8_isDigit_6 : decode cX8_isDigit 6 = .ok (.iload_n 0, 1) := by decide +kernel
theorem dX8_isDigit_7 : decode cX8_isDigit 7 = .ok (.bipush 57, 2) := by decide +kernel
theorem dX8_isDigit_9 : decode cX8_isDigit 9 = .ok (.if_icmp .gt 7, 3) := by decide +kernel
theorem dX8_isDigit_12 : decode cX8_isDigit 12 = .ok (.iconst 1, 1) := by decide +kernel
theorem dX8_isDigit_13 : decode cX8_isDigit 13 = .ok (.goto 4, 3) := by decide +kernel
theorem dX8_isDigit_16 : decode cX8_isDigit 16 = .ok (.iconst 0, 1) := by decide +kernel
theorem dX8_isDigit_17 : decode cX8_isDigit 17 = .ok (.ireturn, 1) := by decide +kernel
theorem dX8_isSign_0 : decode cX8_isSign 0 = .ok (.iconst 0, 1) := by decide +kernel
theorem dX8_isSign_1 : decode cX8_isSign 1 = .ok (.istore_n 1, 1) := by decide +kernel
theorem dX8_isSign_2 : decode cX8_isSign 2 = .ok (.iload_n 1, 1) := by decide +kernel
theorem dX8_isSign_3 : decode cX8_isSign 3 = .ok (.ldc 82, 2) := by decide +kernel
theorem dX8_isSign_5 : decode cX8_isSign 5 = .ok (.invokevirtual 84, 3) := by decide +kernel
theorem dX8_isSign_8 : decode cX8_isSign 8 = .ok (.if_icmp .ge 21, 3) := by decide +kernel
theorem dX8_isSign_11 : decode cX8_isSign 11 = .ok (.ldc 82, 2) := by decide +kernel
theorem dX8_isSign_13 : decode cX8_isSign 13 = .ok (.iload_n 1, 1) := by decide +kernel
theorem dX8_isSign_14 : decode cX8_isSign 14 = .ok (.invokevirtual 89, 3) := by decide +kernel
theorem dX8_isSign_17 : decode cX8_isSign 17 = .ok (.iload_n 0, 1) := by decide +kernel
theorem dX8_isSign_18 : decode cX8_isSign 18 = .ok (.if_icmp .ne 5, 3) := by decide +kernel
theorem dX8_isSign_21 : decode cX8_isSign 21 = .ok (.iconst 1, 1) := by decide +kernel
theorem dX8_isSign_22 : decode cX8_isSign 22 = .ok (.ireturn, 1) := by decide +kernel
theorem dX8_isSign_23 : decode cX8_isSign 23 = .ok (.iinc 1 1, 3) := by decide +kernel
theorem dX8_isSign_26 : decode cX8_isSign 26 = .ok (.goto (-24), 3) := by decide +kernel
theorem dX8_isSign_29 : decode cX8_isSign 29 = .ok (.iconst 0, 1) := by decide +kernel
theorem dX8_isSign_30 : decode cX8_isSign 30 = .ok (.ireturn, 1) := by decide +kernel
theorem dX8_lettersStop_0 : decode cX8_lettersStop 0 = .ok (.iload_n 1, 1) := by decide +kernel
theorem dX8_lettersStop_1 : decode cX8_lettersStop 1 = .ok (.istore_n 2, 1) := by decide +kernel
theorem dX8_lettersStop_2 : decode cX8_lettersStop 2 = .ok (.iload_n 1, 1) := by decide +kernel
theorem dX8_lettersStop_3 : decode cX8_lettersStop 3 = .ok (.istore_n 3, 1) := by decide +kernel
theorem dX8_lettersStop_4 : decode cX8_lettersStop 4 = .ok (.iload_n 3, 1) := by decide +kernel
theorem dX8_lettersStop_5 : decode cX8_lettersStop 5 = .ok (.aload_n 0, 1) := by decide +kernel
theorem dX8_lettersStop_6 : decode cX8_lettersStop 6 = .ok (.getfield 31, 3) := by decide +kernel
theorem dX8_lettersStop_9 : decode cX8_lettersStop 9 = .ok (.if_icmp .ge 24, 3) := by decide +kernel
theorem dX8_lettersStop_12 : decode cX8_lettersStop 12 = .ok (.aload_n 0, 1) := by decide +kernel
theorem dX8_lettersStop_13 : decode cX8_lettersStop 13 = .ok (.iload_n 3, 1) := by decide +kernel
theorem dX8_lettersStop_14 : decode cX8_lettersStop 14 = .ok (.invokevirtual 47, 3) := by decide +kernel
theorem dX8_lettersStop_17 : decode cX8_lettersStop 17 = .ok (.invokestatic 58, 3) := by decide +kernel
theorem dX8_lettersStop_20 : decode cX8_lettersStop 20 = .ok (.ifCond .eq 13, 3) := by decide +kernel
theorem dX8_lettersStop_23 : decode cX8_lettersStop 23 = .ok (.iload_n 3, 1) := by decide +kernel
theorem dX8_lettersStop_24 : decode cX8_lettersStop 24 = .ok (.iconst 1, 1) := by decide +kernel
theorem dX8_lettersStop_25 : decode cX8_lettersStop 25 = .ok (.iadd, 1) := by decide +kernel
theorem dX8_lettersStop_26 : decode cX8_lettersStop 26 = .ok (.istore_n 2, 1) := by decide +kernel
theorem dX8_lettersStop_27 : decode cX8_lettersStop 27 = .ok (.iinc 3 1, 3) := by decide +kernel
theorem dX8_lettersStop_30 : decode cX8_lettersStop 30 = .ok (.goto (-26), 3) := by decide +kernel
theorem dX8_lettersStop_33 : decode cX8_lettersStop 33 = .ok (.iload_n 2, 1) := by decide +kernel
theorem dX8_lettersStop_34 : decode cX8_lettersStop 34 = .ok (.ireturn, 1) := by decide +kernel
theorem dX8_digitsStop_0 : decode cX8_digitsStop 0 = .ok (.iload_n 1, 1) := by decide +kernel
theorem dX8_digitsStop_1 : decode cX8_digitsStop 1 = .ok (.istore_n 2, 1) := by decide +kernel
theorem dX8_digitsStop_2 : decode cX8_digitsStop 2 = .ok (.iload_n 1, 1) := by decide +kernel
theorem dX8_digitsStop_3 : decode cX8_digitsStop 3 = .ok (.istore_n 3, 1) := by decide +kernel
theorem dX8_digitsStop_4 : decode cX8_digitsStop 4 = .ok (.iload_n 3, 1) := by decide +kernel
theorem dX8_digitsStop_5 : decode cX8_digitsStop 5 = .ok (.aload_n 0, 1) := by decide +kernel
theorem dX8_digitsStop_6 : decode cX8_digitsStop 6 = .ok (.getfield 31, 3) := by decide +kernel
theorem dX8_digitsStop_9 : decode cX8_digitsStop 9 = .ok (.if_icmp .ge 24, 3) := by decide +kernel
theorem dX8_digitsStop_12 : decode cX8_digitsStop 12 = .ok (.aload_n 0, 1) := by decide +kernel
theorem dX8_digitsStop_13 : decode cX8_digitsStop 13 = .ok (.iload_n 3, 1) := by decide +kernel
theorem dX8_digitsStop_14 : decode cX8_digitsStop 14 = .ok (.invokevirtual 47, 3) := by decide +kernel
theorem dX8_digitsStop_17 : decode cX8_digitsStop 17 = .ok (.invokestatic 70, 3) := by decide +kernel
theorem dX8_digitsStop_20 : decode cX8_digitsStop 20 = .ok (.ifCond .eq 13, 3) := by decide +kernel
theorem dX8_digitsStop_23 : decode cX8_digitsStop 23 = .ok (.iload_n 3, 1) := by decide +kernel
theorem dX8_digitsStop_24 : decode cX8_digitsStop 24 = .ok (.iconst 1, 1) := by decide +kernel
theorem dX8_digitsStop_25 : decode cX8_digitsStop 25 = .ok (.iadd, 1) := by decide +kernel
theorem dX8_digitsStop_26 : decode cX8_digitsStop 26 = .ok (.istore_n 2, 1) := by decide +kernel
theorem dX8_digitsStop_27 : decode cX8_digitsStop 27 = .ok (.iinc 3 1, 3) := by decide +kernel
theorem dX8_digitsStop_30 : decode cX8_digitsStop 30 = .ok (.goto (-26), 3) := by decide +kernel
theorem dX8_digitsStop_33 : decode cX8_digitsStop 33 = .ok (.iload_n 2, 1) := by decide +kernel
theorem dX8_digitsStop_34 : decode cX8_digitsStop 34 = .ok (.ireturn, 1) := by decide +kernel
theorem dX8_numberOf_0 : decode cX8_numberOf 0 = .ok (.iconst 0, 1) := by decide +kernel
theorem dX8_numberOf_1 : decode cX8_numberOf 1 = .ok (.istore_n 3, 1) := by decide +kernel
theorem dX8_numberOf_2 : decode cX8_numberOf 2 = .ok (.iload_n 1, 1) := by decide +kernel
theorem dX8_numberOf_3 : decode cX8_numberOf 3 = .ok (.istore 4, 2) := by decide +kernel
theorem dX8_numberOf_5 : decode cX8_numberOf 5 = .ok (.iload 4, 2) := by decide +kernel
theorem dX8_numberOf_7 : decode cX8_numberOf 7 = .ok (.iload_n 2, 1) := by decide +kernel
theorem dX8_numberOf_8 : decode cX8_numberOf 8 = .ok (.if_icmp .ge 30, 3) := by decide +kernel
theorem dX8_numberOf_11 : decode cX8_numberOf 11 = .ok (.sipush 10000, 3) := by decide +kernel
theorem dX8_numberOf_14 : decode cX8_numberOf 14 = .ok (.iload_n 3, 1) := by decide +kernel
theorem dX8_numberOf_15 : decode cX8_numberOf 15 = .ok (.bipush 10, 2) := by decide +kernel
theorem dX8_numberOf_17 : decode cX8_numberOf 17 = .ok (.imul, 1) := by decide +kernel
theorem dX8_numberOf_18 : decode cX8_numberOf 18 = .ok (.aload_n 0, 1) := by decide +kernel
theorem dX8_numberOf_19 : decode cX8_numberOf 19 = .ok (.iload 4, 2) := by decide +kernel
theorem dX8_numberOf_21 : decode cX8_numberOf 21 = .ok (.invokevirtual 47, 3) := by decide +kernel
theorem dX8_numberOf_24 : decode cX8_numberOf 24 = .ok (.iadd, 1) := by decide +kernel
theorem dX8_numberOf_25 : decode cX8_numberOf 25 = .ok (.bipush 48, 2) := by decide +kernel
theorem dX8_numberOf_27 : decode cX8_numberOf 27 = .ok (.isub, 1) := by decide +kernel
theorem dX8_numberOf_28 : decode cX8_numberOf 28 = .ok (.invokestatic 38, 3) := by decide +kernel
theorem dX8_numberOf_31 : decode cX8_numberOf 31 = .ok (.istore_n 3, 1) := by decide +kernel
theorem dX8_numberOf_32 : decode cX8_numberOf 32 = .ok (.iinc 4 1, 3) := by decide +kernel
theorem dX8_numberOf_35 : decode cX8_numberOf 35 = .ok (.goto (-30), 3) := by decide +kernel
theorem dX8_numberOf_38 : decode cX8_numberOf 38 = .ok (.iload_n 3, 1) := by decide +kernel
theorem dX8_numberOf_39 : decode cX8_numberOf 39 = .ok (.ireturn, 1) := by decide +kernel
theorem dX8_nameOf_0 : decode cX8_nameOf 0 = .ok (.iconst 0, 1) := by decide +kernel
theorem dX8_nameOf_1 : decode cX8_nameOf 1 = .ok (.istore_n 3, 1) := by decide +kernel
theorem dX8_nameOf_2 : decode cX8_nameOf 2 = .ok (.iload_n 3, 1) := by decide +kernel
theorem dX8_nameOf_3 : decode cX8_nameOf 3 = .ok (.bipush 14, 2) := by decide +kernel
theorem dX8_nameOf_5 : decode cX8_nameOf 5 = .ok (.if_icmp .ge 24, 3) := by decide +kernel
theorem dX8_nameOf_8 : decode cX8_nameOf 8 = .ok (.aload_n 0, 1) := by decide +kernel
theorem dX8_nameOf_9 : decode cX8_nameOf 9 = .ok (.iload_n 1, 1) := by decide +kernel
theorem dX8_nameOf_10 : decode cX8_nameOf 10 = .ok (.iload_n 2, 1) := by decide +kernel
theorem dX8_nameOf_11 : decode cX8_nameOf 11 = .ok (.iload_n 3, 1) := by decide +kernel
theorem dX8_nameOf_12 : decode cX8_nameOf 12 = .ok (.invokestatic 93, 3) := by decide +kernel
theorem dX8_nameOf_15 : decode cX8_nameOf 15 = .ok (.invokevirtual 97, 3) := by decide +kernel
theorem dX8_nameOf_18 : decode cX8_nameOf 18 = .ok (.ifCond .eq 5, 3) := by decide +kernel
theorem dX8_nameOf_21 : decode cX8_nameOf 21 = .ok (.iload_n 3, 1) := by decide +kernel
theorem dX8_nameOf_22 : decode cX8_nameOf 22 = .ok (.ireturn, 1) := by decide +kernel
theorem dX8_nameOf_23 : decode cX8_nameOf 23 = .ok (.iinc 3 1, 3) := by decide +kernel
theorem dX8_nameOf_26 : decode cX8_nameOf 26 = .ok (.goto (-24), 3) := by decide +kernel
theorem dX8_nameOf_29 : decode cX8_nameOf 29 = .ok (.iconst (-1), 1) := by decide +kernel
theorem dX8_nameOf_30 : decode cX8_nameOf 30 = .ok (.ireturn, 1) := by decide +kernel
theorem dX8_spells_0 : decode cX8_spells 0 = .ok (.iload_n 2, 1) := by decide +kernel
theorem dX8_spells_1 : decode cX8_spells 1 = .ok (.iload_n 1, 1) := by decide +kernel
theorem dX8_spells_2 : decode cX8_spells 2 = .ok (.isub, 1) := by decide +kernel
theorem dX8_spells_3 : decode cX8_spells 3 = .ok (.aload_n 3, 1) := by decide +kernel
theorem dX8_spells_4 : decode cX8_spells 4 = .ok (.invokevirtual 84, 3) := by decide +kernel
theorem dX8_spells_7 : decode cX8_spells 7 = .ok (.if_icmp .eq 5, 3) := by decide +kernel
theorem dX8_spells_10 : decode cX8_spells 10 = .ok (.iconst 0, 1) := by decide +kernel
theorem dX8_spells_11 : decode cX8_spells 11 = .ok (.ireturn, 1) := by decide +kernel
theorem dX8_spells_12 : decode cX8_spells 12 = .ok (.iconst 0, 1) := by decide +kernel
theorem dX8_spells_13 : decode cX8_spells 13 = .ok (.istore 4, 2) := by decide +kernel
theorem dX8_spells_15 : decode cX8_spells 15 = .ok (.iload 4, 2) := by decide +kernel
theorem dX8_spells_17 : decode cX8_spells 17 = .ok (.aload_n 3, 1) := by decide +kernel
theorem dX8_spells_18 : decode cX8_spells 18 = .ok (.invokevirtual 84, 3) := by decide +kernel
theorem dX8_spells_21 : decode cX8_spells 21 = .ok (.if_icmp .ge 28, 3) := by decide +kernel
theorem dX8_spells_24 : decode cX8_spells 24 = .ok (.aload_n 0, 1) := by decide +kernel
theorem dX8_spells_25 : decode cX8_spells 25 = .ok (.iload_n 1, 1) := by decide +kernel
theorem dX8_spells_26 : decode cX8_spells 26 = .ok (.iload 4, 2) := by decide +kernel
theorem dX8_spells_28 : decode cX8_spells 28 = .ok (.iadd, 1) := by decide +kernel
theorem dX8_spells_29 : decode cX8_spells 29 = .ok (.invokevirtual 47, 3) := by decide +kernel
theorem dX8_spells_32 : decode cX8_spells 32 = .ok (.aload_n 3, 1) := by decide +kernel
theorem dX8_spells_33 : decode cX8_spells 33 = .ok (.iload 4, 2) := by decide +kernel
theorem dX8_spells_35 : decode cX8_spells 35 = .ok (.invokevirtual 89, 3) := by decide +kernel
theorem dX8_spells_38 : decode cX8_spells 38 = .ok (.if_icmp .eq 5, 3) := by decide +kernel
theorem dX8_spells_41 : decode cX8_spells 41 = .ok (.iconst 0, 1) := by decide +kernel
theorem dX8_spells_42 : decode cX8_spells 42 = .ok (.ireturn, 1) := by decide +kernel
theorem dX8_spells_43 : decode cX8_spells 43 = .ok (.iinc 4 1, 3) := by decide +kernel
theorem dX8_spells_46 : decode cX8_spells 46 = .ok (.goto (-31), 3) := by decide +kernel
theorem dX8_spells_49 : decode cX8_spells 49 = .ok (.iconst 1, 1) := by decide +kernel
theorem dX8_spells_50 : decode cX8_spells 50 = .ok (.ireturn, 1) := by decide +kernel
theorem dX8_nameBy_0 : decode cX8_nameBy 0 = .ok (.iload_n 0, 1) := by decide +kernel
theorem dX8_nameBy_1 : decode cX8_nameBy 1 = .ok (.tableswitch 113 0 13 #[71, 74, 77, 80, 83, 86, 89, 92, 95, 98, 101, 104, 107, 110], 71) := by decide +kernel
theorem dX8_nameBy_72 : decode cX8_nameBy 72 = .ok (.ldc 101, 2) := by decide +kernel
theorem dX8_nameBy_74 : decode cX8_nameBy 74 = .ok (.areturn, 1) := by decide +kernel
theorem dX8_nameBy_75 : decode cX8_nameBy 75 = .ok (.ldc 103, 2) := by decide +kernel
theorem dX8_nameBy_77 : decode cX8_nameBy 77 = .ok (.areturn, 1) := by decide +kernel
theorem dX8_nameBy_78 : decode cX8_nameBy 78 = .ok (.ldc 105, 2) := by decide +kernel
theorem dX8_nameBy_80 : decode cX8_nameBy 80 = .ok (.areturn, 1) := by decide +kernel
theorem dX8_nameBy_81 : decode cX8_nameBy 81 = .ok (.ldc 107, 2) := by decide +kernel
theorem dX8_nameBy_83 : decode cX8_nameBy 83 = .ok (.areturn, 1) := by decide +kernel
theorem dX8_nameBy_84 : decode cX8_nameBy 84 = .ok (.ldc 109, 2) := by decide +kernel
theorem dX8_nameBy_86 : decode cX8_nameBy 86 = .ok (.areturn, 1) := by decide +kernel
theorem dX8_nameBy_87 : decode cX8_nameBy 87 = .ok (.ldc 111, 2) := by decide +kernel
theorem dX8_nameBy_89 : decode cX8_nameBy 89 = .ok (.areturn, 1) := by decide +kernel
theorem dX8_nameBy_90 : decode cX8_nameBy 90 = .ok (.ldc 113, 2) := by decide +kernel
theorem dX8_nameBy_92 : decode cX8_nameBy 92 = .ok (.areturn, 1) := by decide +kernel
theorem dX8_nameBy_93 : decode cX8_nameBy 93 = .ok (.ldc 115, 2) := by decide +kernel
theorem dX8_nameBy_95 : decode cX8_nameBy 95 = .ok (.areturn, 1) := by decide +kernel
theorem dX8_nameBy_96 : decode cX8_nameBy 96 = .ok (.ldc 117, 2) := by decide +kernel
theorem dX8_nameBy_98 : decode cX8_nameBy 98 = .ok (.areturn, 1) := by decide +kernel
theorem dX8_nameBy_99 : decode cX8_nameBy 99 = .ok (.ldc 119, 2) := by decide +kernel
theorem dX8_nameBy_101 : decode cX8_nameBy 101 = .ok (.areturn, 1) := by decide +kernel
theorem dX8_nameBy_102 : decode cX8_nameBy 102 = .ok (.ldc 121, 2) := by decide +kernel
theorem dX8_nameBy_104 : decode cX8_nameBy 104 = .ok (.areturn, 1) := by decide +kernel
theorem dX8_nameBy_105 : decode cX8_nameBy 105 = .ok (.ldc 123, 2) := by decide +kernel
theorem dX8_nameBy_107 : decode cX8_nameBy 107 = .ok (.areturn, 1) := by decide +kernel
theorem dX8_nameBy_108 : decode cX8_nameBy 108 = .ok (.ldc 125, 2) := by decide +kernel
theorem dX8_nameBy_110 : decode cX8_nameBy 110 = .ok (.areturn, 1) := by decide +kernel
theorem dX8_nameBy_111 : decode cX8_nameBy 111 = .ok (.ldc 127, 2) := by decide +kernel
theorem dX8_nameBy_113 : decode cX8_nameBy 113 = .ok (.areturn, 1) := by decide +kernel
theorem dX8_nameBy_114 : decode cX8_nameBy 114 = .ok (.ldc 129, 2) := by decide +kernel
theorem dX8_nameBy_116 : decode cX8_nameBy 116 = .ok (.areturn, 1) := by decide +kernel
theorem dX8_wordOf_0 : decode cX8_wordOf 0 = .ok (.iload_n 2, 1) := by decide +kernel
theorem dX8_wordOf_1 : decode cX8_wordOf 1 = .ok (.iload_n 1, 1) := by decide +kernel
theorem dX8_wordOf_2 : decode cX8_wordOf 2 = .ok (.isub, 1) := by decide +kernel
theorem dX8_wordOf_3 : decode cX8_wordOf 3 = .ok (.aload_n 0, 1) := by decide +kernel
theorem dX8_wordOf_4 : decode cX8_wordOf 4 = .ok (.getfield 34, 3) := by decide +kernel
theorem dX8_wordOf_7 : decode cX8_wordOf 7 = .ok (.getfield 131, 3) := by decide +kernel
theorem dX8_wordOf_10 : decode cX8_wordOf 10 = .ok (.if_icmp .eq 5, 3) := by decide +kernel
theorem dX8_wordOf_13 : decode cX8_wordOf 13 = .ok (.iconst (-1), 1) := by decide +kernel
theorem dX8_wordOf_14 : decode cX8_wordOf 14 = .ok (.ireturn, 1) := by decide +kernel
theorem dX8_wordOf_15 : decode cX8_wordOf 15 = .ok (.iconst 0, 1) := by decide +kernel
theorem dX8_wordOf_16 : decode cX8_wordOf 16 = .ok (.istore_n 3, 1) := by decide +kernel
theorem dX8_wordOf_17 : decode cX8_wordOf 17 = .ok (.iload_n 1, 1) := by decide +kernel
theorem dX8_wordOf_18 : decode cX8_wordOf 18 = .ok (.istore 4, 2) := by decide +kernel
theorem dX8_wordOf_20 : decode cX8_wordOf 20 = .ok (.iload 4, 2) := by decide +kernel
theorem dX8_wordOf_22 : decode cX8_wordOf 22 = .ok (.iload_n 2, 1) := by decide +kernel
theorem dX8_wordOf_23 : decode cX8_wordOf 23 = .ok (.if_icmp .ge 52, 3) := by decide +kernel
theorem dX8_wordOf_26 : decode cX8_wordOf 26 = .ok (.aload_n 0, 1) := by decide +kernel
theorem dX8_wordOf_27 : decode cX8_wordOf 27 = .ok (.iload 4, 2) := by decide +kernel
theorem dX8_wordOf_29 : decode cX8_wordOf 29 = .ok (.invokevirtual 47, 3) := by decide +kernel
theorem dX8_wordOf_32 : decode cX8_wordOf 32 = .ok (.bipush 97, 2) := by decide +kernel
theorem dX8_wordOf_34 : decode cX8_wordOf 34 = .ok (.isub, 1) := by decide +kernel
theorem dX8_wordOf_35 : decode cX8_wordOf 35 = .ok (.istore 5, 2) := by decide +kernel
theorem dX8_wordOf_37 : decode cX8_wordOf 37 = .ok (.iload 5, 2) := by decide +kernel
theorem dX8_wordOf_39 : decode cX8_wordOf 39 = .ok (.ifCond .lt 15, 3) := by decide +kernel
theorem dX8_wordOf_42 : decode cX8_wordOf 42 = .ok (.iload 5, 2) := by decide +kernel
theorem dX8_wordOf_44 : decode cX8_wordOf 44 = .ok (.aload_n 0, 1) := by decide +kernel
theorem dX8_wordOf_45 : decode cX8_wordOf 45 = .ok (.getfield 34, 3) := by decide +kernel
theorem dX8_wordOf_48 : decode cX8_wordOf 48 = .ok (.getfield 134, 3) := by decide +kernel
theorem dX8_wordOf_51 : decode cX8_wordOf 51 = .ok (.if_icmp .lt 5, 3) := by decide +kernel
theorem dX8_wordOf_54 : decode cX8_wordOf 54 = .ok (.iconst (-1), 1) := by decide +kernel
theorem dX8_wordOf_55 : decode cX8_wordOf 55 = .ok (.ireturn, 1) := by decide +kernel
theorem dX8_wordOf_56 : decode cX8_wordOf 56 = .ok (.iload_n 3, 1) := by decide +kernel
theorem dX8_wordOf_57 : decode cX8_wordOf 57 = .ok (.aload_n 0, 1) := by decide +kernel
theorem dX8_wordOf_58 : decode cX8_wordOf 58 = .ok (.getfield 34, 3) := by decide +kernel
theorem dX8_wordOf_61 : decode cX8_wordOf 61 = .ok (.getfield 134, 3) := by decide +kernel
theorem dX8_wordOf_64 : decode cX8_wordOf 64 = .ok (.imul, 1) := by decide +kernel
theorem dX8_wordOf_65 : decode cX8_wordOf 65 = .ok (.iload 5, 2) := by decide +kernel
theorem dX8_wordOf_67 : decode cX8_wordOf 67 = .ok (.iadd, 1) := by decide +kernel
theorem dX8_wordOf_68 : decode cX8_wordOf 68 = .ok (.istore_n 3, 1) := by decide +kernel
theorem dX8_wordOf_69 : decode cX8_wordOf 69 = .ok (.iinc 4 1, 3) := by decide +kernel
theorem dX8_wordOf_72 : decode cX8_wordOf 72 = .ok (.goto (-52), 3) := by decide +kernel
theorem dX8_wordOf_75 : decode cX8_wordOf 75 = .ok (.iload_n 3, 1) := by decide +kernel
theorem dX8_wordOf_76 : decode cX8_wordOf 76 = .ok (.ireturn, 1) := by decide +kernel
theorem dX9_init_0 : decode cX9_init 0 = .ok (.aload_n 0, 1) := by decide +kernel
theorem dX9_init_1 : decode cX9_init 1 = .ok (.invokespecial 3, 3) := by decide +kernel
theorem dX9_init_4 : decode cX9_init 4 = .ok (.aload_n 0, 1) := by decide +kernel
theorem dX9_init_5 : decode cX9_init 5 = .ok (.new 9, 3) := by decide +kernel
theorem dX9_init_8 : decode cX9_init 8 = .ok (.dup, 1) := by decide +kernel
theorem dX9_init_9 : decode cX9_init 9 = .ok (.invokespecial 11, 3) := by decide +kernel
theorem dX9_init_12 : decode cX9_init 12 = .ok (.putfield 12, 3) := by decide +kernel
theorem dX9_init_15 : decode cX9_init 15 = .ok (.aload_n 0, 1) := by decide +kernel
theorem dX9_init_16 : decode cX9_init 16 = .ok (.iconst 0, 1) := by decide +kernel
theorem dX9_init_17 : decode cX9_init 17 = .ok (.putfield 18, 3) := by decide +kernel
theorem dX9_init_20 : decode cX9_init 20 = .ok (.aload_n 0, 1) := by decide +kernel
theorem dX9_init_21 : decode cX9_init 21 = .ok (.aconst_null, 1) := by decide +kernel
theorem dX9_init_22 : decode cX9_init 22 = .ok (.putfield 22, 3) := by decide +kernel
theorem dX9_init_25 : decode cX9_init 25 = .ok (.aload_n 0, 1) := by decide +kernel
theorem dX9_init_26 : decode cX9_init 26 = .ok (.aload_n 1, 1) := by decide +kernel
theorem dX9_init_27 : decode cX9_init 27 = .ok (.putfield 26, 3) := by decide +kernel
theorem dX9_init_30 : decode cX9_init 30 = .ok (.aload_n 0, 1) := by decide +kernel
theorem dX9_init_31 : decode cX9_init 31 = .ok (.aload_n 1, 1) := by decide +kernel
theorem dX9_init_32 : decode cX9_init 32 = .ok (.getfield 30, 3) := by decide +kernel
theorem dX9_init_35 : decode cX9_init 35 = .ok (.iconst 1, 1) := by decide +kernel
theorem dX9_init_36 : decode cX9_init 36 = .ok (.iadd, 1) := by decide +kernel
theorem dX9_init_37 : decode cX9_init 37 = .ok (.putfield 35, 3) := by decide +kernel
theorem dX9_init_40 : decode cX9_init 40 = .ok (.aload_n 0, 1) := by decide +kernel
theorem dX9_init_41 : decode cX9_init 41 = .ok (.bipush 8, 2) := by decide +kernel
theorem dX9_init_43 : decode cX9_init 43 = .ok (.aload_n 1, 1) := by decide +kernel
theorem dX9_init_44 : decode cX9_init 44 = .ok (.getfield 30, 3) := by decide +kernel
theorem dX9_init_47 : decode cX9_init 47 = .ok (.imul, 1) := by decide +kernel
theorem dX9_init_48 : decode cX9_init 48 = .ok (.aload_n 1, 1) := by decide +kernel
theorem dX9_init_49 : decode cX9_init 49 = .ok (.getfield 38, 3) := by decide +kernel
theorem dX9_init_52 : decode cX9_init 52 = .ok (.imul, 1) := by decide +kernel
theorem dX9_init_53 : decode cX9_init 53 = .ok (.aload_n 1, 1) := by decide +kernel
theorem dX9_init_54 : decode cX9_init 54 = .ok (.getfield 38, 3) := by decide +kernel
theorem dX9_init_57 : decode cX9_init 57 = .ok (.imul, 1) := by decide +kernel
theorem dX9_init_58 : decode cX9_init 58 = .ok (.newarray .int, 2) := by decide +kernel
theorem dX9_init_60 : decode cX9_init 60 = .ok (.putfield 41, 3) := by decide +kernel
theorem dX9_init_63 : decode cX9_init 63 = .ok (.aload_n 0, 1) := by decide +kernel
theorem dX9_init_64 : decode cX9_init 64 = .ok (.aload_n 0, 1) := by decide +kernel
theorem dX9_init_65 : decode cX9_init 65 = .ok (.getfield 41, 3) := by decide +kernel
theorem dX9_init_68 : decode cX9_init 68 = .ok (.arraylength, 1) := by decide +kernel
theorem dX9_init_69 : decode cX9_init 69 = .ok (.aload_n 0, 1) := by decide +kernel
theorem dX9_init_70 : decode cX9_init 70 = .ok (.getfield 35, 3) := by decide +kernel
theorem dX9_init_73 : decode cX9_init 73 = .ok (.imul, 1) := by decide +kernel
theorem dX9_init_74 : decode cX9_init 74 = .ok (.newarray .int, 2) := by decide +kernel
theorem dX9_init_76 : decode cX9_init 76 = .ok (.putfield 45, 3) := by decide +kernel
theorem dX9_init_79 : decode cX9_init 79 = .ok (.return_, 1) := by decide +kernel
theorem dX9_ruledBy_0 : decode cX9_ruledBy 0 = .ok (.aload_n 0, 1) := by decide +kernel
theorem dX9_ruledBy_1 : decode cX9_ruledBy 1 = .ok (.aload_n 1, 1) := by decide +kernel
theorem dX9_ruledBy_2 : decode cX9_ruledBy 2 = .ok (.putfield 22, 3) := by decide +kernel
theorem dX9_ruledBy_5 : decode cX9_ruledBy 5 = .ok (.aload_n 0, 1) := by decide +kernel
theorem dX9_ruledBy_6 : decode cX9_ruledBy 6 = .ok (.iconst 0, 1) := by decide +kernel
theorem dX9_ruledBy_7 : decode cX9_ruledBy 7 = .ok (.putfield 18, 3) := by decide +kernel
theorem dX9_ruledBy_10 : decode cX9_ruledBy 10 = .ok (.return_, 1) := by decide +kernel
theorem dX9_prepare_0 : decode cX9_prepare 0 = .ok (.aload_n 0, 1) := by decide +kernel
theorem dX9_prepare_1 : decode cX9_prepare 1 = .ok (.getfield 22, 3) := by decide +kernel
theorem dX9_prepare_4 : decode cX9_prepare 4 = .ok (.ifnull 13, 3) := by decide +kernel
theorem dX9_prepare_7 : decode cX9_prepare 7 = .ok (.aload_n 0, 1) := by decide +kernel
theorem dX9_prepare_8 : decode cX9_prepare 8 = .ok (.getfield 22, 3) := by decide +kernel
theorem dX9_prepare_11 : decode cX9_prepare 11 = .ok (.getfield 48, 3) := by decide +kernel
theorem dX9_prepare_14 : decode cX9_prepare 14 = .ok (.ifCond .ne 7, 3) := by decide +kernel
theorem dX9_prepare_17 : decode cX9_prepare 17 = .ok (.iconst 1, 1) := by decide +kernel
theorem dX9_prepare_18 : decode cX9_prepare 18 = .ok (.goto 4, 3) := by decide +kernel
theorem dX9_prepare_21 : decode cX9_prepare 21 = .ok (.iconst 0, 1) := by decide +kernel
theorem dX9_prepare_22 : decode cX9_prepare 22 = .ok (.istore_n 2, 1) := by decide +kernel
theorem dX9_prepare_23 : decode cX9_prepare 23 = .ok (.aload_n 0, 1) := by decide +kernel
theorem dX9_prepare_24 : decode cX9_prepare 24 = .ok (.getfield 18, 3) := by decide +kernel
theorem dX9_prepare_27 : decode cX9_prepare 27 = .ok (.istore_n 3, 1) := by decide +kernel
theorem dX9_prepare_28 : decode cX9_prepare 28 = .ok (.iload_n 3, 1) := by decide +kernel
theorem dX9_prepare_29 : decode cX9_prepare 29 = .ok (.iload_n 1, 1) := by decide +kernel
theorem dX9_prepare_30 : decode cX9_prepare 30 = .ok (.if_icmp .ge 43, 3) := by decide +kernel
theorem dX9_prepare_33 : decode cX9_prepare 33 = .ok (.iload_n 3, 1) := by decide +kernel
theorem dX9_prepare_34 : decode cX9_prepare 34 = .ok (.bipush 8, 2) := by decide +kernel
theorem dX9_prepare_36 : decode cX9_prepare 36 = .ok (.if_icmp .ge 37, 3) := by decide +kernel
theorem dX9_prepare_39 : decode cX9_prepare 39 = .ok (.iload_n 2, 1) := by decide +kernel
theorem dX9_prepare_40 : decode cX9_prepare 40 = .ok (.ifCond .eq 15, 3) := by decide +kernel
theorem dX9_prepare_43 : decode cX9_prepare 43 = .ok (.iload_n 3, 1) := by decide +kernel
theorem dX9_prepare_44 : decode cX9_prepare 44 = .ok (.ifCond .le 11, 3) := by decide +kernel
theorem dX9_prepare_47 : decode cX9_prepare 47 = .ok (.aload_n 0, 1) := by decide +kernel
theorem dX9_prepare_48 : decode cX9_prepare 48 = .ok (.iload_n 3, 1) := by decide +kernel
theorem dX9_prepare_49 : decode cX9_prepare 49 = .ok (.invokevirtual 54, 3) := by decide +kernel
theorem dX9_prepare_52 : decode cX9_prepare 52 = .ok (.goto 8, 3) := by decide +kernel
theorem dX9_prepare_55 : decode cX9_prepare 55 = .ok (.aload_n 0, 1) := by decide +kernel
theorem dX9_prepare_56 : decode cX9_prepare 56 = .ok (.iload_n 3, 1) := by decide +kernel
theorem dX9_prepare_57 : decode cX9_prepare 57 = .ok (.invokevirtual 58, 3) := by decide +kernel
theorem dX9_prepare_60 : decode cX9_prepare 60 = .ok (.aload_n 0, 1) := by decide +kernel
theorem dX9_prepare_61 : decode cX9_prepare 61 = .ok (.iload_n 3, 1) := by decide +kernel
theorem dX9_prepare_62 : decode cX9_prepare 62 = .ok (.iconst 1, 1) := by decide +kernel
theorem dX9_prepare_63 : decode cX9_prepare 63 = .ok (.iadd, 1) := by decide +kernel
theorem dX9_prepare_64 : decode cX9_prepare 64 = .ok (.putfield 18, 3) := by decide +kernel
theorem dX9_prepare_67 : decode cX9_prepare 67 = .ok (.iinc 3 1, 3) := by decide +kernel
theorem dX9_prepare_70 : decode cX9_prepare 70 = .ok (.goto (-42), 3) := by decide +kernel
theorem dX9_prepare_73 : decode cX9_prepare 73 = .ok (.return_, 1) := by decide +kernel
theorem dX9_copyFirstHand_0 : decode cX9_copyFirstHand 0 = .ok (.aload_n 0, 1) := by decide +kernel
theorem dX9_copyFirstHand_1 : decode cX9_copyFirstHand 1 = .ok (.getfield 26, 3) := by decide +kernel
theorem dX9_copyFirstHand_4 : decode cX9_copyFirstHand 4 = .ok (.getfield 30, 3) := by decide +kernel
theorem dX9_copyFirstHand_7 : decode cX9_copyFirstHand 7 = .ok (.aload_n 0, 1) := by decide +kernel
theorem dX9_copyFirstHand_8 : decode cX9_copyFirstHand 8 = .ok (.getfield 26, 3) := by decide +kernel
theorem dX9_copyFirstHand_11 : decode cX9_copyFirstHand 11 = .ok (.getfield 38, 3) := by decide +kernel
theorem dX9_copyFirstHand_14 : decode cX9_copyFirstHand 14 = .ok (.imul, 1) := by decide +kernel
theorem dX9_copyFirstHand_15 : decode cX9_copyFirstHand 15 = .ok (.aload_n 0, 1) := by decide +kernel
theorem dX9_copyFirstHand_16 : decode cX9_copyFirstHand 16 = .ok (.getfield 26, 3) := by decide +kernel
theorem dX9_copyFirstHand_19 : decode cX9_copyFirstHand 19 = .ok (.getfield 38, 3) := by decide +kernel
theorem dX9_copyFirstHand_22 : decode cX9_copyFirstHand 22 = .ok (.imul, 1) := by decide +kernel
theorem dX9_copyFirstHand_23 : decode cX9_copyFirstHand 23 = .ok (.istore_n 2, 1) := by decide +kernel
theorem dX9_copyFirstHand_24 : decode cX9_copyFirstHand 24 = .ok (.aload_n 0, 1) := by decide +kernel
theorem dX9_copyFirstHand_25 : decode cX9_copyFirstHand 25 = .ok (.getfield 41, 3) := by decide +kernel
theorem dX9_copyFirstHand_28 : decode cX9_copyFirstHand 28 = .ok (.iconst 0, 1) := by decide +kernel
theorem dX9_copyFirstHand_29 : decode cX9_copyFirstHand 29 = .ok (.aload_n 0, 1) := by decide +kernel
theorem dX9_copyFirstHand_30 : decode cX9_copyFirstHand 30 = .ok (.getfield 41, 3) := by decide +kernel
theorem dX9_copyFirstHand_33 : decode cX9_copyFirstHand 33 = .ok (.iload_n 1, 1) := by decide +kernel
theorem dX9_copyFirstHand_34 : decode cX9_copyFirstHand 34 = .ok (.iload_n 2, 1) := by decide +kernel
theorem dX9_copyFirstHand_35 : decode cX9_copyFirstHand 35 = .ok (.imul, 1) := by decide +kernel
theorem dX9_copyFirstHand_36 : decode cX9_copyFirstHand 36 = .ok (.iload_n 2, 1) := by decide +kernel
theorem dX9_copyFirstHand_37 : decode cX9_copyFirstHand 37 = .ok (.invokestatic 61, 3) := by decide +kernel
theorem dX9_copyFirstHand_40 : decode cX9_copyFirstHand 40 = .ok (.aload_n 0, 1) := by decide +kernel
theorem dX9_copyFirstHand_41 : decode cX9_copyFirstHand 41 = .ok (.getfield 45, 3) := by decide +kernel
theorem dX9_copyFirstHand_44 : decode cX9_copyFirstHand 44 = .ok (.iconst 0, 1) := by decide +kernel
theorem dX9_copyFirstHand_45 : decode cX9_copyFirstHand 45 = .ok (.aload_n 0, 1) := by decide +kernel
theorem dX9_copyFirstHand_46 : decode cX9_copyFirstHand 46 = .ok (.getfield 45, 3) := by decide +kernel
theorem dX9_copyFirstHand_49 : decode cX9_copyFirstHand 49 = .ok (.iload_n 1, 1) := by decide +kernel
theorem dX9_copyFirstHand_50 : decode cX9_copyFirstHand 50 = .ok (.iload_n 2, 1) := by decide +kernel
theorem dX9_copyFirstHand_51 : decode cX9_copyFirstHand 51 = .ok (.imul, 1) := by decide +kernel
theorem dX9_copyFirstHand_52 : decode cX9_copyFirstHand 52 = .ok (.aload_n 0, 1) := by decide +kernel
theorem dX9_copyFirstHand_53 : decode cX9_copyFirstHand 53 = .ok (.getfield 35, 3) := by decide +kernel
theorem dX9_copyFirstHand_56 : decode cX9_copyFirstHand 56 = .ok (.imul, 1) := by decide +kernel
theorem dX9_copyFirstHand_57 : decode cX9_copyFirstHand 57 = .ok (.iload_n 2, 1) := by decide +kernel
theorem dX9_copyFirstHand_58 : decode cX9_copyFirstHand 58 = .ok (.aload_n 0, 1) := by decide +kernel
theorem dX9_copyFirstHand_59 : decode cX9_copyFirstHand 59 = .ok (.getfield 35, 3) := by decide +kernel
theorem dX9_copyFirstHand_62 : decode cX9_copyFirstHand 62 = .ok (.imul, 1) := by decide +kernel
theorem dX9_copyFirstHand_63 : decode cX9_copyFirstHand 63 = .ok (.invokestatic 61, 3) := by decide +kernel
theorem dX9_copyFirstHand_66 : decode cX9_copyFirstHand 66 = .ok (.return_, 1) := by decide +kernel
theorem dX9_prepareHand_0 : decode cX9_prepareHand 0 = .ok (.aload_n 0, 1) := by decide +kernel
theorem dX9_prepareHand_1 : decode cX9_prepareHand 1 = .ok (.getfield 12, 3) := by decide +kernel
theorem dX9_prepareHand_4 : decode cX9_prepareHand 4 = .ok (.getfield 67, 3) := by decide +kernel
theorem dX9_prepareHand_7 : decode cX9_prepareHand 7 = .ok (.iconst 3, 1) := by decide +kernel
theorem dX9_prepareHand_8 : decode cX9_prepareHand 8 = .ok (.iload_n 1, 1) := by decide +kernel
theorem dX9_prepareHand_9 : decode cX9_prepareHand 9 = .ok (.iastore, 1) := by decide +kernel
theorem dX9_prepareHand_10 : decode cX9_prepareHand 10 = .ok (.iconst 0, 1) := by decide +kernel
theorem dX9_prepareHand_11 : decode cX9_prepareHand 11 = .ok (.istore_n 2, 1) := by decide +kernel
theorem dX9_prepareHand_12 : decode cX9_prepareHand 12 = .ok (.iload_n 2, 1) := by decide +kernel
theorem dX9_prepareHand_13 : decode cX9_prepareHand 13 = .ok (.aload_n 0, 1) := by decide +kernel
theorem dX9_prepareHand_14 : decode cX9_prepareHand 14 = .ok (.getfield 26, 3) := by decide +kernel
theorem dX9_prepareHand_17 : decode cX9_prepareHand 17 = .ok (.getfield 30, 3) := by decide +kernel
theorem dX9_prepareHand_20 : decode cX9_prepareHand 20 = .ok (.if_icmp .ge 101, 3) := by decide +kernel
theorem dX9_prepareHand_23 : decode cX9_prepareHand 23 = .ok (.aload_n 0, 1) := by decide +kernel
theorem dX9_prepareHand_24 : decode cX9_prepareHand 24 = .ok (.getfield 12, 3) := by decide +kernel
theorem dX9_prepareHand_27 : decode cX9_prepareHand 27 = .ok (.getfield 67, 3) := by decide +kernel
theorem dX9_prepareHand_30 : decode cX9_prepareHand 30 = .ok (.iconst 0, 1) := by decide +kernel
theorem dX9_prepareHand_31 : decode cX9_prepareHand 31 = .ok (.iload_n 2, 1) := by decide +kernel
theorem dX9_prepareHand_32 : decode cX9_prepareHand 32 = .ok (.iastore, 1) := by decide +kernel
theorem dX9_prepareHand_33 : decode cX9_prepareHand 33 = .ok (.iconst 0, 1) := by decide +kernel
theorem dX9_prepareHand_34 : decode cX9_prepareHand 34 = .ok (.istore_n 3, 1) := by decide +kernel
theorem dX9_prepareHand_35 : decode cX9_prepareHand 35 = .ok (.iload_n 3, 1) := by decide +kernel
theorem dX9_prepareHand_36 : decode cX9_prepareHand 36 = .ok (.aload_n 0, 1) := by decide +kernel
theorem dX9_prepareHand_37 : decode cX9_prepareHand 37 = .ok (.getfield 26, 3) := by decide +kernel
theorem dX9_prepareHand_40 : decode cX9_prepareHand 40 = .ok (.getfield 38, 3) := by decide +kernel
theorem dX9_prepareHand_43 : decode cX9_prepareHand 43 = .ok (.if_icmp .ge 72, 3) := by decide +kernel
theorem dX9_prepareHand_46 : decode cX9_prepareHand 46 = .ok (.aload_n 0, 1) := by decide +kernel
theorem dX9_prepareHand_47 : decode cX9_prepareHand 47 = .ok (.getfield 12, 3) := by decide +kernel
theorem dX9_prepareHand_50 : decode cX9_prepareHand 50 = .ok (.getfield 67, 3) := by decide +kernel
theorem dX9_prepareHand_53 : decode cX9_prepareHand 53 = .ok (.iconst 1, 1) := by decide +kernel
theorem dX9_prepareHand_54 : decode cX9_prepareHand 54 = .ok (.iload_n 3, 1) := by decide +kernel
theorem dX9_prepareHand_55 : decode cX9_prepareHand 55 = .ok (.iastore, 1) := by decide +kernel
theorem dX9_prepareHand_56 : decode cX9_prepareHand 56 = .ok (.iconst 0, 1) := by decide +kernel
theorem dX9_prepareHand_57 : decode cX9_prepareHand 57 = .ok (.istore 4, 2) := by decide +kernel
theorem dX9_prepareHand_59 : decode cX9_prepareHand 59 = .ok (.iload 4, 2) := by decide +kernel
theorem dX9_prepareHand_61 : decode cX9_prepareHand 61 = .ok (.aload_n 0, 1) := by decide +kernel
theorem dX9_prepareHand_62 : decode cX9_prepareHand 62 = .ok (.getfield 26, 3) := by decide +kernel
theorem dX9_prepareHand_65 : decode cX9_prepareHand 65 = .ok (.getfield 38, 3) := by decide +kernel
theorem dX9_prepareHand_68 : decode cX9_prepareHand 68 = .ok (.if_icmp .ge 41, 3) := by decide +kernel
theorem dX9_prepareHand_71 : decode cX9_prepareHand 71 = .ok (.iload 4, 2) := by decide +kernel
theorem dX9_prepareHand_73 : decode cX9_prepareHand 73 = .ok (.iload_n 3, 1) := by decide +kernel
theorem dX9_prepareHand_74 : decode cX9_prepareHand 74 = .ok (.if_icmp .eq 29, 3) := by decide +kernel
theorem dX9_prepareHand_77 : decode cX9_prepareHand 77 = .ok (.aload_n 0, 1) := by decide +kernel
theorem dX9_prepareHand_78 : decode cX9_prepareHand 78 = .ok (.getfield 12, 3) := by decide +kernel
theorem dX9_prepareHand_81 : decode cX9_prepareHand 81 = .ok (.getfield 67, 3) := by decide +kernel
theorem dX9_prepareHand_84 : decode cX9_prepareHand 84 = .ok (.iconst 2, 1) := by decide +kernel
theorem dX9_prepareHand_85 : decode cX9_prepareHand 85 = .ok (.iload 4, 2) := by decide +kernel
theorem dX9_prepareHand_87 : decode cX9_prepareHand 87 = .ok (.iastore, 1) := by decide +kernel
theorem dX9_prepareHand_88 : decode cX9_prepareHand 88 = .ok (.aload_n 0, 1) := by decide +kernel
theorem dX9_prepareHand_89 : decode cX9_prepareHand 89 = .ok (.aload_n 0, 1) := by decide +kernel
theorem dX9_prepareHand_90 : decode cX9_prepareHand 90 = .ok (.iload_n 1, 1) := by decide +kernel
theorem dX9_prepareHand_91 : decode cX9_prepareHand 91 = .ok (.iload_n 2, 1) := by decide +kernel
theorem dX9_prepareHand_92 : decode cX9_prepareHand 92 = .ok (.iload_n 3, 1) := by decide +kernel
theorem dX9_prepareHand_93 : decode cX9_prepareHand 93 = .ok (.invokevirtual 70, 3) := by decide +kernel
theorem dX9_prepareHand_96 : decode cX9_prepareHand 96 = .ok (.iload 4, 2) := by decide +kernel
theorem dX9_prepareHand_98 : decode cX9_prepareHand 98 = .ok (.iadd, 1) := by decide +kernel
theorem dX9_prepareHand_99 : decode cX9_prepareHand 99 = .ok (.iload_n 2, 1) := by decide +kernel
theorem dX9_prepareHand_100 : decode cX9_prepareHand 100 = .ok (.invokevirtual 74, 3) := by decide +kernel
theorem dX9_prepareHand_103 : decode cX9_prepareHand 103 = .ok (.iinc 4 1, 3) := by decide +kernel
theorem dX9_prepareHand_106 : decode cX9_prepareHand 106 = .ok (.goto (-47), 3) := by decide +kernel
theorem dX9_prepareHand_109 : decode cX9_prepareHand 109 = .ok (.iinc 3 1, 3) := by decide +kernel
theorem dX9_prepareHand_112 : decode cX9_prepareHand 112 = .ok (.goto (-77), 3) := by decide +kernel
theorem dX9_prepareHand_115 : decode cX9_prepareHand 115 = .ok (.iinc 2 1, 3) := by decide +kernel
theorem dX9_prepareHand_118 : decode cX9_prepareHand 118 = .ok (.goto (-106), 3) := by decide +kernel
theorem dX9_prepareHand_121 : decode cX9_prepareHand 121 = .ok (.return_, 1) := by decide +kernel
theorem dX9_workOut_0 : decode cX9_workOut 0 = .ok (.aload_n 0, 1) := by decide +kernel
theorem dX9_workOut_1 : decode cX9_workOut 1 = .ok (.getfield 22, 3) := by decide +kernel
theorem dX9_workOut_4 : decode cX9_workOut 4 = .ok (.ifnull 13, 3) := by decide +kernel
theorem dX9_workOut_7 : decode cX9_workOut 7 = .ok (.aload_n 0, 1) := by decide +kernel
theorem dX9_workOut_8 : decode cX9_workOut 8 = .ok (.getfield 22, 3) := by decide +kernel
theorem dX9_workOut_11 : decode cX9_workOut 11 = .ok (.getfield 78, 3) := by decide +kernel
theorem dX9_workOut_14 : decode cX9_workOut 14 = .ok (.ifCond .ne 7, 3) := by decide +kernel
theorem dX9_workOut_17 : decode cX9_workOut 17 = .ok (.iconst 1, 1) := by decide +kernel
theorem dX9_workOut_18 : decode cX9_workOut 18 = .ok (.goto 4, 3) := by decide +kernel
theorem dX9_workOut_21 : decode cX9_workOut 21 = .ok (.iconst 0, 1) := by decide +kernel
theorem dX9_workOut_22 : decode cX9_workOut 22 = .ok (.istore_n 3, 1) := by decide +kernel
theorem dX9_workOut_23 : decode cX9_workOut 23 = .ok (.aload_n 0, 1) := by decide +kernel
theorem dX9_workOut_24 : decode cX9_workOut 24 = .ok (.getfield 22, 3) := by decide +kernel
theorem dX9_workOut_27 : decode cX9_workOut 27 = .ok (.ifnull 13, 3) := by decide +kernel
theorem dX9_workOut_30 : decode cX9_workOut 30 = .ok (.aload_n 0, 1) := by decide +kernel
theorem dX9_workOut_31 : decode cX9_workOut 31 = .ok (.getfield 22, 3) := by decide +kernel
theorem dX9_workOut_34 : decode cX9_workOut 34 = .ok (.getfield 81, 3) := by decide +kernel
theorem dX9_workOut_37 : decode cX9_workOut 37 = .ok (.ifCond .ne 7, 3) := by decide +kernel
theorem dX9_workOut_40 : decode cX9_workOut 40 = .ok (.iconst 1, 1) := by decide +kernel
theorem dX9_workOut_41 : decode cX9_workOut 41 = .ok (.goto 4, 3) := by decide +kernel
theorem dX9_workOut_44 : decode cX9_workOut 44 = .ok (.iconst 0, 1) := by decide +kernel
theorem dX9_workOut_45 : decode cX9_workOut 45 = .ok (.istore 4, 2) := by decide +kernel
theorem dX9_workOut_47 : decode cX9_workOut 47 = .ok (.aload_n 0, 1) := by decide +kernel
theorem dX9_workOut_48 : decode cX9_workOut 48 = .ok (.getfield 41, 3) := by decide +kernel
theorem dX9_workOut_51 : decode cX9_workOut 51 = .ok (.iload_n 1, 1) := by decide +kernel
theorem dX9_workOut_52 : decode cX9_workOut 52 = .ok (.iconst 0, 1) := by decide +kernel
theorem dX9_workOut_53 : decode cX9_workOut 53 = .ok (.iastore, 1) := by decide +kernel
theorem dX9_workOut_54 : decode cX9_workOut 54 = .ok (.iconst 0, 1) := by decide +kernel
theorem dX9_workOut_55 : decode cX9_workOut 55 = .ok (.istore 5, 2) := by decide +kernel
theorem dX9_workOut_57 : decode cX9_workOut 57 = .ok (.iload 5, 2) := by decide +kernel
theorem dX9_workOut_59 : decode cX9_workOut 59 = .ok (.aload_n 0, 1) := by decide +kernel
theorem dX9_workOut_60 : decode cX9_workOut 60 = .ok (.getfield 35, 3) := by decide +kernel
theorem dX9_workOut_63 : decode cX9_workOut 63 = .ok (.if_icmp .ge 168, 3) := by decide +kernel
theorem dX9_workOut_66 : decode cX9_workOut 66 = .ok (.aload_n 0, 1) := by decide +kernel
theorem dX9_workOut_67 : decode cX9_workOut 67 = .ok (.getfield 12, 3) := by decide +kernel
theorem dX9_workOut_70 : decode cX9_workOut 70 = .ok (.getfield 67, 3) := by decide +kernel
theorem dX9_workOut_73 : decode cX9_workOut 73 = .ok (.iconst 4, 1) := by decide +kernel
theorem dX9_workOut_74 : decode cX9_workOut 74 = .ok (.iload 5, 2) := by decide +kernel
theorem dX9_workOut_76 : decode cX9_workOut 76 = .ok (.iconst 1, 1) := by decide +kernel
theorem dX9_workOut_77 : decode cX9_workOut 77 = .ok (.isub, 1) := by decide +kernel
theorem dX9_workOut_78 : decode cX9_workOut 78 = .ok (.iastore, 1) := by decide +kernel
theorem dX9_workOut_79 : decode cX9_workOut 79 = .ok (.aload_n 0, 1) := by decide +kernel
theorem dX9_workOut_80 : decode cX9_workOut 80 = .ok (.getfield 12, 3) := by decide +kernel
theorem dX9_workOut_83 : decode cX9_workOut 83 = .ok (.getfield 67, 3) := by decide +kernel
theorem dX9_workOut_86 : decode cX9_workOut 86 = .ok (.iconst 5, 1) := by decide +kernel
theorem dX9_workOut_87 : decode cX9_workOut 87 = .ok (.iload 5, 2) := by decide +kernel
theorem dX9_workOut_89 : decode cX9_workOut 89 = .ok (.ifCond .ne 7, 3) := by decide +kernel
theorem dX9_workOut_92 : decode cX9_workOut 92 = .ok (.iconst 0, 1) := by decide +kernel
theorem dX9_workOut_93 : decode cX9_workOut 93 = .ok (.goto 12, 3) := by decide +kernel
theorem dX9_workOut_96 : decode cX9_workOut 96 = .ok (.iload_n 2, 1) := by decide +kernel
theorem dX9_workOut_97 : decode cX9_workOut 97 = .ok (.iload 5, 2) := by decide +kernel
theorem dX9_workOut_99 : decode cX9_workOut 99 = .ok (.iconst 1, 1) := by decide +kernel
theorem dX9_workOut_100 : decode cX9_workOut 100 = .ok (.isub, 1) := by decide +kernel
theorem dX9_workOut_101 : decode cX9_workOut 101 = .ok (.isub, 1) := by decide +kernel
theorem dX9_workOut_102 : decode cX9_workOut 102 = .ok (.invokestatic 84, 3) := by decide +kernel
theorem dX9_workOut_105 : decode cX9_workOut 105 = .ok (.iastore, 1) := by decide +kernel
theorem dX9_workOut_106 : decode cX9_workOut 106 = .ok (.iconst 0, 1) := by decide +kernel
theorem dX9_workOut_107 : decode cX9_workOut 107 = .ok (.istore 6, 2) := by decide +kernel
theorem dX9_workOut_109 : decode cX9_workOut 109 = .ok (.iload_n 3, 1) := by decide +kernel
theorem dX9_workOut_110 : decode cX9_workOut 110 = .ok (.ifCond .ne 34, 3) := by decide +kernel
theorem dX9_workOut_113 : decode cX9_workOut 113 = .ok (.aload_n 0, 1) := by decide +kernel
theorem dX9_workOut_114 : decode cX9_workOut 114 = .ok (.getfield 12, 3) := by decide +kernel
theorem dX9_workOut_117 : decode cX9_workOut 117 = .ok (.aload_n 0, 1) := by decide +kernel
theorem dX9_workOut_118 : decode cX9_workOut 118 = .ok (.getfield 22, 3) := by decide +kernel
theorem dX9_workOut_121 : decode cX9_workOut 121 = .ok (.getfield 90, 3) := by decide +kernel
theorem dX9_workOut_124 : decode cX9_workOut 124 = .ok (.aload_n 0, 1) := by decide +kernel
theorem dX9_workOut_125 : decode cX9_workOut 125 = .ok (.getfield 22, 3) := by decide +kernel
theorem dX9_workOut_128 : decode cX9_workOut 128 = .ok (.getfield 93, 3) := by decide +kernel
theorem dX9_workOut_131 : decode cX9_workOut 131 = .ok (.aload_n 0, 1) := by decide +kernel
theorem dX9_workOut_132 : decode cX9_workOut 132 = .ok (.getfield 22, 3) := by decide +kernel
theorem dX9_workOut_135 : decode cX9_workOut 135 = .ok (.getfield 96, 3) := by decide +kernel
theorem dX9_workOut_138 : decode cX9_workOut 138 = .ok (.invokevirtual 99, 3) := by decide +kernel
theorem dX9_workOut_141 : decode cX9_workOut 141 = .ok (.ifCond .eq 68, 3) := by decide +kernel
theorem dX9_workOut_144 : decode cX9_workOut 144 = .ok (.aload_n 0, 1) := by decide +kernel
theorem dX9_workOut_145 : decode cX9_workOut 145 = .ok (.getfield 41, 3) := by decide +kernel
theorem dX9_workOut_148 : decode cX9_workOut 148 = .ok (.iload_n 1, 1) := by decide +kernel
theorem dX9_workOut_149 : decode cX9_workOut 149 = .ok (.dup2, 1) := by decide +kernel
theorem dX9_workOut_150 : decode cX9_workOut 150 = .ok (.iaload, 1) := by decide +kernel
theorem dX9_workOut_151 : decode cX9_workOut 151 = .ok (.iconst 1, 1) := by decide +kernel
theorem dX9_workOut_152 : decode cX9_workOut 152 = .ok (.iload 5, 2) := by decide +kernel
theorem dX9_workOut_154 : decode cX9_workOut 154 = .ok (.ishl, 1) := by decide +kernel
theorem dX9_workOut_155 : decode cX9_workOut 155 = .ok (.ior, 1) := by decide +kernel
theorem dX9_workOut_156 : decode cX9_workOut 156 = .ok (.iastore, 1) := by decide +kernel
theorem dX9_workOut_157 : decode cX9_workOut 157 = .ok (.iload 4, 2) := by decide +kernel
theorem dX9_workOut_159 : decode cX9_workOut 159 = .ok (.ifCond .eq 7, 3) := by decide +kernel
theorem dX9_workOut_162 : decode cX9_workOut 162 = .ok (.iconst 1, 1) := by decide +kernel
theorem dX9_workOut_163 : decode cX9_workOut 163 = .ok (.goto 31, 3) := by decide +kernel
theorem dX9_workOut_166 : decode cX9_workOut 166 = .ok (.aload_n 0, 1) := by decide +kernel
theorem dX9_workOut_167 : decode cX9_workOut 167 = .ok (.getfield 12, 3) := by decide +kernel
theorem dX9_workOut_170 : decode cX9_workOut 170 = .ok (.aload_n 0, 1) := by decide +kernel
theorem dX9_workOut_171 : decode cX9_workOut 171 = .ok (.getfield 22, 3) := by decide +kernel
theorem dX9_workOut_174 : decode cX9_workOut 174 = .ok (.getfield 90, 3) := by decide +kernel
theorem dX9_workOut_177 : decode cX9_workOut 177 = .ok (.aload_n 0, 1) := by decide +kernel
theorem dX9_workOut_178 : decode cX9_workOut 178 = .ok (.getfield 22, 3) := by decide +kernel
theorem dX9_workOut_181 : decode cX9_workOut 181 = .ok (.getfield 103, 3) := by decide +kernel
theorem dX9_workOut_184 : decode cX9_workOut 184 = .ok (.aload_n 0, 1) := by decide +kernel
theorem dX9_workOut_185 : decode cX9_workOut 185 = .ok (.getfield 22, 3) := by decide +kernel
theorem dX9_workOut_188 : decode cX9_workOut 188 = .ok (.getfield 106, 3) := by decide +kernel
theorem dX9_workOut_191 : decode cX9_workOut 191 = .ok (.invokevirtual 99, 3) := by decide +kernel
theorem dX9_workOut_194 : decode cX9_workOut 194 = .ok (.istore 7, 2) := by decide +kernel
theorem dX9_workOut_196 : decode cX9_workOut 196 = .ok (.iconst 1, 1) := by decide +kernel
theorem dX9_workOut_197 : decode cX9_workOut 197 = .ok (.bipush 9, 2) := by decide +kernel
theorem dX9_workOut_199 : decode cX9_workOut 199 = .ok (.iload 7, 2) := by decide +kernel
theorem dX9_workOut_201 : decode cX9_workOut 201 = .ok (.invokestatic 109, 3) := by decide +kernel
theorem dX9_workOut_204 : decode cX9_workOut 204 = .ok (.invokestatic 113, 3) := by decide +kernel
theorem dX9_workOut_207 : decode cX9_workOut 207 = .ok (.istore 6, 2) := by decide +kernel
theorem dX9_workOut_209 : decode cX9_workOut 209 = .ok (.aload_n 0, 1) := by decide +kernel
theorem dX9_workOut_210 : decode cX9_workOut 210 = .ok (.getfield 45, 3) := by decide +kernel
theorem dX9_workOut_213 : decode cX9_workOut 213 = .ok (.iload_n 1, 1) := by decide +kernel
theorem dX9_workOut_214 : decode cX9_workOut 214 = .ok (.aload_n 0, 1) := by decide +kernel
theorem dX9_workOut_215 : decode cX9_workOut 215 = .ok (.getfield 35, 3) := by decide +kernel
theorem dX9_workOut_218 : decode cX9_workOut 218 = .ok (.imul, 1) := by decide +kernel
theorem dX9_workOut_219 : decode cX9_workOut 219 = .ok (.iload 5, 2) := by decide +kernel
theorem dX9_workOut_221 : decode cX9_workOut 221 = .ok (.iadd, 1) := by decide +kernel
theorem dX9_workOut_222 : decode cX9_workOut 222 = .ok (.iload 6, 2) := by decide +kernel
theorem dX9_workOut_224 : decode cX9_workOut 224 = .ok (.iastore, 1) := by decide +kernel
theorem dX9_workOut_225 : decode cX9_workOut 225 = .ok (.iinc 5 1, 3) := by decide +kernel
theorem dX9_workOut_228 : decode cX9_workOut 228 = .ok (.goto (-171), 3) := by decide +kernel
theorem dX9_workOut_231 : decode cX9_workOut 231 = .ok (.return_, 1) := by decide +kernel
theorem dX9_changesOf_0 : decode cX9_changesOf 0 = .ok (.iload_n 1, 1) := by decide +kernel
theorem dX9_changesOf_1 : decode cX9_changesOf 1 = .ok (.aload_n 0, 1) := by decide +kernel
theorem dX9_changesOf_2 : decode cX9_changesOf 2 = .ok (.getfield 26, 3) := by decide +kernel
theorem dX9_changesOf_5 : decode cX9_changesOf 5 = .ok (.getfield 30, 3) := by decide +kernel
theorem dX9_changesOf_8 : decode cX9_changesOf 8 = .ok (.imul, 1) := by decide +kernel
theorem dX9_changesOf_9 : decode cX9_changesOf 9 = .ok (.iload_n 2, 1) := by decide +kernel
theorem dX9_changesOf_10 : decode cX9_changesOf 10 = .ok (.iadd, 1) := by decide +kernel
theorem dX9_changesOf_11 : decode cX9_changesOf 11 = .ok (.aload_n 0, 1) := by decide +kernel
theorem dX9_changesOf_12 : decode cX9_changesOf 12 = .ok (.getfield 26, 3) := by decide +kernel
theorem dX9_changesOf_15 : decode cX9_changesOf 15 = .ok (.getfield 38, 3) := by decide +kernel
theorem dX9_changesOf_18 : decode cX9_changesOf 18 = .ok (.imul, 1) := by decide +kernel
theorem dX9_changesOf_19 : decode cX9_changesOf 19 = .ok (.iload_n 3, 1) := by decide +kernel
theorem dX9_changesOf_20 : decode cX9_changesOf 20 = .ok (.iadd, 1) := by decide +kernel
theorem dX9_changesOf_21 : decode cX9_changesOf 21 = .ok (.aload_n 0, 1) := by decide +kernel
theorem dX9_changesOf_22 : decode cX9_changesOf 22 = .ok (.getfield 26, 3) := by decide +kernel
theorem dX9_changesOf_25 : decode cX9_changesOf 25 = .ok (.getfield 38, 3) := by decide +kernel
theorem dX9_changesOf_28 : decode cX9_changesOf 28 = .ok (.imul, 1) := by decide +kernel
theorem dX9_changesOf_29 : decode cX9_changesOf 29 = .ok (.ireturn, 1) := by decide +kernel
theorem dX9_carry_0 : decode cX9_carry 0 = .ok (.iload_n 1, 1) := by decide +kernel
theorem dX9_carry_1 : decode cX9_carry 1 = .ok (.bipush 19, 2) := by decide +kernel
theorem dX9_carry_3 : decode cX9_carry 3 = .ok (.imul, 1) := by decide +kernel
theorem dX9_carry_4 : decode cX9_carry 4 = .ok (.iconst 1, 1) := by decide +kernel
theorem dX9_carry_5 : decode cX9_carry 5 = .ok (.iadd, 1) := by decide +kernel
theorem dX9_carry_6 : decode cX9_carry 6 = .ok (.istore 4, 2) := by decide +kernel
theorem dX9_carry_8 : decode cX9_carry 8 = .ok (.iload_n 2, 1) := by decide +kernel
theorem dX9_carry_9 : decode cX9_carry 9 = .ok (.istore 5, 2) := by decide +kernel
theorem dX9_carry_11 : decode cX9_carry 11 = .ok (.iconst 0, 1) := by decide +kernel
theorem dX9_carry_12 : decode cX9_carry 12 = .ok (.istore 6, 2) := by decide +kernel
theorem dX9_carry_14 : decode cX9_carry 14 = .ok (.iconst 0, 1) := by decide +kernel
theorem dX9_carry_15 : decode cX9_carry 15 = .ok (.istore 7, 2) := by decide +kernel
theorem dX9_carry_17 : decode cX9_carry 17 = .ok (.iload 7, 2) := by decide +kernel
theorem dX9_carry_19 : decode cX9_carry 19 = .ok (.iload_n 3, 1) := by decide +kernel
theorem dX9_carry_20 : decode cX9_carry 20 = .ok (.if_icmp .ge 92, 3) := by decide +kernel
theorem dX9_carry_23 : decode cX9_carry 23 = .ok (.aload_n 0, 1) := by decide +kernel
theorem dX9_carry_24 : decode cX9_carry 24 = .ok (.iload 7, 2) := by decide +kernel
theorem dX9_carry_26 : decode cX9_carry 26 = .ok (.iload 5, 2) := by decide +kernel
theorem dX9_carry_28 : decode cX9_carry 28 = .ok (.iload 6, 2) := by decide +kernel
theorem dX9_carry_30 : decode cX9_carry 30 = .ok (.iconst (-1), 1) := by decide +kernel
theorem dX9_carry_31 : decode cX9_carry 31 = .ok (.invokevirtual 116, 3) := by decide +kernel
theorem dX9_carry_34 : decode cX9_carry 34 = .ok (.istore 8, 2) := by decide +kernel
theorem dX9_carry_36 : decode cX9_carry 36 = .ok (.iload 8, 2) := by decide +kernel
theorem dX9_carry_38 : decode cX9_carry 38 = .ok (.ifCond .gt 6, 3) := by decide +kernel
theorem dX9_carry_41 : decode cX9_carry 41 = .ok (.iload 5, 2) := by decide +kernel
theorem dX9_carry_43 : decode cX9_carry 43 = .ok (.ireturn, 1) := by decide +kernel
theorem dX9_carry_44 : decode cX9_carry 44 = .ok (.aload_n 0, 1) := by decide +kernel
theorem dX9_carry_45 : decode cX9_carry 45 = .ok (.iload 7, 2) := by decide +kernel
theorem dX9_carry_47 : decode cX9_carry 47 = .ok (.iload 5, 2) := by decide +kernel
theorem dX9_carry_49 : decode cX9_carry 49 = .ok (.iload 6, 2) := by decide +kernel
theorem dX9_carry_51 : decode cX9_carry 51 = .ok (.iload 4, 2) := by decide +kernel
theorem dX9_carry_53 : decode cX9_carry 53 = .ok (.iload 8, 2) := by decide +kernel
theorem dX9_carry_55 : decode cX9_carry 55 = .ok (.irem, 1) := by decide +kernel
theorem dX9_carry_56 : decode cX9_carry 56 = .ok (.invokevirtual 116, 3) := by decide +kernel
theorem dX9_carry_59 : decode cX9_carry 59 = .ok (.istore 9, 2) := by decide +kernel
theorem dX9_carry_61 : decode cX9_carry 61 = .ok (.iload 4, 2) := by decide +kernel
theorem dX9_carry_63 : decode cX9_carry 63 = .ok (.sipush 211, 3) := by decide +kernel
theorem dX9_carry_66 : decode cX9_carry 66 = .ok (.imul, 1) := by decide +kernel
theorem dX9_carry_67 : decode cX9_carry 67 = .ok (.bipush 53, 2) := by decide +kernel
theorem dX9_carry_69 : decode cX9_carry 69 = .ok (.iadd, 1) := by decide +kernel
theorem dX9_carry_70 : decode cX9_carry 70 = .ok (.sipush 30119, 3) := by decide +kernel
theorem dX9_carry_73 : decode cX9_carry 73 = .ok (.irem, 1) := by decide +kernel
theorem dX9_carry_74 : decode cX9_carry 74 = .ok (.istore 4, 2) := by decide +kernel
theorem dX9_carry_76 : decode cX9_carry 76 = .ok (.aload_n 0, 1) := by decide +kernel
theorem dX9_carry_77 : decode cX9_carry 77 = .ok (.getfield 26, 3) := by decide +kernel
theorem dX9_carry_80 : decode cX9_carry 80 = .ok (.iload 5, 2) := by decide +kernel
theorem dX9_carry_82 : decode cX9_carry 82 = .ok (.iload 9, 2) := by decide +kernel
theorem dX9_carry_84 : decode cX9_carry 84 = .ok (.bipush 10, 2) := by decide +kernel
theorem dX9_carry_86 : decode cX9_carry 86 = .ok (.idiv, 1) := by decide +kernel
theorem dX9_carry_87 : decode cX9_carry 87 = .ok (.iload 9, 2) := by decide +kernel
theorem dX9_carry_89 : decode cX9_carry 89 = .ok (.bipush 10, 2) := by decide +kernel
theorem dX9_carry_91 : decode cX9_carry 91 = .ok (.irem, 1) := by decide +kernel
theorem dX9_carry_92 : decode cX9_carry 92 = .ok (.invokevirtual 120, 3) := by decide +kernel
theorem dX9_carry_95 : decode cX9_carry 95 = .ok (.istore 5, 2) := by decide +kernel
theorem dX9_carry_97 : decode cX9_carry 97 = .ok (.iload 9, 2) := by decide +kernel
theorem dX9_carry_99 : decode cX9_carry 99 = .ok (.bipush 10, 2) := by decide +kernel
theorem dX9_carry_101 : decode cX9_carry 101 = .ok (.idiv, 1) := by decide +kernel
theorem dX9_carry_102 : decode cX9_carry 102 = .ok (.iconst 1, 1) := by decide +kernel
theorem dX9_carry_103 : decode cX9_carry 103 = .ok (.iadd, 1) := by decide +kernel
theorem dX9_carry_104 : decode cX9_carry 104 = .ok (.istore 6, 2) := by decide +kernel
theorem dX9_carry_106 : decode cX9_carry 106 = .ok (.iinc 7 1, 3) := by decide +kernel
theorem dX9_carry_109 : decode cX9_carry 109 = .ok (.goto (-92), 3) := by decide +kernel
theorem dX9_carry_112 : decode cX9_carry 112 = .ok (.iload 5, 2) := by decide +kernel
theorem dX9_carry_114 : decode cX9_carry 114 = .ok (.ireturn, 1) := by decide +kernel
theorem dX9_choice_0 : decode cX9_choice 0 = .ok (.iconst 0, 1) := by decide +kernel
theorem dX9_choice_1 : decode cX9_choice 1 = .ok (.istore 5, 2) := by decide +kernel
theorem dX9_choice_3 : decode cX9_choice 3 = .ok (.iconst 0, 1) := by decide +kernel
theorem dX9_choice_4 : decode cX9_choice 4 = .ok (.istore 6, 2) := by decide +kernel
theorem dX9_choice_6 : decode cX9_choice 6 = .ok (.iload 6, 2) := by decide +kernel
theorem dX9_choice_8 : decode cX9_choice 8 = .ok (.aload_n 0, 1) := by decide +kernel
theorem dX9_choice_9 : decode cX9_choice 9 = .ok (.getfield 26, 3) := by decide +kernel
theorem dX9_choice_12 : decode cX9_choice 12 = .ok (.getfield 30, 3) := by decide +kernel
theorem dX9_choice_15 : decode cX9_choice 15 = .ok (.if_icmp .ge 96, 3) := by decide +kernel
theorem dX9_choice_18 : decode cX9_choice 18 = .ok (.aload_n 0, 1) := by decide +kernel
theorem dX9_choice_19 : decode cX9_choice 19 = .ok (.getfield 26, 3) := by decide +kernel
theorem dX9_choice_22 : decode cX9_choice 22 = .ok (.iload_n 2, 1) := by decide +kernel
theorem dX9_choice_23 : decode cX9_choice 23 = .ok (.iload 6, 2) := by decide +kernel
theorem dX9_choice_25 : decode cX9_choice 25 = .ok (.invokevirtual 123, 3) := by decide +kernel
theorem dX9_choice_28 : decode cX9_choice 28 = .ok (.istore 7, 2) := by decide +kernel
theorem dX9_choice_30 : decode cX9_choice 30 = .ok (.aload_n 0, 1) := by decide +kernel
theorem dX9_choice_31 : decode cX9_choice 31 = .ok (.iload_n 1, 1) := by decide +kernel
theorem dX9_choice_32 : decode cX9_choice 32 = .ok (.iload 6, 2) := by decide +kernel
theorem dX9_choice_34 : decode cX9_choice 34 = .ok (.iload 7, 2) := by decide +kernel
theorem dX9_choice_36 : decode cX9_choice 36 = .ok (.invokevirtual 70, 3) := by decide +kernel
theorem dX9_choice_39 : decode cX9_choice 39 = .ok (.istore 8, 2) := by decide +kernel
theorem dX9_choice_41 : decode cX9_choice 41 = .ok (.iconst 0, 1) := by decide +kernel
theorem dX9_choice_42 : decode cX9_choice 42 = .ok (.istore 9, 2) := by decide +kernel
theorem dX9_choice_44 : decode cX9_choice 44 = .ok (.iload 9, 2) := by decide +kernel
theorem dX9_choice_46 : decode cX9_choice 46 = .ok (.aload_n 0, 1) := by decide +kernel
theorem dX9_choice_47 : decode cX9_choice 47 = .ok (.getfield 26, 3) := by decide +kernel
theorem dX9_choice_50 : decode cX9_choice 50 = .ok (.getfield 38, 3) := by decide +kernel
theorem dX9_choice_53 : decode cX9_choice 53 = .ok (.if_icmp .ge 52, 3) := by decide +kernel
theorem dX9_choice_56 : decode cX9_choice 56 = .ok (.iload 9, 2) := by decide +kernel
theorem dX9_choice_58 : decode cX9_choice 58 = .ok (.iload 7, 2) := by decide +kernel
theorem dX9_choice_60 : decode cX9_choice 60 = .ok (.if_icmp .eq 39, 3) := by decide +kernel
theorem dX9_choice_63 : decode cX9_choice 63 = .ok (.aload_n 0, 1) := by decide +kernel
theorem dX9_choice_64 : decode cX9_choice 64 = .ok (.getfield 41, 3) := by decide +kernel
theorem dX9_choice_67 : decode cX9_choice 67 = .ok (.iload 8, 2) := by decide +kernel
theorem dX9_choice_69 : decode cX9_choice 69 = .ok (.iload 9, 2) := by decide +kernel
theorem dX9_choice_71 : decode cX9_choice 71 = .ok (.iadd, 1) := by decide +kernel
theorem dX9_choice_72 : decode cX9_choice 72 = .ok (.iaload, 1) := by decide +kernel
theorem dX9_choice_73 : decode cX9_choice 73 = .ok (.iload_n 3, 1) := by decide +kernel
theorem dX9_choice_74 : decode cX9_choice 74 = .ok (.ishr, 1) := by decide +kernel
theorem dX9_choice_75 : decode cX9_choice 75 = .ok (.iconst 1, 1) := by decide +kernel
theorem dX9_choice_76 : decode cX9_choice 76 = .ok (.iand, 1) := by decide +kernel
theorem dX9_choice_77 : decode cX9_choice 77 = .ok (.ifCond .eq 22, 3) := by decide +kernel
theorem dX9_choice_80 : decode cX9_choice 80 = .ok (.iload 5, 2) := by decide +kernel
theorem dX9_choice_82 : decode cX9_choice 82 = .ok (.iload 4, 2) := by decide +kernel
theorem dX9_choice_84 : decode cX9_choice 84 = .ok (.if_icmp .ne 12, 3) := by decide +kernel
theorem dX9_choice_87 : decode cX9_choice 87 = .ok (.bipush 10, 2) := by decide +kernel
theorem dX9_choice_89 : decode cX9_choice 89 = .ok (.iload 6, 2) := by decide +kernel
theorem dX9_choice_91 : decode cX9_choice 91 = .ok (.imul, 1) := by decide +kernel
theorem dX9_choice_92 : decode cX9_choice 92 = .ok (.iload 9, 2) := by decide +kernel
theorem dX9_choice_94 : decode cX9_choice 94 = .ok (.iadd, 1) := by decide +kernel
theorem dX9_choice_95 : decode cX9_choice 95 = .ok (.ireturn, 1) := by decide +kernel
theorem dX9_choice_96 : decode cX9_choice 96 = .ok (.iinc 5 1, 3) := by decide +kernel
theorem dX9_choice_99 : decode cX9_choice 99 = .ok (.iinc 9 1, 3) := by decide +kernel
theorem dX9_choice_102 : decode cX9_choice 102 = .ok (.goto (-58), 3) := by decide +kernel
theorem dX9_choice_105 : decode cX9_choice 105 = .ok (.iinc 6 1, 3) := by decide +kernel
theorem dX9_choice_108 : decode cX9_choice 108 = .ok (.goto (-102), 3) := by decide +kernel
theorem dX9_choice_111 : decode cX9_choice 111 = .ok (.iload 4, 2) := by decide +kernel
theorem dX9_choice_113 : decode cX9_choice 113 = .ok (.iconst (-1), 1) := by decide +kernel
theorem dX9_choice_114 : decode cX9_choice 114 = .ok (.if_icmp .ne 8, 3) := by decide +kernel
theorem dX9_choice_117 : decode cX9_choice 117 = .ok (.iload 5, 2) := by decide +kernel
theorem dX9_choice_119 : decode cX9_choice 119 = .ok (.goto 4, 3) := by decide +kernel
theorem dX9_choice_122 : decode cX9_choice 122 = .ok (.iconst 0, 1) := by decide +kernel
theorem dX9_choice_123 : decode cX9_choice 123 = .ok (.ireturn, 1) := by decide +kernel

theorem dX8_init_0 : decode cX8_init 0 = .ok (.aload_n 0, 1) := by decide +kernel
theorem dX8_init_1 : decode cX8_init 1 = .ok (.invokespecial 1, 3) := by decide +kernel
theorem dX8_init_4 : decode cX8_init 4 = .ok (.aload_n 0, 1) := by decide +kernel
theorem dX8_init_5 : decode cX8_init 5 = .ok (.sipush 1285, 3) := by decide +kernel
theorem dX8_init_8 : decode cX8_init 8 = .ok (.newarray .int, 2) := by decide +kernel
theorem dX8_init_10 : decode cX8_init 10 = .ok (.putfield 7, 3) := by decide +kernel
theorem dX8_init_13 : decode cX8_init 13 = .ok (.aload_n 0, 1) := by decide +kernel
theorem dX8_init_14 : decode cX8_init 14 = .ok (.sipush 1296, 3) := by decide +kernel
theorem dX8_init_17 : decode cX8_init 17 = .ok (.newarray .int, 2) := by decide +kernel
theorem dX8_init_19 : decode cX8_init 19 = .ok (.putfield 13, 3) := by decide +kernel
theorem dX8_init_22 : decode cX8_init 22 = .ok (.aload_n 0, 1) := by decide +kernel
theorem dX8_init_23 : decode cX8_init 23 = .ok (.sipush 1296, 3) := by decide +kernel
theorem dX8_init_26 : decode cX8_init 26 = .ok (.newarray .int, 2) := by decide +kernel
theorem dX8_init_28 : decode cX8_init 28 = .ok (.putfield 16, 3) := by decide +kernel
theorem dX8_init_31 : decode cX8_init 31 = .ok (.aload_n 0, 1) := by decide +kernel
theorem dX8_init_32 : decode cX8_init 32 = .ok (.bipush 36, 2) := by decide +kernel
theorem dX8_init_34 : decode cX8_init 34 = .ok (.newarray .long, 2) := by decide +kernel
theorem dX8_init_36 : decode cX8_init 36 = .ok (.putfield 19, 3) := by decide +kernel
theorem dX8_init_39 : decode cX8_init 39 = .ok (.aload_n 0, 1) := by decide +kernel
theorem dX8_init_40 : decode cX8_init 40 = .ok (.bipush 98, 2) := by decide +kernel
theorem dX8_init_42 : decode cX8_init 42 = .ok (.newarray .int, 2) := by decide +kernel
theorem dX8_init_44 : decode cX8_init 44 = .ok (.putfield 23, 3) := by decide +kernel
theorem dX8_init_47 : decode cX8_init 47 = .ok (.aload_n 0, 1) := by decide +kernel
theorem dX8_init_48 : decode cX8_init 48 = .ok (.bipush 70, 2) := by decide +kernel
theorem dX8_init_50 : decode cX8_init 50 = .ok (.newarray .int, 2) := by decide +kernel
theorem dX8_init_52 : decode cX8_init 52 = .ok (.putfield 26, 3) := by decide +kernel
theorem dX8_init_55 : decode cX8_init 55 = .ok (.aload_n 0, 1) := by decide +kernel
theorem dX8_init_56 : decode cX8_init 56 = .ok (.bipush 14, 2) := by decide +kernel
theorem dX8_init_58 : decode cX8_init 58 = .ok (.newarray .int, 2) := by decide +kernel
theorem dX8_init_60 : decode cX8_init 60 = .ok (.putfield 29, 3) := by decide +kernel
theorem dX8_init_63 : decode cX8_init 63 = .ok (.aload_n 0, 1) := by decide +kernel
theorem dX8_init_64 : decode cX8_init 64 = .ok (.bipush 14, 2) := by decide +kernel
theorem dX8_init_66 : decode cX8_init 66 = .ok (.newarray .int, 2) := by decide +kernel
theorem dX8_init_68 : decode cX8_init 68 = .ok (.putfield 32, 3) := by decide +kernel
theorem dX8_init_71 : decode cX8_init 71 = .ok (.aload_n 0, 1) := by decide +kernel
theorem dX8_init_72 : decode cX8_init 72 = .ok (.bipush 80, 2) := by decide +kernel
theorem dX8_init_74 : decode cX8_init 74 = .ok (.newarray .int, 2) := by decide +kernel
theorem dX8_init_76 : decode cX8_init 76 = .ok (.putfield 35, 3) := by decide +kernel
theorem dX8_init_79 : decode cX8_init 79 = .ok (.aload_n 0, 1) := by decide +kernel
theorem dX8_init_80 : decode cX8_init 80 = .ok (.bipush 42, 2) := by decide +kernel
theorem dX8_init_82 : decode cX8_init 82 = .ok (.newarray .int, 2) := by decide +kernel
theorem dX8_init_84 : decode cX8_init 84 = .ok (.putfield 38, 3) := by decide +kernel
theorem dX8_init_87 : decode cX8_init 87 = .ok (.aload_n 0, 1) := by decide +kernel
theorem dX8_init_88 : decode cX8_init 88 = .ok (.getfield 7, 3) := by decide +kernel
theorem dX8_init_91 : decode cX8_init 91 = .ok (.bipush 74, 2) := by decide +kernel
theorem dX8_init_93 : decode cX8_init 93 = .ok (.iconst 1, 1) := by decide +kernel
theorem dX8_init_94 : decode cX8_init 94 = .ok (.iastore, 1) := by decide +kernel
theorem dX8_init_95 : decode cX8_init 95 = .ok (.aload_n 0, 1) := by decide +kernel
theorem dX8_init_96 : decode cX8_init 96 = .ok (.getfield 7, 3) := by decide +kernel
theorem dX8_init_99 : decode cX8_init 99 = .ok (.bipush 75, 2) := by decide +kernel
theorem dX8_init_101 : decode cX8_init 101 = .ok (.iconst 1, 1) := by decide +kernel
theorem dX8_init_102 : decode cX8_init 102 = .ok (.iastore, 1) := by decide +kernel
theorem dX8_init_103 : decode cX8_init 103 = .ok (.aload_n 0, 1) := by decide +kernel
theorem dX8_init_104 : decode cX8_init 104 = .ok (.getfield 7, 3) := by decide +kernel
theorem dX8_init_107 : decode cX8_init 107 = .ok (.bipush 76, 2) := by decide +kernel
theorem dX8_init_109 : decode cX8_init 109 = .ok (.iconst 1, 1) := by decide +kernel
theorem dX8_init_110 : decode cX8_init 110 = .ok (.iastore, 1) := by decide +kernel
theorem dX8_init_111 : decode cX8_init 111 = .ok (.aload_n 0, 1) := by decide +kernel
theorem dX8_init_112 : decode cX8_init 112 = .ok (.getfield 7, 3) := by decide +kernel
theorem dX8_init_115 : decode cX8_init 115 = .ok (.bipush 77, 2) := by decide +kernel
theorem dX8_init_117 : decode cX8_init 117 = .ok (.iconst 1, 1) := by decide +kernel
theorem dX8_init_118 : decode cX8_init 118 = .ok (.iastore, 1) := by decide +kernel
theorem dX8_init_119 : decode cX8_init 119 = .ok (.aload_n 0, 1) := by decide +kernel
theorem dX8_init_120 : decode cX8_init 120 = .ok (.getfield 7, 3) := by decide +kernel
theorem dX8_init_123 : decode cX8_init 123 = .ok (.bipush 79, 2) := by decide +kernel
theorem dX8_init_125 : decode cX8_init 125 = .ok (.iconst 1, 1) := by decide +kernel
theorem dX8_init_126 : decode cX8_init 126 = .ok (.iastore, 1) := by decide +kernel
theorem dX8_init_127 : decode cX8_init 127 = .ok (.aload_n 0, 1) := by decide +kernel
theorem dX8_init_128 : decode cX8_init 128 = .ok (.getfield 7, 3) := by decide +kernel
theorem dX8_init_131 : decode cX8_init 131 = .ok (.bipush 80, 2) := by decide +kernel
theorem dX8_init_133 : decode cX8_init 133 = .ok (.iconst 1, 1) := by decide +kernel
theorem dX8_init_134 : decode cX8_init 134 = .ok (.iastore, 1) := by decide +kernel
theorem dX8_init_135 : decode cX8_init 135 = .ok (.aload_n 0, 1) := by decide +kernel
theorem dX8_init_136 : decode cX8_init 136 = .ok (.getfield 7, 3) := by decide +kernel
theorem dX8_init_139 : decode cX8_init 139 = .ok (.bipush 81, 2) := by decide +kernel
theorem dX8_init_141 : decode cX8_init 141 = .ok (.bipush 9, 2) := by decide +kernel
theorem dX8_init_143 : decode cX8_init 143 = .ok (.iastore, 1) := by decide +kernel
theorem dX8_init_144 : decode cX8_init 144 = .ok (.return_, 1) := by decide +kernel
theorem dX8_in_0 : decode cX8_in 0 = .ok (.iload_n 0, 1) := by decide +kernel
theorem dX8_in_1 : decode cX8_in 1 = .ok (.iload_n 1, 1) := by decide +kernel
theorem dX8_in_2 : decode cX8_in 2 = .ok (.if_icmp .lt 12, 3) := by decide +kernel
theorem dX8_in_5 : decode cX8_in 5 = .ok (.iload_n 0, 1) := by decide +kernel
theorem dX8_in_6 : decode cX8_in 6 = .ok (.iload_n 2, 1) := by decide +kernel
theorem dX8_in_7 : decode cX8_in 7 = .ok (.if_icmp .gt 7, 3) := by decide +kernel
theorem dX8_in_10 : decode cX8_in 10 = .ok (.iconst 1, 1) := by decide +kernel
theorem dX8_in_11 : decode cX8_in 11 = .ok (.goto 4, 3) := by decide +kernel
theorem dX8_in_14 : decode cX8_in 14 = .ok (.iconst 0, 1) := by decide +kernel
theorem dX8_in_15 : decode cX8_in 15 = .ok (.ireturn, 1) := by decide +kernel
theorem dX8_copies_0 : decode cX8_copies 0 = .ok (.iconst 0, 1) := by decide +kernel
theorem dX8_copies_1 : decode cX8_copies 1 = .ok (.istore_n 3, 1) := by decide +kernel
theorem dX8_copies_2 : decode cX8_copies 2 = .ok (.iload_n 3, 1) := by decide +kernel
theorem dX8_copies_3 : decode cX8_copies 3 = .ok (.sipush 257, 3) := by decide +kernel
theorem dX8_copies_6 : decode cX8_copies 6 = .ok (.if_icmp .ge 25, 3) := by decide +kernel
theorem dX8_copies_9 : decode cX8_copies 9 = .ok (.aload_n 0, 1) := by decide +kernel
theorem dX8_copies_10 : decode cX8_copies 10 = .ok (.getfield 7, 3) := by decide +kernel
theorem dX8_copies_13 : decode cX8_copies 13 = .ok (.iload_n 2, 1) := by decide +kernel
theorem dX8_copies_14 : decode cX8_copies 14 = .ok (.iload_n 3, 1) := by decide +kernel
theorem dX8_copies_15 : decode cX8_copies 15 = .ok (.iadd, 1) := by decide +kernel
theorem dX8_copies_16 : decode cX8_copies 16 = .ok (.aload_n 0, 1) := by decide +kernel
theorem dX8_copies_17 : decode cX8_copies 17 = .ok (.getfield 7, 3) := by decide +kernel
theorem dX8_copies_20 : decode cX8_copies 20 = .ok (.iload_n 1, 1) := by decide +kernel
theorem dX8_copies_21 : decode cX8_copies 21 = .ok (.iload_n 3, 1) := by decide +kernel
theorem dX8_copies_22 : decode cX8_copies 22 = .ok (.iadd, 1) := by decide +kernel
theorem dX8_copies_23 : decode cX8_copies 23 = .ok (.iaload, 1) := by decide +kernel
theorem dX8_copies_24 : decode cX8_copies 24 = .ok (.iastore, 1) := by decide +kernel
theorem dX8_copies_25 : decode cX8_copies 25 = .ok (.iinc 3 1, 3) := by decide +kernel
theorem dX8_copies_28 : decode cX8_copies 28 = .ok (.goto (-26), 3) := by decide +kernel
theorem dX8_copies_31 : decode cX8_copies 31 = .ok (.return_, 1) := by decide +kernel
theorem dX8_records_0 : decode cX8_records 0 = .ok (.iconst 1, 1) := by decide +kernel
theorem dX8_records_1 : decode cX8_records 1 = .ok (.istore_n 1, 1) := by decide +kernel
theorem dX8_records_2 : decode cX8_records 2 = .ok (.iload_n 1, 1) := by decide +kernel
theorem dX8_records_3 : decode cX8_records 3 = .ok (.iconst 4, 1) := by decide +kernel
theorem dX8_records_4 : decode cX8_records 4 = .ok (.if_icmp .ge 33, 3) := by decide +kernel
theorem dX8_records_7 : decode cX8_records 7 = .ok (.aload_n 0, 1) := by decide +kernel
theorem dX8_records_8 : decode cX8_records 8 = .ok (.getfield 41, 3) := by decide +kernel
theorem dX8_records_11 : decode cX8_records 11 = .ok (.iconst 4, 1) := by decide +kernel
theorem dX8_records_12 : decode cX8_records 12 = .ok (.if_icmp .ne 25, 3) := by decide +kernel
theorem dX8_records_15 : decode cX8_records 15 = .ok (.aload_n 0, 1) := by decide +kernel
theorem dX8_records_16 : decode cX8_records 16 = .ok (.sipush 257, 3) := by decide +kernel
theorem dX8_records_19 : decode cX8_records 19 = .ok (.iload_n 1, 1) := by decide +kernel
theorem dX8_records_20 : decode cX8_records 20 = .ok (.iconst 1, 1) := by decide +kernel
theorem dX8_records_21 : decode cX8_records 21 = .ok (.iadd, 1) := by decide +kernel
theorem dX8_records_22 : decode cX8_records 22 = .ok (.imul, 1) := by decide +kernel
theorem dX8_records_23 : decode cX8_records 23 = .ok (.sipush 257, 3) := by decide +kernel
theorem dX8_records_26 : decode cX8_records 26 = .ok (.iload_n 1, 1) := by decide +kernel
theorem dX8_records_27 : decode cX8_records 27 = .ok (.imul, 1) := by decide +kernel
theorem dX8_records_28 : decode cX8_records 28 = .ok (.invokevirtual 45, 3) := by decide +kernel
theorem dX8_records_31 : decode cX8_records 31 = .ok (.iinc 1 1, 3) := by decide +kernel
theorem dX8_records_34 : decode cX8_records 34 = .ok (.goto (-32), 3) := by decide +kernel
theorem dX8_records_37 : decode cX8_records 37 = .ok (.aload_n 0, 1) := by decide +kernel
theorem dX8_records_38 : decode cX8_records 38 = .ok (.dup, 1) := by decide +kernel
theorem dX8_records_39 : decode cX8_records 39 = .ok (.getfield 41, 3) := by decide +kernel
theorem dX8_records_42 : decode cX8_records 42 = .ok (.aload_n 0, 1) := by decide +kernel
theorem dX8_records_43 : decode cX8_records 43 = .ok (.getfield 41, 3) := by decide +kernel
theorem dX8_records_46 : decode cX8_records 46 = .ok (.iconst 4, 1) := by decide +kernel
theorem dX8_records_47 : decode cX8_records 47 = .ok (.if_icmp .ne 7, 3) := by decide +kernel
theorem dX8_records_50 : decode cX8_records 50 = .ok (.iconst 1, 1) := by decide +kernel
theorem dX8_records_51 : decode cX8_records 51 = .ok (.goto 4, 3) := by decide +kernel
theorem dX8_records_54 : decode cX8_records 54 = .ok (.iconst 0, 1) := by decide +kernel
theorem dX8_records_55 : decode cX8_records 55 = .ok (.isub, 1) := by decide +kernel
theorem dX8_records_56 : decode cX8_records 56 = .ok (.putfield 41, 3) := by decide +kernel
theorem dX8_records_59 : decode cX8_records 59 = .ok (.aload_n 0, 1) := by decide +kernel
theorem dX8_records_60 : decode cX8_records 60 = .ok (.dup, 1) := by decide +kernel
theorem dX8_records_61 : decode cX8_records 61 = .ok (.getfield 41, 3) := by decide +kernel
theorem dX8_records_64 : decode cX8_records 64 = .ok (.iconst 1, 1) := by decide +kernel
theorem dX8_records_65 : decode cX8_records 65 = .ok (.iadd, 1) := by decide +kernel
theorem dX8_records_66 : decode cX8_records 66 = .ok (.putfield 41, 3) := by decide +kernel
theorem dX8_records_69 : decode cX8_records 69 = .ok (.aload_n 0, 1) := by decide +kernel
theorem dX8_records_70 : decode cX8_records 70 = .ok (.iconst 0, 1) := by decide +kernel
theorem dX8_records_71 : decode cX8_records 71 = .ok (.sipush 257, 3) := by decide +kernel
theorem dX8_records_74 : decode cX8_records 74 = .ok (.aload_n 0, 1) := by decide +kernel
theorem dX8_records_75 : decode cX8_records 75 = .ok (.getfield 41, 3) := by decide +kernel
theorem dX8_records_78 : decode cX8_records 78 = .ok (.imul, 1) := by decide +kernel
theorem dX8_records_79 : decode cX8_records 79 = .ok (.invokevirtual 45, 3) := by decide +kernel
theorem dX8_records_82 : decode cX8_records 82 = .ok (.return_, 1) := by decide +kernel
theorem dX8_shapeOf_0 : decode cX8_shapeOf 0 = .ok (.aload_n 0, 1) := by decide +kernel
theorem dX8_shapeOf_1 : decode cX8_shapeOf 1 = .ok (.getfield 7, 3) := by decide +kernel
theorem dX8_shapeOf_4 : decode cX8_shapeOf 4 = .ok (.iconst 1, 1) := by decide +kernel
theorem dX8_shapeOf_5 : decode cX8_shapeOf 5 = .ok (.iconst 5, 1) := by decide +kernel
theorem dX8_shapeOf_6 : decode cX8_shapeOf 6 = .ok (.iload_n 1, 1) := by decide +kernel
theorem dX8_shapeOf_7 : decode cX8_shapeOf 7 = .ok (.imul, 1) := by decide +kernel
theorem dX8_shapeOf_8 : decode cX8_shapeOf 8 = .ok (.iadd, 1) := by decide +kernel
theorem dX8_shapeOf_9 : decode cX8_shapeOf 9 = .ok (.iload_n 2, 1) := by decide +kernel
theorem dX8_shapeOf_10 : decode cX8_shapeOf 10 = .ok (.iadd, 1) := by decide +kernel
theorem dX8_shapeOf_11 : decode cX8_shapeOf 11 = .ok (.iaload, 1) := by decide +kernel
theorem dX8_shapeOf_12 : decode cX8_shapeOf 12 = .ok (.ireturn, 1) := by decide +kernel
theorem dX8_size_0 : decode cX8_size 0 = .ok (.iload_n 0, 1) := by decide +kernel
theorem dX8_size_1 : decode cX8_size 1 = .ok (.ifCond .ge 8, 3) := by decide +kernel
theorem dX8_size_4 : decode cX8_size 4 = .ok (.iload_n 0, 1) := by decide +kernel
theorem dX8_size_5 : decode cX8_size 5 = .ok (.ineg, 1) := by decide +kernel
theorem dX8_size_6 : decode cX8_size 6 = .ok (.goto 4, 3) := by decide +kernel
theorem dX8_size_9 : decode cX8_size 9 = .ok (.iload_n 0, 1) := by decide +kernel
theorem dX8_size_10 : decode cX8_size 10 = .ok (.ireturn, 1) := by decide +kernel
theorem dX8_belongs_0 : decode cX8_belongs 0 = .ok (.aload_n 0, 1) := by decide +kernel
theorem dX8_belongs_1 : decode cX8_belongs 1 = .ok (.iload_n 1, 1) := by decide +kernel
theorem dX8_belongs_2 : decode cX8_belongs 2 = .ok (.iconst 1, 1) := by decide +kernel
theorem dX8_belongs_3 : decode cX8_belongs 3 = .ok (.invokevirtual 49, 3) := by decide +kernel
theorem dX8_belongs_6 : decode cX8_belongs 6 = .ok (.istore 4, 2) := by decide +kernel
theorem dX8_belongs_8 : decode cX8_belongs 8 = .ok (.aload_n 0, 1) := by decide +kernel
theorem dX8_belongs_9 : decode cX8_belongs 9 = .ok (.iload_n 1, 1) := by decide +kernel
theorem dX8_belongs_10 : decode cX8_belongs 10 = .ok (.iconst 2, 1) := by decide +kernel
theorem dX8_belongs_11 : decode cX8_belongs 11 = .ok (.invokevirtual 49, 3) := by decide +kernel
theorem dX8_belongs_14 : decode cX8_belongs 14 = .ok (.istore 5, 2) := by decide +kernel
theorem dX8_belongs_16 : decode cX8_belongs 16 = .ok (.aload_n 0, 1) := by decide +kernel
theorem dX8_belongs_17 : decode cX8_belongs 17 = .ok (.iload_n 1, 1) := by decide +kernel
theorem dX8_belongs_18 : decode cX8_belongs 18 = .ok (.iconst 3, 1) := by decide +kernel
theorem dX8_belongs_19 : decode cX8_belongs 19 = .ok (.invokevirtual 49, 3) := by decide +kernel
theorem dX8_belongs_22 : decode cX8_belongs 22 = .ok (.istore 6, 2) := by decide +kernel
theorem dX8_belongs_24 : decode cX8_belongs 24 = .ok (.aload_n 0, 1) := by decide +kernel
theorem dX8_belongs_25 : decode cX8_belongs 25 = .ok (.iload_n 1, 1) := by decide +kernel
theorem dX8_belongs_26 : decode cX8_belongs 26 = .ok (.iconst 4, 1) := by decide +kernel
theorem dX8_belongs_27 : decode cX8_belongs 27 = .ok (.invokevirtual 49, 3) := by decide +kernel
theorem dX8_belongs_30 : decode cX8_belongs 30 = .ok (.istore 7, 2) := by decide +kernel
theorem dX8_belongs_32 : decode cX8_belongs 32 = .ok (.iload_n 2, 1) := by decide +kernel
theorem dX8_belongs_33 : decode cX8_belongs 33 = .ok (.iload 4, 2) := by decide +kernel
theorem dX8_belongs_35 : decode cX8_belongs 35 = .ok (.iload 6, 2) := by decide +kernel
theorem dX8_belongs_37 : decode cX8_belongs 37 = .ok (.invokestatic 53, 3) := by decide +kernel
theorem dX8_belongs_40 : decode cX8_belongs 40 = .ok (.ifCond .eq 14, 3) := by decide +kernel
theorem dX8_belongs_43 : decode cX8_belongs 43 = .ok (.iload_n 3, 1) := by decide +kernel
theorem dX8_belongs_44 : decode cX8_belongs 44 = .ok (.iload 5, 2) := by decide +kernel
theorem dX8_belongs_46 : decode cX8_belongs 46 = .ok (.iload 7, 2) := by decide +kernel
theorem dX8_belongs_48 : decode cX8_belongs 48 = .ok (.invokestatic 53, 3) := by decide +kernel
theorem dX8_belongs_51 : decode cX8_belongs 51 = .ok (.ifCond .ne 5, 3) := by decide +kernel
theorem dX8_belongs_54 : decode cX8_belongs 54 = .ok (.iconst 0, 1) := by decide +kernel
theorem dX8_belongs_55 : decode cX8_belongs 55 = .ok (.ireturn, 1) := by decide +kernel
theorem dX8_belongs_56 : decode cX8_belongs 56 = .ok (.iconst 2, 1) := by decide +kernel
theorem dX8_belongs_57 : decode cX8_belongs 57 = .ok (.iload_n 2, 1) := by decide +kernel
theorem dX8_belongs_58 : decode cX8_belongs 58 = .ok (.imul, 1) := by decide +kernel
theorem dX8_belongs_59 : decode cX8_belongs 59 = .ok (.iload 4, 2) := by decide +kernel
theorem dX8_belongs_61 : decode cX8_belongs 61 = .ok (.isub, 1) := by decide +kernel
theorem dX8_belongs_62 : decode cX8_belongs 62 = .ok (.iload 6, 2) := by decide +kernel
theorem dX8_belongs_64 : decode cX8_belongs 64 = .ok (.isub, 1) := by decide +kernel
theorem dX8_belongs_65 : decode cX8_belongs 65 = .ok (.invokestatic 57, 3) := by decide +kernel
theorem dX8_belongs_68 : decode cX8_belongs 68 = .ok (.istore 8, 2) := by decide +kernel
theorem dX8_belongs_70 : decode cX8_belongs 70 = .ok (.iconst 2, 1) := by decide +kernel
theorem dX8_belongs_71 : decode cX8_belongs 71 = .ok (.iload_n 3, 1) := by decide +kernel
theorem dX8_belongs_72 : decode cX8_belongs 72 = .ok (.imul, 1) := by decide +kernel
theorem dX8_belongs_73 : decode cX8_belongs 73 = .ok (.iload 5, 2) := by decide +kernel
theorem dX8_belongs_75 : decode cX8_belongs 75 = .ok (.isub, 1) := by decide +kernel
theorem dX8_belongs_76 : decode cX8_belongs 76 = .ok (.iload 7, 2) := by decide +kernel
theorem dX8_belongs_78 : decode cX8_belongs 78 = .ok (.isub, 1) := by decide +kernel
theorem dX8_belongs_79 : decode cX8_belongs 79 = .ok (.invokestatic 57, 3) := by decide +kernel
theorem dX8_belongs_82 : decode cX8_belongs 82 = .ok (.istore 9, 2) := by decide +kernel
theorem dX8_belongs_84 : decode cX8_belongs 84 = .ok (.iload 6, 2) := by decide +kernel
theorem dX8_belongs_86 : decode cX8_belongs 86 = .ok (.iload 4, 2) := by decide +kernel
theorem dX8_belongs_88 : decode cX8_belongs 88 = .ok (.isub, 1) := by decide +kernel
theorem dX8_belongs_89 : decode cX8_belongs 89 = .ok (.iconst 1, 1) := by decide +kernel
theorem dX8_belongs_90 : decode cX8_belongs 90 = .ok (.iadd, 1) := by decide +kernel
theorem dX8_belongs_91 : decode cX8_belongs 91 = .ok (.istore 10, 2) := by decide +kernel
theorem dX8_belongs_93 : decode cX8_belongs 93 = .ok (.iload 7, 2) := by decide +kernel
theorem dX8_belongs_95 : decode cX8_belongs 95 = .ok (.iload 5, 2) := by decide +kernel
theorem dX8_belongs_97 : decode cX8_belongs 97 = .ok (.isub, 1) := by decide +kernel
theorem dX8_belongs_98 : decode cX8_belongs 98 = .ok (.iconst 1, 1) := by decide +kernel
theorem dX8_belongs_99 : decode cX8_belongs 99 = .ok (.iadd, 1) := by decide +kernel
theorem dX8_belongs_100 : decode cX8_belongs 100 = .ok (.istore 11, 2) := by decide +kernel
theorem dX8_belongs_102 : decode cX8_belongs 102 = .ok (.aload_n 0, 1) := by decide +kernel
theorem dX8_belongs_103 : decode cX8_belongs 103 = .ok (.iload_n 1, 1) := by decide +kernel
theorem dX8_belongs_104 : decode cX8_belongs 104 = .ok (.iconst 0, 1) := by decide +kernel
theorem dX8_belongs_105 : decode cX8_belongs 105 = .ok (.invokevirtual 49, 3) := by decide +kernel
theorem dX8_belongs_108 : decode cX8_belongs 108 = .ok (.istore 12, 2) := by decide +kernel
theorem dX8_belongs_110 : decode cX8_belongs 110 = .ok (.iload 12, 2) := by decide +kernel
theorem dX8_belongs_112 : decode cX8_belongs 112 = .ok (.ifCond .eq 94, 3) := by decide +kernel
theorem dX8_belongs_115 : decode cX8_belongs 115 = .ok (.iload 12, 2) := by decide +kernel
theorem dX8_belongs_117 : decode cX8_belongs 117 = .ok (.iconst 1, 1) := by decide +kernel
theorem dX8_belongs_118 : decode cX8_belongs 118 = .ok (.if_icmp .ne 22, 3) := by decide +kernel
theorem dX8_belongs_121 : decode cX8_belongs 121 = .ok (.iload 8, 2) := by decide +kernel
theorem dX8_belongs_123 : decode cX8_belongs 123 = .ok (.iload 11, 2) := by decide +kernel
theorem dX8_belongs_125 : decode cX8_belongs 125 = .ok (.imul, 1) := by decide +kernel
theorem dX8_belongs_126 : decode cX8_belongs 126 = .ok (.iload 9, 2) := by decide +kernel
theorem dX8_belongs_128 : decode cX8_belongs 128 = .ok (.iload 10, 2) := by decide +kernel
theorem dX8_belongs_130 : decode cX8_belongs 130 = .ok (.imul, 1) := by decide +kernel
theorem dX8_belongs_131 : decode cX8_belongs 131 = .ok (.iadd, 1) := by decide +kernel
theorem dX8_belongs_132 : decode cX8_belongs 132 = .ok (.iload 10, 2) := by decide +kernel
theorem dX8_belongs_134 : decode cX8_belongs 134 = .ok (.iload 11, 2) := by decide +kernel
theorem dX8_belongs_136 : decode cX8_belongs 136 = .ok (.imul, 1) := by decide +kernel
theorem dX8_belongs_137 : decode cX8_belongs 137 = .ok (.if_icmp .le 69, 3) := by decide +kernel
theorem dX8_belongs_140 : decode cX8_belongs 140 = .ok (.iload 12, 2) := by decide +kernel
theorem dX8_belongs_142 : decode cX8_belongs 142 = .ok (.iconst 2, 1) := by decide +kernel
theorem dX8_belongs_143 : decode cX8_belongs 143 = .ok (.if_icmp .ne 40, 3) := by decide +kernel
theorem dX8_belongs_146 : decode cX8_belongs 146 = .ok (.iload 8, 2) := by decide +kernel
theorem dX8_belongs_148 : decode cX8_belongs 148 = .ok (.iload 8, 2) := by decide +kernel
theorem dX8_belongs_150 : decode cX8_belongs 150 = .ok (.imul, 1) := by decide +kernel
theorem dX8_belongs_151 : decode cX8_belongs 151 = .ok (.iload 11, 2) := by decide +kernel
theorem dX8_belongs_153 : decode cX8_belongs 153 = .ok (.imul, 1) := by decide +kernel
theorem dX8_belongs_154 : decode cX8_belongs 154 = .ok (.iload 11, 2) := by decide +kernel
theorem dX8_belongs_156 : decode cX8_belongs 156 = .ok (.imul, 1) := by decide +kernel
theorem dX8_belongs_157 : decode cX8_belongs 157 = .ok (.iload 9, 2) := by decide +kernel
theorem dX8_belongs_159 : decode cX8_belongs 159 = .ok (.iload 9, 2) := by decide +kernel
theorem dX8_belongs_161 : decode cX8_belongs 161 = .ok (.imul, 1) := by decide +kernel
theorem dX8_belongs_162 : decode cX8_belongs 162 = .ok (.iload 10, 2) := by decide +kernel
theorem dX8_belongs_164 : decode cX8_belongs 164 = .ok (.imul, 1) := by decide +kernel
theorem dX8_belongs_165 : decode cX8_belongs 165 = .ok (.iload 10, 2) := by decide +kernel
theorem dX8_belongs_167 : decode cX8_belongs 167 = .ok (.imul, 1) := by decide +kernel
theorem dX8_belongs_168 : decode cX8_belongs 168 = .ok (.iadd, 1) := by decide +kernel
theorem dX8_belongs_169 : decode cX8_belongs 169 = .ok (.iload 10, 2) := by decide +kernel
theorem dX8_belongs_171 : decode cX8_belongs 171 = .ok (.iload 10, 2) := by decide +kernel
theorem dX8_belongs_173 : decode cX8_belongs 173 = .ok (.imul, 1) := by decide +kernel
theorem dX8_belongs_174 : decode cX8_belongs 174 = .ok (.iload 11, 2) := by decide +kernel
theorem dX8_belongs_176 : decode cX8_belongs 176 = .ok (.imul, 1) := by decide +kernel
theorem dX8_belongs_177 : decode cX8_belongs 177 = .ok (.iload 11, 2) := by decide +kernel
theorem dX8_belongs_179 : decode cX8_belongs 179 = .ok (.imul, 1) := by decide +kernel
theorem dX8_belongs_180 : decode cX8_belongs 180 = .ok (.if_icmp .le 26, 3) := by decide +kernel
theorem dX8_belongs_183 : decode cX8_belongs 183 = .ok (.iload 12, 2) := by decide +kernel
theorem dX8_belongs_185 : decode cX8_belongs 185 = .ok (.iconst 3, 1) := by decide +kernel
theorem dX8_belongs_186 : decode cX8_belongs 186 = .ok (.if_icmp .ne 24, 3) := by decide +kernel
theorem dX8_belongs_189 : decode cX8_belongs 189 = .ok (.iload 8, 2) := by decide +kernel
theorem dX8_belongs_191 : decode cX8_belongs 191 = .ok (.iload 11, 2) := by decide +kernel
theorem dX8_belongs_193 : decode cX8_belongs 193 = .ok (.imul, 1) := by decide +kernel
theorem dX8_belongs_194 : decode cX8_belongs 194 = .ok (.iload 10, 2) := by decide +kernel
theorem dX8_belongs_196 : decode cX8_belongs 196 = .ok (.iload_n 3, 1) := by decide +kernel
theorem dX8_belongs_197 : decode cX8_belongs 197 = .ok (.iload 5, 2) := by decide +kernel
theorem dX8_belongs_199 : decode cX8_belongs 199 = .ok (.isub, 1) := by decide +kernel
theorem dX8_belongs_200 : decode cX8_belongs 200 = .ok (.iconst 1, 1) := by decide +kernel
theorem dX8_belongs_201 : decode cX8_belongs 201 = .ok (.iadd, 1) := by decide +kernel
theorem dX8_belongs_202 : decode cX8_belongs 202 = .ok (.imul, 1) := by decide +kernel
theorem dX8_belongs_203 : decode cX8_belongs 203 = .ok (.if_icmp .gt 7, 3) := by decide +kernel
theorem dX8_belongs_206 : decode cX8_belongs 206 = .ok (.iconst 1, 1) := by decide +kernel
theorem dX8_belongs_207 : decode cX8_belongs 207 = .ok (.goto 4, 3) := by decide +kernel
theorem dX8_belongs_210 : decode cX8_belongs 210 = .ok (.iconst 0, 1) := by decide +kernel
theorem dX8_belongs_211 : decode cX8_belongs 211 = .ok (.ireturn, 1) := by decide +kernel
theorem dX8_free_0 : decode cX8_free 0 = .ok (.iconst 0, 1) := by decide +kernel
theorem dX8_free_1 : decode cX8_free 1 = .ok (.istore_n 3, 1) := by decide +kernel
theorem dX8_free_2 : decode cX8_free 2 = .ok (.iconst 0, 1) := by decide +kernel
theorem dX8_free_3 : decode cX8_free 3 = .ok (.istore 4, 2) := by decide +kernel
theorem dX8_free_5 : decode cX8_free 5 = .ok (.iload 4, 2) := by decide +kernel
theorem dX8_free_7 : decode cX8_free 7 = .ok (.aload_n 0, 1) := by decide +kernel
theorem dX8_free_8 : decode cX8_free 8 = .ok (.getfield 7, 3) := by decide +kernel
theorem dX8_free_11 : decode cX8_free 11 = .ok (.iconst 0, 1) := by decide +kernel
theorem dX8_free_12 : decode cX8_free 12 = .ok (.iaload, 1) := by decide +kernel
theorem dX8_free_13 : decode cX8_free 13 = .ok (.if_icmp .ge 28, 3) := by decide +kernel
theorem dX8_free_16 : decode cX8_free 16 = .ok (.iload_n 3, 1) := by decide +kernel
theorem dX8_free_17 : decode cX8_free 17 = .ok (.aload_n 0, 1) := by decide +kernel
theorem dX8_free_18 : decode cX8_free 18 = .ok (.iload 4, 2) := by decide +kernel
theorem dX8_free_20 : decode cX8_free 20 = .ok (.iload_n 1, 1) := by decide +kernel
theorem dX8_free_21 : decode cX8_free 21 = .ok (.iload_n 2, 1) := by decide +kernel
theorem dX8_free_22 : decode cX8_free 22 = .ok (.invokevirtual 61, 3) := by decide +kernel
theorem dX8_free_25 : decode cX8_free 25 = .ok (.ifCond .eq 7, 3) := by decide +kernel
theorem dX8_free_28 : decode cX8_free 28 = .ok (.iconst 1, 1) := by decide +kernel
theorem dX8_free_29 : decode cX8_free 29 = .ok (.goto 4, 3) := by decide +kernel
theorem dX8_free_32 : decode cX8_free 32 = .ok (.iconst 0, 1) := by decide +kernel
theorem dX8_free_33 : decode cX8_free 33 = .ok (.iadd, 1) := by decide +kernel
theorem dX8_free_34 : decode cX8_free 34 = .ok (.istore_n 3, 1) := by decide +kernel
theorem dX8_free_35 : decode cX8_free 35 = .ok (.iinc 4 1, 3) := by decide +kernel
theorem dX8_free_38 : decode cX8_free 38 = .ok (.goto (-33), 3) := by decide +kernel
theorem dX8_free_41 : decode cX8_free 41 = .ok (.iload_n 3, 1) := by decide +kernel
theorem dX8_free_42 : decode cX8_free 42 = .ok (.iconst 2, 1) := by decide +kernel
theorem dX8_free_43 : decode cX8_free 43 = .ok (.irem, 1) := by decide +kernel
theorem dX8_free_44 : decode cX8_free 44 = .ok (.iconst 1, 1) := by decide +kernel
theorem dX8_free_45 : decode cX8_free 45 = .ok (.if_icmp .ne 7, 3) := by decide +kernel
theorem dX8_free_48 : decode cX8_free 48 = .ok (.iconst 1, 1) := by decide +kernel
theorem dX8_free_49 : decode cX8_free 49 = .ok (.goto 4, 3) := by decide +kernel
theorem dX8_free_52 : decode cX8_free 52 = .ok (.iconst 0, 1) := by decide +kernel
theorem dX8_free_53 : decode cX8_free 53 = .ok (.ireturn, 1) := by decide +kernel
theorem dX8_freeCells_0 : decode cX8_freeCells 0 = .ok (.iconst 0, 1) := by decide +kernel
theorem dX8_freeCells_1 : decode cX8_freeCells 1 = .ok (.istore_n 1, 1) := by decide +kernel
theorem dX8_freeCells_2 : decode cX8_freeCells 2 = .ok (.iconst 0, 1) := by decide +kernel
theorem dX8_freeCells_3 : decode cX8_freeCells 3 = .ok (.istore_n 2, 1) := by decide +kernel
theorem dX8_freeCells_4 : decode cX8_freeCells 4 = .ok (.iload_n 2, 1) := by decide +kernel
theorem dX8_freeCells_5 : decode cX8_freeCells 5 = .ok (.bipush 48, 2) := by decide +kernel
theorem dX8_freeCells_7 : decode cX8_freeCells 7 = .ok (.if_icmp .ge 40, 3) := by decide +kernel
theorem dX8_freeCells_10 : decode cX8_freeCells 10 = .ok (.iconst 0, 1) := by decide +kernel
theorem dX8_freeCells_11 : decode cX8_freeCells 11 = .ok (.istore_n 3, 1) := by decide +kernel
theorem dX8_freeCells_12 : decode cX8_freeCells 12 = .ok (.iload_n 3, 1) := by decide +kernel
theorem dX8_freeCells_13 : decode cX8_freeCells 13 = .ok (.bipush 36, 2) := by decide +kernel
theorem dX8_freeCells_15 : decode cX8_freeCells 15 = .ok (.if_icmp .ge 26, 3) := by decide +kernel
theorem dX8_freeCells_18 : decode cX8_freeCells 18 = .ok (.iload_n 1, 1) := by decide +kernel
theorem dX8_freeCells_19 : decode cX8_freeCells 19 = .ok (.aload_n 0, 1) := by decide +kernel
theorem dX8_freeCells_20 : decode cX8_freeCells 20 = .ok (.iload_n 2, 1) := by decide +kernel
theorem dX8_freeCells_21 : decode cX8_freeCells 21 = .ok (.iload_n 3, 1) := by decide +kernel
theorem dX8_freeCells_22 : decode cX8_freeCells 22 = .ok (.invokevirtual 64, 3) := by decide +kernel
theorem dX8_freeCells_25 : decode cX8_freeCells 25 = .ok (.ifCond .eq 7, 3) := by decide +kernel
theorem dX8_freeCells_28 : decode cX8_freeCells 28 = .ok (.iconst 1, 1) := by decide +kernel
theorem dX8_freeCells_29 : decode cX8_freeCells 29 = .ok (.goto 4, 3) := by decide +kernel
theorem dX8_freeCells_32 : decode cX8_freeCells 32 = .ok (.iconst 0, 1) := by decide +kernel
theorem dX8_freeCells_33 : decode cX8_freeCells 33 = .ok (.iadd, 1) := by decide +kernel
theorem dX8_freeCells_34 : decode cX8_freeCells 34 = .ok (.istore_n 1, 1) := by decide +kernel
theorem dX8_freeCells_35 : decode cX8_freeCells 35 = .ok (.iinc 3 1, 3) := by decide +kernel
theorem dX8_freeCells_38 : decode cX8_freeCells 38 = .ok (.goto (-26), 3) := by decide +kernel
theorem dX8_freeCells_41 : decode cX8_freeCells 41 = .ok (.iinc 2 1, 3) := by decide +kernel
theorem dX8_freeCells_44 : decode cX8_freeCells 44 = .ok (.goto (-40), 3) := by decide +kernel
theorem dX8_freeCells_47 : decode cX8_freeCells 47 = .ok (.iload_n 1, 1) := by decide +kernel
theorem dX8_freeCells_48 : decode cX8_freeCells 48 = .ok (.ireturn, 1) := by decide +kernel
theorem dX8_isShape_0 : decode cX8_isShape 0 = .ok (.iload_n 1, 1) := by decide +kernel
theorem dX8_isShape_1 : decode cX8_isShape 1 = .ok (.iconst 0, 1) := by decide +kernel
theorem dX8_isShape_2 : decode cX8_isShape 2 = .ok (.aload_n 0, 1) := by decide +kernel
theorem dX8_isShape_3 : decode cX8_isShape 3 = .ok (.getfield 7, 3) := by decide +kernel
theorem dX8_isShape_6 : decode cX8_isShape 6 = .ok (.iconst 0, 1) := by decide +kernel
theorem dX8_isShape_7 : decode cX8_isShape 7 = .ok (.iaload, 1) := by decide +kernel
theorem dX8_isShape_8 : decode cX8_isShape 8 = .ok (.iconst 1, 1) := by decide +kernel
theorem dX8_isShape_9 : decode cX8_isShape 9 = .ok (.isub, 1) := by decide +kernel
theorem dX8_isShape_10 : decode cX8_isShape 10 = .ok (.invokestatic 53, 3) := by decide +kernel
theorem dX8_isShape_13 : decode cX8_isShape 13 = .ok (.ireturn, 1) := by decide +kernel
theorem dX8_addShape_0 : decode cX8_addShape 0 = .ok (.iload_n 1, 1) := by decide +kernel
theorem dX8_addShape_1 : decode cX8_addShape 1 = .ok (.iconst 0, 1) := by decide +kernel
theorem dX8_addShape_2 : decode cX8_addShape 2 = .ok (.iconst 3, 1) := by decide +kernel
theorem dX8_addShape_3 : decode cX8_addShape 3 = .ok (.invokestatic 53, 3) := by decide +kernel
theorem dX8_addShape_6 : decode cX8_addShape 6 = .ok (.ifCond .eq 45, 3) := by decide +kernel
theorem dX8_addShape_9 : decode cX8_addShape 9 = .ok (.iload_n 2, 1) := by decide +kernel
theorem dX8_addShape_10 : decode cX8_addShape 10 = .ok (.iconst 0, 1) := by decide +kernel
theorem dX8_addShape_11 : decode cX8_addShape 11 = .ok (.bipush 47, 2) := by decide +kernel
theorem dX8_addShape_13 : decode cX8_addShape 13 = .ok (.invokestatic 53, 3) := by decide +kernel
theorem dX8_addShape_16 : decode cX8_addShape 16 = .ok (.ifCond .eq 35, 3) := by decide +kernel
theorem dX8_addShape_19 : decode cX8_addShape 19 = .ok (.iload_n 3, 1) := by decide +kernel
theorem dX8_addShape_20 : decode cX8_addShape 20 = .ok (.iconst 0, 1) := by decide +kernel
theorem dX8_addShape_21 : decode cX8_addShape 21 = .ok (.bipush 35, 2) := by decide +kernel
theorem dX8_addShape_23 : decode cX8_addShape 23 = .ok (.invokestatic 53, 3) := by decide +kernel
theorem dX8_addShape_26 : decode cX8_addShape 26 = .ok (.ifCond .eq 25, 3) := by decide +kernel
theorem dX8_addShape_29 : decode cX8_addShape 29 = .ok (.iload 4, 2) := by decide +kernel
theorem dX8_addShape_31 : decode cX8_addShape 31 = .ok (.iload_n 2, 1) := by decide +kernel
theorem dX8_addShape_32 : decode cX8_addShape 32 = .ok (.bipush 47, 2) := by decide +kernel
theorem dX8_addShape_34 : decode cX8_addShape 34 = .ok (.invokestatic 53, 3) := by decide +kernel
theorem dX8_addShape_37 : decode cX8_addShape 37 = .ok (.ifCond .eq 14, 3) := by decide +kernel
theorem dX8_addShape_40 : decode cX8_addShape 40 = .ok (.iload 5, 2) := by decide +kernel
theorem dX8_addShape_42 : decode cX8_addShape 42 = .ok (.iload_n 3, 1) := by decide +kernel
theorem dX8_addShape_43 : decode cX8_addShape 43 = .ok (.bipush 35, 2) := by decide +kernel
theorem dX8_addShape_45 : decode cX8_addShape 45 = .ok (.invokestatic 53, 3) := by decide +kernel
theorem dX8_addShape_48 : decode cX8_addShape 48 = .ok (.ifCond .ne 6, 3) := by decide +kernel
theorem dX8_addShape_51 : decode cX8_addShape 51 = .ok (.bipush (-3), 2) := by decide +kernel
theorem dX8_addShape_53 : decode cX8_addShape 53 = .ok (.ireturn, 1) := by decide +kernel
theorem dX8_addShape_54 : decode cX8_addShape 54 = .ok (.aload_n 0, 1) := by decide +kernel
theorem dX8_addShape_55 : decode cX8_addShape 55 = .ok (.getfield 7, 3) := by decide +kernel
theorem dX8_addShape_58 : decode cX8_addShape 58 = .ok (.iconst 0, 1) := by decide +kernel
theorem dX8_addShape_59 : decode cX8_addShape 59 = .ok (.iaload, 1) := by decide +kernel
theorem dX8_addShape_60 : decode cX8_addShape 60 = .ok (.bipush 6, 2) := by decide +kernel
theorem dX8_addShape_62 : decode cX8_addShape 62 = .ok (.if_icmp .ne 6, 3) := by decide +kernel
theorem dX8_addShape_65 : decode cX8_addShape 65 = .ok (.bipush (-5), 2) := by decide +kernel
theorem dX8_addShape_67 : decode cX8_addShape 67 = .ok (.ireturn, 1) := by decide +kernel
theorem dX8_addShape_68 : decode cX8_addShape 68 = .ok (.aload_n 0, 1) := by decide +kernel
theorem dX8_addShape_69 : decode cX8_addShape 69 = .ok (.invokevirtual 68, 3) := by decide +kernel
theorem dX8_addShape_72 : decode cX8_addShape 72 = .ok (.iconst 1, 1) := by decide +kernel
theorem dX8_addShape_73 : decode cX8_addShape 73 = .ok (.iconst 5, 1) := by decide +kernel
theorem dX8_addShape_74 : decode cX8_addShape 74 = .ok (.aload_n 0, 1) := by decide +kernel
theorem dX8_addShape_75 : decode cX8_addShape 75 = .ok (.getfield 7, 3) := by decide +kernel
theorem dX8_addShape_78 : decode cX8_addShape 78 = .ok (.iconst 0, 1) := by decide +kernel
theorem dX8_addShape_79 : decode cX8_addShape 79 = .ok (.iaload, 1) := by decide +kernel
theorem dX8_addShape_80 : decode cX8_addShape 80 = .ok (.imul, 1) := by decide +kernel
theorem dX8_addShape_81 : decode cX8_addShape 81 = .ok (.iadd, 1) := by decide +kernel
theorem dX8_addShape_82 : decode cX8_addShape 82 = .ok (.istore 6, 2) := by decide +kernel
theorem dX8_addShape_84 : decode cX8_addShape 84 = .ok (.aload_n 0, 1) := by decide +kernel
theorem dX8_addShape_85 : decode cX8_addShape 85 = .ok (.getfield 7, 3) := by decide +kernel
theorem dX8_addShape_88 : decode cX8_addShape 88 = .ok (.iload 6, 2) := by decide +kernel
theorem dX8_addShape_90 : decode cX8_addShape 90 = .ok (.iload_n 1, 1) := by decide +kernel
theorem dX8_addShape_91 : decode cX8_addShape 91 = .ok (.iastore, 1) := by decide +kernel
theorem dX8_addShape_92 : decode cX8_addShape 92 = .ok (.aload_n 0, 1) := by decide +kernel
theorem dX8_addShape_93 : decode cX8_addShape 93 = .ok (.getfield 7, 3) := by decide +kernel
theorem dX8_addShape_96 : decode cX8_addShape 96 = .ok (.iload 6, 2) := by decide +kernel
theorem dX8_addShape_98 : decode cX8_addShape 98 = .ok (.iconst 1, 1) := by decide +kernel
theorem dX8_addShape_99 : decode cX8_addShape 99 = .ok (.iadd, 1) := by decide +kernel
theorem dX8_addShape_100 : decode cX8_addShape 100 = .ok (.iload_n 2, 1) := by decide +kernel
theorem dX8_addShape_101 : decode cX8_addShape 101 = .ok (.iastore, 1) := by decide +kernel
theorem dX8_addShape_102 : decode cX8_addShape 102 = .ok (.aload_n 0, 1) := by decide +kernel
theorem dX8_addShape_103 : decode cX8_addShape 103 = .ok (.getfield 7, 3) := by decide +kernel
theorem dX8_addShape_106 : decode cX8_addShape 106 = .ok (.iload 6, 2) := by decide +kernel
theorem dX8_addShape_108 : decode cX8_addShape 108 = .ok (.iconst 2, 1) := by decide +kernel
theorem dX8_addShape_109 : decode cX8_addShape 109 = .ok (.iadd, 1) := by decide +kernel
theorem dX8_addShape_110 : decode cX8_addShape 110 = .ok (.iload_n 3, 1) := by decide +kernel
theorem dX8_addShape_111 : decode cX8_addShape 111 = .ok (.iastore, 1) := by decide +kernel
theorem dX8_addShape_112 : decode cX8_addShape 112 = .ok (.aload_n 0, 1) := by decide +kernel
theorem dX8_addShape_113 : decode cX8_addShape 113 = .ok (.getfield 7, 3) := by decide +kernel
theorem dX8_addShape_116 : decode cX8_addShape 116 = .ok (.iload 6, 2) := by decide +kernel
theorem dX8_addShape_118 : decode cX8_addShape 118 = .ok (.iconst 3, 1) := by decide +kernel
theorem dX8_addShape_119 : decode cX8_addShape 119 = .ok (.iadd, 1) := by decide +kernel
theorem dX8_addShape_120 : decode cX8_addShape 120 = .ok (.iload 4, 2) := by decide +kernel
theorem dX8_addShape_122 : decode cX8_addShape 122 = .ok (.iastore, 1) := by decide +kernel
theorem dX8_addShape_123 : decode cX8_addShape 123 = .ok (.aload_n 0, 1) := by decide +kernel
theorem dX8_addShape_124 : decode cX8_addShape 124 = .ok (.getfield 7, 3) := by decide +kernel
theorem dX8_addShape_127 : decode cX8_addShape 127 = .ok (.iload 6, 2) := by decide +kernel
theorem dX8_addShape_129 : decode cX8_addShape 129 = .ok (.iconst 4, 1) := by decide +kernel
theorem dX8_addShape_130 : decode cX8_addShape 130 = .ok (.iadd, 1) := by decide +kernel
theorem dX8_addShape_131 : decode cX8_addShape 131 = .ok (.iload 5, 2) := by decide +kernel
theorem dX8_addShape_133 : decode cX8_addShape 133 = .ok (.iastore, 1) := by decide +kernel
theorem dX8_addShape_134 : decode cX8_addShape 134 = .ok (.aload_n 0, 1) := by decide +kernel
theorem dX8_addShape_135 : decode cX8_addShape 135 = .ok (.getfield 7, 3) := by decide +kernel
theorem dX8_addShape_138 : decode cX8_addShape 138 = .ok (.iconst 0, 1) := by decide +kernel
theorem dX8_addShape_139 : decode cX8_addShape 139 = .ok (.dup2, 1) := by decide +kernel
theorem dX8_addShape_140 : decode cX8_addShape 140 = .ok (.iaload, 1) := by decide +kernel
theorem dX8_addShape_141 : decode cX8_addShape 141 = .ok (.iconst 1, 1) := by decide +kernel
theorem dX8_addShape_142 : decode cX8_addShape 142 = .ok (.iadd, 1) := by decide +kernel
theorem dX8_addShape_143 : decode cX8_addShape 143 = .ok (.iastore, 1) := by decide +kernel
theorem dX8_addShape_144 : decode cX8_addShape 144 = .ok (.aload_n 0, 1) := by decide +kernel
theorem dX8_addShape_145 : decode cX8_addShape 145 = .ok (.getfield 7, 3) := by decide +kernel
theorem dX8_addShape_148 : decode cX8_addShape 148 = .ok (.iconst 0, 1) := by decide +kernel
theorem dX8_addShape_149 : decode cX8_addShape 149 = .ok (.iaload, 1) := by decide +kernel
theorem dX8_addShape_150 : decode cX8_addShape 150 = .ok (.iconst 1, 1) := by decide +kernel
theorem dX8_addShape_151 : decode cX8_addShape 151 = .ok (.isub, 1) := by decide +kernel
theorem dX8_addShape_152 : decode cX8_addShape 152 = .ok (.ireturn, 1) := by decide +kernel
theorem dX8_moveShape_0 : decode cX8_moveShape 0 = .ok (.aload_n 0, 1) := by decide +kernel
theorem dX8_moveShape_1 : decode cX8_moveShape 1 = .ok (.iload_n 1, 1) := by decide +kernel
theorem dX8_moveShape_2 : decode cX8_moveShape 2 = .ok (.invokevirtual 71, 3) := by decide +kernel
theorem dX8_moveShape_5 : decode cX8_moveShape 5 = .ok (.ifCond .ne 6, 3) := by decide +kernel
theorem dX8_moveShape_8 : decode cX8_moveShape 8 = .ok (.bipush (-2), 2) := by decide +kernel
theorem dX8_moveShape_10 : decode cX8_moveShape 10 = .ok (.ireturn, 1) := by decide +kernel
theorem dX8_moveShape_11 : decode cX8_moveShape 11 = .ok (.iload_n 2, 1) := by decide +kernel
theorem dX8_moveShape_12 : decode cX8_moveShape 12 = .ok (.bipush (-47), 2) := by decide +kernel
theorem dX8_moveShape_14 : decode cX8_moveShape 14 = .ok (.bipush 47, 2) := by decide +kernel
theorem dX8_moveShape_16 : decode cX8_moveShape 16 = .ok (.invokestatic 53, 3) := by decide +kernel
theorem dX8_moveShape_19 : decode cX8_moveShape 19 = .ok (.ifCond .eq 82, 3) := by decide +kernel
theorem dX8_moveShape_22 : decode cX8_moveShape 22 = .ok (.iload_n 3, 1) := by decide +kernel
theorem dX8_moveShape_23 : decode cX8_moveShape 23 = .ok (.bipush (-35), 2) := by decide +kernel
theorem dX8_moveShape_25 : decode cX8_moveShape 25 = .ok (.bipush 35, 2) := by decide +kernel
theorem dX8_moveShape_27 : decode cX8_moveShape 27 = .ok (.invokestatic 53, 3) := by decide +kernel
theorem dX8_moveShape_30 : decode cX8_moveShape 30 = .ok (.ifCond .eq 71, 3) := by decide +kernel
theorem dX8_moveShape_33 : decode cX8_moveShape 33 = .ok (.aload_n 0, 1) := by decide +kernel
theorem dX8_moveShape_34 : decode cX8_moveShape 34 = .ok (.iload_n 1, 1) := by decide +kernel
theorem dX8_moveShape_35 : decode cX8_moveShape 35 = .ok (.iconst 1, 1) := by decide +kernel
theorem dX8_moveShape_36 : decode cX8_moveShape 36 = .ok (.invokevirtual 49, 3) := by decide +kernel
theorem dX8_moveShape_39 : decode cX8_moveShape 39 = .ok (.iload_n 2, 1) := by decide +kernel
theorem dX8_moveShape_40 : decode cX8_moveShape 40 = .ok (.iadd, 1) := by decide +kernel
theorem dX8_moveShape_41 : decode cX8_moveShape 41 = .ok (.iconst 0, 1) := by decide +kernel
theorem dX8_moveShape_42 : decode cX8_moveShape 42 = .ok (.bipush 47, 2) := by decide +kernel
theorem dX8_moveShape_44 : decode cX8_moveShape 44 = .ok (.invokestatic 53, 3) := by decide +kernel
theorem dX8_moveShape_47 : decode cX8_moveShape 47 = .ok (.ifCond .eq 54, 3) := by decide +kernel
theorem dX8_moveShape_50 : decode cX8_moveShape 50 = .ok (.aload_n 0, 1) := by decide +kernel
theorem dX8_moveShape_51 : decode cX8_moveShape 51 = .ok (.iload_n 1, 1) := by decide +kernel
theorem dX8_moveShape_52 : decode cX8_moveShape 52 = .ok (.iconst 3, 1) := by decide +kernel
theorem dX8_moveShape_53 : decode cX8_moveShape 53 = .ok (.invokevirtual 49, 3) := by decide +kernel
theorem dX8_moveShape_56 : decode cX8_moveShape 56 = .ok (.iload_n 2, 1) := by decide +kernel
theorem dX8_moveShape_57 : decode cX8_moveShape 57 = .ok (.iadd, 1) := by decide +kernel
theorem dX8_moveShape_58 : decode cX8_moveShape 58 = .ok (.iconst 0, 1) := by decide +kernel
theorem dX8_moveShape_59 : decode cX8_moveShape 59 = .ok (.bipush 47, 2) := by decide +kernel
theorem dX8_moveShape_61 : decode cX8_moveShape 61 = .ok (.invokestatic 53, 3) := by decide +kernel
theorem dX8_moveShape_64 : decode cX8_moveShape 64 = .ok (.ifCond .eq 37, 3) := by decide +kernel
theorem dX8_moveShape_67 : decode cX8_moveShape 67 = .ok (.aload_n 0, 1) := by decide +kernel
theorem dX8_moveShape_68 : decode cX8_moveShape 68 = .ok (.iload_n 1, 1) := by decide +kernel
theorem dX8_moveShape_69 : decode cX8_moveShape 69 = .ok (.iconst 2, 1) := by decide +kernel
theorem dX8_moveShape_70 : decode cX8_moveShape 70 = .ok (.invokevirtual 49, 3) := by decide +kernel
theorem dX8_moveShape_73 : decode cX8_moveShape 73 = .ok (.iload_n 3, 1) := by decide +kernel
theorem dX8_moveShape_74 : decode cX8_moveShape 74 = .ok (.iadd, 1) := by decide +kernel
theorem dX8_moveShape_75 : decode cX8_moveShape 75 = .ok (.iconst 0, 1) := by decide +kernel
theorem dX8_moveShape_76 : decode cX8_moveShape 76 = .ok (.bipush 35, 2) := by decide +kernel
theorem dX8_moveShape_78 : decode cX8_moveShape 78 = .ok (.invokestatic 53, 3) := by decide +kernel
theorem dX8_moveShape_81 : decode cX8_moveShape 81 = .ok (.ifCond .eq 20, 3) := by decide +kernel
theorem dX8_moveShape_84 : decode cX8_moveShape 84 = .ok (.aload_n 0, 1) := by decide +kernel
theorem dX8_moveShape_85 : decode cX8_moveShape 85 = .ok (.iload_n 1, 1) := by decide +kernel
theorem dX8_moveShape_86 : decode cX8_moveShape 86 = .ok (.iconst 4, 1) := by decide +kernel
theorem dX8_moveShape_87 : decode cX8_moveShape 87 = .ok (.invokevirtual 49, 3) := by decide +kernel
theorem dX8_moveShape_90 : decode cX8_moveShape 90 = .ok (.iload_n 3, 1) := by decide +kernel
theorem dX8_moveShape_91 : decode cX8_moveShape 91 = .ok (.iadd, 1) := by decide +kernel
theorem dX8_moveShape_92 : decode cX8_moveShape 92 = .ok (.iconst 0, 1) := by decide +kernel
theorem dX8_moveShape_93 : decode cX8_moveShape 93 = .ok (.bipush 35, 2) := by decide +kernel
theorem dX8_moveShape_95 : decode cX8_moveShape 95 = .ok (.invokestatic 53, 3) := by decide +kernel
theorem dX8_moveShape_98 : decode cX8_moveShape 98 = .ok (.ifCond .ne 6, 3) := by decide +kernel
theorem dX8_moveShape_101 : decode cX8_moveShape 101 = .ok (.bipush (-3), 2) := by decide +kernel
theorem dX8_moveShape_103 : decode cX8_moveShape 103 = .ok (.ireturn, 1) := by decide +kernel
theorem dX8_moveShape_104 : decode cX8_moveShape 104 = .ok (.aload_n 0, 1) := by decide +kernel
theorem dX8_moveShape_105 : decode cX8_moveShape 105 = .ok (.invokevirtual 68, 3) := by decide +kernel
theorem dX8_moveShape_108 : decode cX8_moveShape 108 = .ok (.iconst 1, 1) := by decide +kernel
theorem dX8_moveShape_109 : decode cX8_moveShape 109 = .ok (.iconst 5, 1) := by decide +kernel
theorem dX8_moveShape_110 : decode cX8_moveShape 110 = .ok (.iload_n 1, 1) := by decide +kernel
theorem dX8_moveShape_111 : decode cX8_moveShape 111 = .ok (.imul, 1) := by decide +kernel
theorem dX8_moveShape_112 : decode cX8_moveShape 112 = .ok (.iadd, 1) := by decide +kernel
theorem dX8_moveShape_113 : decode cX8_moveShape 113 = .ok (.istore 4, 2) := by decide +kernel
theorem dX8_moveShape_115 : decode cX8_moveShape 115 = .ok (.aload_n 0, 1) := by decide +kernel
theorem dX8_moveShape_116 : decode cX8_moveShape 116 = .ok (.getfield 7, 3) := by decide +kernel
theorem dX8_moveShape_119 : decode cX8_moveShape 119 = .ok (.iload 4, 2) := by decide +kernel
theorem dX8_moveShape_121 : decode cX8_moveShape 121 = .ok (.iconst 1, 1) := by decide +kernel
theorem dX8_moveShape_122 : decode cX8_moveShape 122 = .ok (.iadd, 1) := by decide +kernel
theorem dX8_moveShape_123 : decode cX8_moveShape 123 = .ok (.dup2, 1) := by decide +kernel
theorem dX8_moveShape_124 : decode cX8_moveShape 124 = .ok (.iaload, 1) := by decide +kernel
theorem dX8_moveShape_125 : decode cX8_moveShape 125 = .ok (.iload_n 2, 1) := by decide +kernel
theorem dX8_moveShape_126 : decode cX8_moveShape 126 = .ok (.iadd, 1) := by decide +kernel
theorem dX8_moveShape_127 : decode cX8_moveShape 127 = .ok (.iastore, 1) := by decide +kernel
theorem dX8_moveShape_128 : decode cX8_moveShape 128 = .ok (.aload_n 0, 1) := by decide +kernel
theorem dX8_moveShape_129 : decode cX8_moveShape 129 = .ok (.getfield 7, 3) := by decide +kernel
theorem dX8_moveShape_132 : decode cX8_moveShape 132 = .ok (.iload 4, 2) := by decide +kernel
theorem dX8_moveShape_134 : decode cX8_moveShape 134 = .ok (.iconst 2, 1) := by decide +kernel
theorem dX8_moveShape_135 : decode cX8_moveShape 135 = .ok (.iadd, 1) := by decide +kernel
theorem dX8_moveShape_136 : decode cX8_moveShape 136 = .ok (.dup2, 1) := by decide +kernel
theorem dX8_moveShape_137 : decode cX8_moveShape 137 = .ok (.iaload, 1) := by decide +kernel
theorem dX8_moveShape_138 : decode cX8_moveShape 138 = .ok (.iload_n 3, 1) := by decide +kernel
theorem dX8_moveShape_139 : decode cX8_moveShape 139 = .ok (.iadd, 1) := by decide +kernel
theorem dX8_moveShape_140 : decode cX8_moveShape 140 = .ok (.iastore, 1) := by decide +kernel
theorem dX8_moveShape_141 : decode cX8_moveShape 141 = .ok (.aload_n 0, 1) := by decide +kernel
theorem dX8_moveShape_142 : decode cX8_moveShape 142 = .ok (.getfield 7, 3) := by decide +kernel
theorem dX8_moveShape_145 : decode cX8_moveShape 145 = .ok (.iload 4, 2) := by decide +kernel
theorem dX8_moveShape_147 : decode cX8_moveShape 147 = .ok (.iconst 3, 1) := by decide +kernel
theorem dX8_moveShape_148 : decode cX8_moveShape 148 = .ok (.iadd, 1) := by decide +kernel
theorem dX8_moveShape_149 : decode cX8_moveShape 149 = .ok (.dup2, 1) := by decide +kernel
theorem dX8_moveShape_150 : decode cX8_moveShape 150 = .ok (.iaload, 1) := by decide +kernel
theorem dX8_moveShape_151 : decode cX8_moveShape 151 = .ok (.iload_n 2, 1) := by decide +kernel
theorem dX8_moveShape_152 : decode cX8_moveShape 152 = .ok (.iadd, 1) := by decide +kernel
theorem dX8_moveShape_153 : decode cX8_moveShape 153 = .ok (.iastore, 1) := by decide +kernel
theorem dX8_moveShape_154 : decode cX8_moveShape 154 = .ok (.aload_n 0, 1) := by decide +kernel
theorem dX8_moveShape_155 : decode cX8_moveShape 155 = .ok (.getfield 7, 3) := by decide +kernel
theorem dX8_moveShape_158 : decode cX8_moveShape 158 = .ok (.iload 4, 2) := by decide +kernel
theorem dX8_moveShape_160 : decode cX8_moveShape 160 = .ok (.iconst 4, 1) := by decide +kernel
theorem dX8_moveShape_161 : decode cX8_moveShape 161 = .ok (.iadd, 1) := by decide +kernel
theorem dX8_moveShape_162 : decode cX8_moveShape 162 = .ok (.dup2, 1) := by decide +kernel
theorem dX8_moveShape_163 : decode cX8_moveShape 163 = .ok (.iaload, 1) := by decide +kernel
theorem dX8_moveShape_164 : decode cX8_moveShape 164 = .ok (.iload_n 3, 1) := by decide +kernel
theorem dX8_moveShape_165 : decode cX8_moveShape 165 = .ok (.iadd, 1) := by decide +kernel
theorem dX8_moveShape_166 : decode cX8_moveShape 166 = .ok (.iastore, 1) := by decide +kernel
theorem dX8_moveShape_167 : decode cX8_moveShape 167 = .ok (.aload_n 0, 1) := by decide +kernel
theorem dX8_moveShape_168 : decode cX8_moveShape 168 = .ok (.invokevirtual 75, 3) := by decide +kernel
theorem dX8_moveShape_171 : decode cX8_moveShape 171 = .ok (.ireturn, 1) := by decide +kernel
theorem dX8_removeShape_0 : decode cX8_removeShape 0 = .ok (.aload_n 0, 1) := by decide +kernel
theorem dX8_removeShape_1 : decode cX8_removeShape 1 = .ok (.iload_n 1, 1) := by decide +kernel
theorem dX8_removeShape_2 : decode cX8_removeShape 2 = .ok (.invokevirtual 71, 3) := by decide +kernel
theorem dX8_removeShape_5 : decode cX8_removeShape 5 = .ok (.ifCond .ne 6, 3) := by decide +kernel
theorem dX8_removeShape_8 : decode cX8_removeShape 8 = .ok (.bipush (-2), 2) := by decide +kernel
theorem dX8_removeShape_10 : decode cX8_removeShape 10 = .ok (.ireturn, 1) := by decide +kernel
theorem dX8_removeShape_11 : decode cX8_removeShape 11 = .ok (.aload_n 0, 1) := by decide +kernel
theorem dX8_removeShape_12 : decode cX8_removeShape 12 = .ok (.invokevirtual 68, 3) := by decide +kernel
theorem dX8_removeShape_15 : decode cX8_removeShape 15 = .ok (.aload_n 0, 1) := by decide +kernel
theorem dX8_removeShape_16 : decode cX8_removeShape 16 = .ok (.getfield 7, 3) := by decide +kernel
theorem dX8_removeShape_19 : decode cX8_removeShape 19 = .ok (.iconst 0, 1) := by decide +kernel
theorem dX8_removeShape_20 : decode cX8_removeShape 20 = .ok (.dup2, 1) := by decide +kernel
theorem dX8_removeShape_21 : decode cX8_removeShape 21 = .ok (.iaload, 1) := by decide +kernel
theorem dX8_removeShape_22 : decode cX8_removeShape 22 = .ok (.iconst 1, 1) := by decide +kernel
theorem dX8_removeShape_23 : decode cX8_removeShape 23 = .ok (.isub, 1) := by decide +kernel
theorem dX8_removeShape_24 : decode cX8_removeShape 24 = .ok (.iastore, 1) := by decide +kernel
theorem dX8_removeShape_25 : decode cX8_removeShape 25 = .ok (.iconst 1, 1) := by decide +kernel
theorem dX8_removeShape_26 : decode cX8_removeShape 26 = .ok (.iconst 5, 1) := by decide +kernel
theorem dX8_removeShape_27 : decode cX8_removeShape 27 = .ok (.iload_n 1, 1) := by decide +kernel
theorem dX8_removeShape_28 : decode cX8_removeShape 28 = .ok (.imul, 1) := by decide +kernel
theorem dX8_removeShape_29 : decode cX8_removeShape 29 = .ok (.iadd, 1) := by decide +kernel
theorem dX8_removeShape_30 : decode cX8_removeShape 30 = .ok (.istore_n 2, 1) := by decide +kernel
theorem dX8_removeShape_31 : decode cX8_removeShape 31 = .ok (.iload_n 2, 1) := by decide +kernel
theorem dX8_removeShape_32 : decode cX8_removeShape 32 = .ok (.iconst 1, 1) := by decide +kernel
theorem dX8_removeShape_33 : decode cX8_removeShape 33 = .ok (.iconst 5, 1) := by decide +kernel
theorem dX8_removeShape_34 : decode cX8_removeShape 34 = .ok (.aload_n 0, 1) := by decide +kernel
theorem dX8_removeShape_35 : decode cX8_removeShape 35 = .ok (.getfield 7, 3) := by decide +kernel
theorem dX8_removeShape_38 : decode cX8_removeShape 38 = .ok (.iconst 0, 1) := by decide +kernel
theorem dX8_removeShape_39 : decode cX8_removeShape 39 = .ok (.iaload, 1) := by decide +kernel
theorem dX8_removeShape_40 : decode cX8_removeShape 40 = .ok (.imul, 1) := by decide +kernel
theorem dX8_removeShape_41 : decode cX8_removeShape 41 = .ok (.iadd, 1) := by decide +kernel
theorem dX8_removeShape_42 : decode cX8_removeShape 42 = .ok (.if_icmp .ge 23, 3) := by decide +kernel
theorem dX8_removeShape_45 : decode cX8_removeShape 45 = .ok (.aload_n 0, 1) := by decide +kernel
theorem dX8_removeShape_46 : decode cX8_removeShape 46 = .ok (.getfield 7, 3) := by decide +kernel
theorem dX8_removeShape_49 : decode cX8_removeShape 49 = .ok (.iload_n 2, 1) := by decide +kernel
theorem dX8_removeShape_50 : decode cX8_removeShape 50 = .ok (.aload_n 0, 1) := by decide +kernel
theorem dX8_removeShape_51 : decode cX8_removeShape 51 = .ok (.getfield 7, 3) := by decide +kernel
theorem dX8_removeShape_54 : decode cX8_removeShape 54 = .ok (.iload_n 2, 1) := by decide +kernel
theorem dX8_removeShape_55 : decode cX8_removeShape 55 = .ok (.iconst 5, 1) := by decide +kernel
theorem dX8_removeShape_56 : decode cX8_removeShape 56 = .ok (.iadd, 1) := by decide +kernel
theorem dX8_removeShape_57 : decode cX8_removeShape 57 = .ok (.iaload, 1) := by decide +kernel
theorem dX8_removeShape_58 : decode cX8_removeShape 58 = .ok (.iastore, 1) := by decide +kernel
theorem dX8_removeShape_59 : decode cX8_removeShape 59 = .ok (.iinc 2 1, 3) := by decide +kernel
theorem dX8_removeShape_62 : decode cX8_removeShape 62 = .ok (.goto (-31), 3) := by decide +kernel
theorem dX8_removeShape_65 : decode cX8_removeShape 65 = .ok (.aload_n 0, 1) := by decide +kernel
theorem dX8_removeShape_66 : decode cX8_removeShape 66 = .ok (.getfield 7, 3) := by decide +kernel
theorem dX8_removeShape_69 : decode cX8_removeShape 69 = .ok (.iconst 0, 1) := by decide +kernel
theorem dX8_removeShape_70 : decode cX8_removeShape 70 = .ok (.iaload, 1) := by decide +kernel
theorem dX8_removeShape_71 : decode cX8_removeShape 71 = .ok (.ireturn, 1) := by decide +kernel
theorem dX8_isFree_0 : decode cX8_isFree 0 = .ok (.iload_n 1, 1) := by decide +kernel
theorem dX8_isFree_1 : decode cX8_isFree 1 = .ok (.iconst 0, 1) := by decide +kernel
theorem dX8_isFree_2 : decode cX8_isFree 2 = .ok (.bipush 47, 2) := by decide +kernel
theorem dX8_isFree_4 : decode cX8_isFree 4 = .ok (.invokestatic 53, 3) := by decide +kernel
theorem dX8_isFree_7 : decode cX8_isFree 7 = .ok (.ifCond .eq 13, 3) := by decide +kernel
theorem dX8_isFree_10 : decode cX8_isFree 10 = .ok (.iload_n 2, 1) := by decide +kernel
theorem dX8_isFree_11 : decode cX8_isFree 11 = .ok (.iconst 0, 1) := by decide +kernel
theorem dX8_isFree_12 : decode cX8_isFree 12 = .ok (.bipush 35, 2) := by decide +kernel
theorem dX8_isFree_14 : decode cX8_isFree 14 = .ok (.invokestatic 53, 3) := by decide +kernel
theorem dX8_isFree_17 : decode cX8_isFree 17 = .ok (.ifCond .ne 6, 3) := by decide +kernel
theorem dX8_isFree_20 : decode cX8_isFree 20 = .ok (.bipush (-3), 2) := by decide +kernel
theorem dX8_isFree_22 : decode cX8_isFree 22 = .ok (.ireturn, 1) := by decide +kernel
theorem dX8_isFree_23 : decode cX8_isFree 23 = .ok (.aload_n 0, 1) := by decide +kernel
theorem dX8_isFree_24 : decode cX8_isFree 24 = .ok (.iload_n 1, 1) := by decide +kernel
theorem dX8_isFree_25 : decode cX8_isFree 25 = .ok (.iload_n 2, 1) := by decide +kernel
theorem dX8_isFree_26 : decode cX8_isFree 26 = .ok (.invokevirtual 64, 3) := by decide +kernel
theorem dX8_isFree_29 : decode cX8_isFree 29 = .ok (.ifCond .eq 7, 3) := by decide +kernel
theorem dX8_isFree_32 : decode cX8_isFree 32 = .ok (.iconst 1, 1) := by decide +kernel
theorem dX8_isFree_33 : decode cX8_isFree 33 = .ok (.goto 4, 3) := by decide +kernel
theorem dX8_isFree_36 : decode cX8_isFree 36 = .ok (.iconst 0, 1) := by decide +kernel
theorem dX8_isFree_37 : decode cX8_isFree 37 = .ok (.ireturn, 1) := by decide +kernel
theorem dX8_findsSpans_0 : decode cX8_findsSpans 0 = .ok (.iconst 0, 1) := by decide +kernel
theorem dX8_findsSpans_1 : decode cX8_findsSpans 1 = .ok (.istore_n 1, 1) := by decide +kernel
theorem dX8_findsSpans_2 : decode cX8_findsSpans 2 = .ok (.iload_n 1, 1) := by decide +kernel
theorem dX8_findsSpans_3 : decode cX8_findsSpans 3 = .ok (.bipush 36, 2) := by decide +kernel
theorem dX8_findsSpans_5 : decode cX8_findsSpans 5 = .ok (.if_icmp .ge 55, 3) := by decide +kernel
theorem dX8_findsSpans_8 : decode cX8_findsSpans 8 = .ok (.aload_n 0, 1) := by decide +kernel
theorem dX8_findsSpans_9 : decode cX8_findsSpans 9 = .ok (.getfield 19, 3) := by decide +kernel
theorem dX8_findsSpans_12 : decode cX8_findsSpans 12 = .ok (.iload_n 1, 1) := by decide +kernel
theorem dX8_findsSpans_13 : decode cX8_findsSpans 13 = .ok (.lconst 0, 1) := by decide +kernel
theorem dX8_findsSpans_14 : decode cX8_findsSpans 14 = .ok (.lastore, 1) := by decide +kernel
theorem dX8_findsSpans_15 : decode cX8_findsSpans 15 = .ok (.iconst 0, 1) := by decide +kernel
theorem dX8_findsSpans_16 : decode cX8_findsSpans 16 = .ok (.istore_n 2, 1) := by decide +kernel
theorem dX8_findsSpans_17 : decode cX8_findsSpans 17 = .ok (.iload_n 2, 1) := by decide +kernel
theorem dX8_findsSpans_18 : decode cX8_findsSpans 18 = .ok (.bipush 48, 2) := by decide +kernel
theorem dX8_findsSpans_20 : decode cX8_findsSpans 20 = .ok (.if_icmp .ge 34, 3) := by decide +kernel
theorem dX8_findsSpans_23 : decode cX8_findsSpans 23 = .ok (.aload_n 0, 1) := by decide +kernel
theorem dX8_findsSpans_24 : decode cX8_findsSpans 24 = .ok (.getfield 19, 3) := by decide +kernel
theorem dX8_findsSpans_27 : decode cX8_findsSpans 27 = .ok (.iload_n 1, 1) := by decide +kernel
theorem dX8_findsSpans_28 : decode cX8_findsSpans 28 = .ok (.dup2, 1) := by decide +kernel
theorem dX8_findsSpans_29 : decode cX8_findsSpans 29 = .ok (.laload, 1) := by decide +kernel
theorem dX8_findsSpans_30 : decode cX8_findsSpans 30 = .ok (.aload_n 0, 1) := by decide +kernel
theorem dX8_findsSpans_31 : decode cX8_findsSpans 31 = .ok (.iload_n 2, 1) := by decide +kernel
theorem dX8_findsSpans_32 : decode cX8_findsSpans 32 = .ok (.iload_n 1, 1) := by decide +kernel
theorem dX8_findsSpans_33 : decode cX8_findsSpans 33 = .ok (.invokevirtual 64, 3) := by decide +kernel
theorem dX8_findsSpans_36 : decode cX8_findsSpans 36 = .ok (.ifCond .eq 9, 3) := by decide +kernel
theorem dX8_findsSpans_39 : decode cX8_findsSpans 39 = .ok (.lconst 1, 1) := by decide +kernel
theorem dX8_findsSpans_40 : decode cX8_findsSpans 40 = .ok (.iload_n 2, 1) := by decide +kernel
theorem dX8_findsSpans_41 : decode cX8_findsSpans 41 = .ok (.lshl, 1) := by decide +kernel
theorem dX8_findsSpans_42 : decode cX8_findsSpans 42 = .ok (.goto 4, 3) := by decide +kernel
theorem dX8_findsSpans_45 : decode cX8_findsSpans 45 = .ok (.lconst 0, 1) := by decide +kernel
theorem dX8_findsSpans_46 : decode cX8_findsSpans 46 = .ok (.lor, 1) := by decide +kernel
theorem dX8_findsSpans_47 : decode cX8_findsSpans 47 = .ok (.lastore, 1) := by decide +kernel
theorem dX8_findsSpans_48 : decode cX8_findsSpans 48 = .ok (.iinc 2 1, 3) := by decide +kernel
theorem dX8_findsSpans_51 : decode cX8_findsSpans 51 = .ok (.goto (-34), 3) := by decide +kernel
theorem dX8_findsSpans_54 : decode cX8_findsSpans 54 = .ok (.iinc 1 1, 3) := by decide +kernel
theorem dX8_findsSpans_57 : decode cX8_findsSpans 57 = .ok (.goto (-55), 3) := by decide +kernel
theorem dX8_findsSpans_60 : decode cX8_findsSpans 60 = .ok (.iconst 0, 1) := by decide +kernel
theorem dX8_findsSpans_61 : decode cX8_findsSpans 61 = .ok (.istore_n 1, 1) := by decide +kernel
theorem dX8_findsSpans_62 : decode cX8_findsSpans 62 = .ok (.iload_n 1, 1) := by decide +kernel
theorem dX8_findsSpans_63 : decode cX8_findsSpans 63 = .ok (.bipush 36, 2) := by decide +kernel
theorem dX8_findsSpans_65 : decode cX8_findsSpans 65 = .ok (.if_icmp .ge 56, 3) := by decide +kernel
theorem dX8_findsSpans_68 : decode cX8_findsSpans 68 = .ok (.aload_n 0, 1) := by decide +kernel
theorem dX8_findsSpans_69 : decode cX8_findsSpans 69 = .ok (.getfield 19, 3) := by decide +kernel
theorem dX8_findsSpans_72 : decode cX8_findsSpans 72 = .ok (.iload_n 1, 1) := by decide +kernel
theorem dX8_findsSpans_73 : decode cX8_findsSpans 73 = .ok (.laload, 1) := by decide +kernel
theorem dX8_findsSpans_74 : decode cX8_findsSpans 74 = .ok (.lstore_n 2, 1) := by decide +kernel
theorem dX8_findsSpans_75 : decode cX8_findsSpans 75 = .ok (.iload_n 1, 1) := by decide +kernel
theorem dX8_findsSpans_76 : decode cX8_findsSpans 76 = .ok (.istore 4, 2) := by decide +kernel
theorem dX8_findsSpans_78 : decode cX8_findsSpans 78 = .ok (.iload 4, 2) := by decide +kernel
theorem dX8_findsSpans_80 : decode cX8_findsSpans 80 = .ok (.bipush 36, 2) := by decide +kernel
theorem dX8_findsSpans_82 : decode cX8_findsSpans 82 = .ok (.if_icmp .ge 33, 3) := by decide +kernel
theorem dX8_findsSpans_85 : decode cX8_findsSpans 85 = .ok (.lload_n 2, 1) := by decide +kernel
theorem dX8_findsSpans_86 : decode cX8_findsSpans 86 = .ok (.aload_n 0, 1) := by decide +kernel
theorem dX8_findsSpans_87 : decode cX8_findsSpans 87 = .ok (.getfield 19, 3) := by decide +kernel
theorem dX8_findsSpans_90 : decode cX8_findsSpans 90 = .ok (.iload 4, 2) := by decide +kernel
theorem dX8_findsSpans_92 : decode cX8_findsSpans 92 = .ok (.laload, 1) := by decide +kernel
theorem dX8_findsSpans_93 : decode cX8_findsSpans 93 = .ok (.land, 1) := by decide +kernel
theorem dX8_findsSpans_94 : decode cX8_findsSpans 94 = .ok (.lstore_n 2, 1) := by decide +kernel
theorem dX8_findsSpans_95 : decode cX8_findsSpans 95 = .ok (.aload_n 0, 1) := by decide +kernel
theorem dX8_findsSpans_96 : decode cX8_findsSpans 96 = .ok (.bipush 36, 2) := by decide +kernel
theorem dX8_findsSpans_98 : decode cX8_findsSpans 98 = .ok (.iload 4, 2) := by decide +kernel
theorem dX8_findsSpans_100 : decode cX8_findsSpans 100 = .ok (.iload_n 1, 1) := by decide +kernel
theorem dX8_findsSpans_101 : decode cX8_findsSpans 101 = .ok (.isub, 1) := by decide +kernel
theorem dX8_findsSpans_102 : decode cX8_findsSpans 102 = .ok (.imul, 1) := by decide +kernel
theorem dX8_findsSpans_103 : decode cX8_findsSpans 103 = .ok (.iload_n 1, 1) := by decide +kernel
theorem dX8_findsSpans_104 : decode cX8_findsSpans 104 = .ok (.iadd, 1) := by decide +kernel
theorem dX8_findsSpans_105 : decode cX8_findsSpans 105 = .ok (.lload_n 2, 1) := by decide +kernel
theorem dX8_findsSpans_106 : decode cX8_findsSpans 106 = .ok (.invokevirtual 79, 3) := by decide +kernel
theorem dX8_findsSpans_109 : decode cX8_findsSpans 109 = .ok (.iinc 4 1, 3) := by decide +kernel
theorem dX8_findsSpans_112 : decode cX8_findsSpans 112 = .ok (.goto (-34), 3) := by decide +kernel
theorem dX8_findsSpans_115 : decode cX8_findsSpans 115 = .ok (.iinc 1 1, 3) := by decide +kernel
theorem dX8_findsSpans_118 : decode cX8_findsSpans 118 = .ok (.goto (-56), 3) := by decide +kernel
theorem dX8_findsSpans_121 : decode cX8_findsSpans 121 = .ok (.return_, 1) := by decide +kernel
theorem dX8_notesSpan_0 : decode cX8_notesSpan 0 = .ok (.aload_n 0, 1) := by decide +kernel
theorem dX8_notesSpan_1 : decode cX8_notesSpan 1 = .ok (.getfield 13, 3) := by decide +kernel
theorem dX8_notesSpan_4 : decode cX8_notesSpan 4 = .ok (.iload_n 1, 1) := by decide +kernel
theorem dX8_notesSpan_5 : decode cX8_notesSpan 5 = .ok (.iconst 0, 1) := by decide +kernel
theorem dX8_notesSpan_6 : decode cX8_notesSpan 6 = .ok (.iastore, 1) := by decide +kernel
theorem dX8_notesSpan_7 : decode cX8_notesSpan 7 = .ok (.aload_n 0, 1) := by decide +kernel
theorem dX8_notesSpan_8 : decode cX8_notesSpan 8 = .ok (.getfield 16, 3) := by decide +kernel
theorem dX8_notesSpan_11 : decode cX8_notesSpan 11 = .ok (.iload_n 1, 1) := by decide +kernel
theorem dX8_notesSpan_12 : decode cX8_notesSpan 12 = .ok (.iconst (-1), 1) := by decide +kernel
theorem dX8_notesSpan_13 : decode cX8_notesSpan 13 = .ok (.iastore, 1) := by decide +kernel
theorem dX8_notesSpan_14 : decode cX8_notesSpan 14 = .ok (.iconst 0, 1) := by decide +kernel
theorem dX8_notesSpan_15 : decode cX8_notesSpan 15 = .ok (.istore 4, 2) := by decide +kernel
theorem dX8_notesSpan_17 : decode cX8_notesSpan 17 = .ok (.iconst 0, 1) := by decide +kernel
theorem dX8_notesSpan_18 : decode cX8_notesSpan 18 = .ok (.istore 5, 2) := by decide +kernel
theorem dX8_notesSpan_20 : decode cX8_notesSpan 20 = .ok (.iload 5, 2) := by decide +kernel
theorem dX8_notesSpan_22 : decode cX8_notesSpan 22 = .ok (.bipush 48, 2) := by decide +kernel
theorem dX8_notesSpan_24 : decode cX8_notesSpan 24 = .ok (.if_icmp .ge 62, 3) := by decide +kernel
theorem dX8_notesSpan_27 : decode cX8_notesSpan 27 = .ok (.lload_n 2, 1) := by decide +kernel
theorem dX8_notesSpan_28 : decode cX8_notesSpan 28 = .ok (.iload 5, 2) := by decide +kernel
theorem dX8_notesSpan_30 : decode cX8_notesSpan 30 = .ok (.lshr, 1) := by decide +kernel
theorem dX8_notesSpan_31 : decode cX8_notesSpan 31 = .ok (.lconst 1, 1) := by decide +kernel
theorem dX8_notesSpan_32 : decode cX8_notesSpan 32 = .ok (.land, 1) := by decide +kernel
theorem dX8_notesSpan_33 : decode cX8_notesSpan 33 = .ok (.lconst 1, 1) := by decide +kernel
theorem dX8_notesSpan_34 : decode cX8_notesSpan 34 = .ok (.lcmp, 1) := by decide +kernel
theorem dX8_notesSpan_35 : decode cX8_notesSpan 35 = .ok (.ifCond .ne 10, 3) := by decide +kernel
theorem dX8_notesSpan_38 : decode cX8_notesSpan 38 = .ok (.iload 4, 2) := by decide +kernel
theorem dX8_notesSpan_40 : decode cX8_notesSpan 40 = .ok (.iconst 1, 1) := by decide +kernel
theorem dX8_notesSpan_41 : decode cX8_notesSpan 41 = .ok (.iadd, 1) := by decide +kernel
theorem dX8_notesSpan_42 : decode cX8_notesSpan 42 = .ok (.goto 4, 3) := by decide +kernel
theorem dX8_notesSpan_45 : decode cX8_notesSpan 45 = .ok (.iconst 0, 1) := by decide +kernel
theorem dX8_notesSpan_46 : decode cX8_notesSpan 46 = .ok (.istore 4, 2) := by decide +kernel
theorem dX8_notesSpan_48 : decode cX8_notesSpan 48 = .ok (.iload 4, 2) := by decide +kernel
theorem dX8_notesSpan_50 : decode cX8_notesSpan 50 = .ok (.aload_n 0, 1) := by decide +kernel
theorem dX8_notesSpan_51 : decode cX8_notesSpan 51 = .ok (.getfield 13, 3) := by decide +kernel
theorem dX8_notesSpan_54 : decode cX8_notesSpan 54 = .ok (.iload_n 1, 1) := by decide +kernel
theorem dX8_notesSpan_55 : decode cX8_notesSpan 55 = .ok (.iaload, 1) := by decide +kernel
theorem dX8_notesSpan_56 : decode cX8_notesSpan 56 = .ok (.if_icmp .le 24, 3) := by decide +kernel
theorem dX8_notesSpan_59 : decode cX8_notesSpan 59 = .ok (.aload_n 0, 1) := by decide +kernel
theorem dX8_notesSpan_60 : decode cX8_notesSpan 60 = .ok (.getfield 13, 3) := by decide +kernel
theorem dX8_notesSpan_63 : decode cX8_notesSpan 63 = .ok (.iload_n 1, 1) := by decide +kernel
theorem dX8_notesSpan_64 : decode cX8_notesSpan 64 = .ok (.iload 4, 2) := by decide +kernel
theorem dX8_notesSpan_66 : decode cX8_notesSpan 66 = .ok (.iastore, 1) := by decide +kernel
theorem dX8_notesSpan_67 : decode cX8_notesSpan 67 = .ok (.aload_n 0, 1) := by decide +kernel
theorem dX8_notesSpan_68 : decode cX8_notesSpan 68 = .ok (.getfield 16, 3) := by decide +kernel
theorem dX8_notesSpan_71 : decode cX8_notesSpan 71 = .ok (.iload_n 1, 1) := by decide +kernel
theorem dX8_notesSpan_72 : decode cX8_notesSpan 72 = .ok (.iload 5, 2) := by decide +kernel
theorem dX8_notesSpan_74 : decode cX8_notesSpan 74 = .ok (.iload 4, 2) := by decide +kernel
theorem dX8_notesSpan_76 : decode cX8_notesSpan 76 = .ok (.isub, 1) := by decide +kernel
theorem dX8_notesSpan_77 : decode cX8_notesSpan 77 = .ok (.iconst 1, 1) := by decide +kernel
theorem dX8_notesSpan_78 : decode cX8_notesSpan 78 = .ok (.iadd, 1) := by decide +kernel
theorem dX8_notesSpan_79 : decode cX8_notesSpan 79 = .ok (.iastore, 1) := by decide +kernel
theorem dX8_notesSpan_80 : decode cX8_notesSpan 80 = .ok (.iinc 5 1, 3) := by decide +kernel
theorem dX8_notesSpan_83 : decode cX8_notesSpan 83 = .ok (.goto (-63), 3) := by decide +kernel
theorem dX8_notesSpan_86 : decode cX8_notesSpan 86 = .ok (.return_, 1) := by decide +kernel
theorem dX8_span_0 : decode cX8_span 0 = .ok (.iload_n 1, 1) := by decide +kernel
theorem dX8_span_1 : decode cX8_span 1 = .ok (.iconst 0, 1) := by decide +kernel
theorem dX8_span_2 : decode cX8_span 2 = .ok (.bipush 35, 2) := by decide +kernel
theorem dX8_span_4 : decode cX8_span 4 = .ok (.invokestatic 53, 3) := by decide +kernel
theorem dX8_span_7 : decode cX8_span 7 = .ok (.ifCond .eq 24, 3) := by decide +kernel
theorem dX8_span_10 : decode cX8_span 10 = .ok (.iload_n 2, 1) := by decide +kernel
theorem dX8_span_11 : decode cX8_span 11 = .ok (.iconst 1, 1) := by decide +kernel
theorem dX8_span_12 : decode cX8_span 12 = .ok (.bipush 36, 2) := by decide +kernel
theorem dX8_span_14 : decode cX8_span 14 = .ok (.iload_n 1, 1) := by decide +kernel
theorem dX8_span_15 : decode cX8_span 15 = .ok (.isub, 1) := by decide +kernel
theorem dX8_span_16 : decode cX8_span 16 = .ok (.invokestatic 53, 3) := by decide +kernel
theorem dX8_span_19 : decode cX8_span 19 = .ok (.ifCond .eq 12, 3) := by decide +kernel
theorem dX8_span_22 : decode cX8_span 22 = .ok (.iload_n 3, 1) := by decide +kernel
theorem dX8_span_23 : decode cX8_span 23 = .ok (.iconst 0, 1) := by decide +kernel
theorem dX8_span_24 : decode cX8_span 24 = .ok (.iconst 1, 1) := by decide +kernel
theorem dX8_span_25 : decode cX8_span 25 = .ok (.invokestatic 53, 3) := by decide +kernel
theorem dX8_span_28 : decode cX8_span 28 = .ok (.ifCond .ne 6, 3) := by decide +kernel
theorem dX8_span_31 : decode cX8_span 31 = .ok (.bipush (-3), 2) := by decide +kernel
theorem dX8_span_33 : decode cX8_span 33 = .ok (.ireturn, 1) := by decide +kernel
theorem dX8_span_34 : decode cX8_span 34 = .ok (.aload_n 0, 1) := by decide +kernel
theorem dX8_span_35 : decode cX8_span 35 = .ok (.invokevirtual 83, 3) := by decide +kernel
theorem dX8_span_38 : decode cX8_span 38 = .ok (.iload_n 3, 1) := by decide +kernel
theorem dX8_span_39 : decode cX8_span 39 = .ok (.ifCond .ne 19, 3) := by decide +kernel
theorem dX8_span_42 : decode cX8_span 42 = .ok (.aload_n 0, 1) := by decide +kernel
theorem dX8_span_43 : decode cX8_span 43 = .ok (.getfield 13, 3) := by decide +kernel
theorem dX8_span_46 : decode cX8_span 46 = .ok (.bipush 36, 2) := by decide +kernel
theorem dX8_span_48 : decode cX8_span 48 = .ok (.iload_n 2, 1) := by decide +kernel
theorem dX8_span_49 : decode cX8_span 49 = .ok (.iconst 1, 1) := by decide +kernel
theorem dX8_span_50 : decode cX8_span 50 = .ok (.isub, 1) := by decide +kernel
theorem dX8_span_51 : decode cX8_span 51 = .ok (.imul, 1) := by decide +kernel
theorem dX8_span_52 : decode cX8_span 52 = .ok (.iload_n 1, 1) := by decide +kernel
theorem dX8_span_53 : decode cX8_span 53 = .ok (.iadd, 1) := by decide +kernel
theorem dX8_span_54 : decode cX8_span 54 = .ok (.iaload, 1) := by decide +kernel
theorem dX8_span_55 : decode cX8_span 55 = .ok (.goto 16, 3) := by decide +kernel
theorem dX8_span_58 : decode cX8_span 58 = .ok (.aload_n 0, 1) := by decide +kernel
theorem dX8_span_59 : decode cX8_span 59 = .ok (.getfield 16, 3) := by decide +kernel
theorem dX8_span_62 : decode cX8_span 62 = .ok (.bipush 36, 2) := by decide +kernel
theorem dX8_span_64 : decode cX8_span 64 = .ok (.iload_n 2, 1) := by decide +kernel
theorem dX8_span_65 : decode cX8_span 65 = .ok (.iconst 1, 1) := by decide +kernel
theorem dX8_span_66 : decode cX8_span 66 = .ok (.isub, 1) := by decide +kernel
theorem dX8_span_67 : decode cX8_span 67 = .ok (.imul, 1) := by decide +kernel
theorem dX8_span_68 : decode cX8_span 68 = .ok (.iload_n 1, 1) := by decide +kernel
theorem dX8_span_69 : decode cX8_span 69 = .ok (.iadd, 1) := by decide +kernel
theorem dX8_span_70 : decode cX8_span 70 = .ok (.iaload, 1) := by decide +kernel
theorem dX8_span_71 : decode cX8_span 71 = .ok (.ireturn, 1) := by decide +kernel
theorem dX8_of_0 : decode cX8_of 0 = .ok (.aload_n 0, 1) := by decide +kernel
theorem dX8_of_1 : decode cX8_of 1 = .ok (.getfield 7, 3) := by decide +kernel
theorem dX8_of_4 : decode cX8_of 4 = .ok (.bipush 32, 2) := by decide +kernel
theorem dX8_of_6 : decode cX8_of 6 = .ok (.iconst 3, 1) := by decide +kernel
theorem dX8_of_7 : decode cX8_of 7 = .ok (.iload_n 1, 1) := by decide +kernel
theorem dX8_of_8 : decode cX8_of 8 = .ok (.imul, 1) := by decide +kernel
theorem dX8_of_9 : decode cX8_of 9 = .ok (.iadd, 1) := by decide +kernel
theorem dX8_of_10 : decode cX8_of 10 = .ok (.iload_n 2, 1) := by decide +kernel
theorem dX8_of_11 : decode cX8_of 11 = .ok (.iadd, 1) := by decide +kernel
theorem dX8_of_12 : decode cX8_of 12 = .ok (.iaload, 1) := by decide +kernel
theorem dX8_of_13 : decode cX8_of 13 = .ok (.ireturn, 1) := by decide +kernel
theorem dX8_isWord_0 : decode cX8_isWord 0 = .ok (.iload_n 1, 1) := by decide +kernel
theorem dX8_isWord_1 : decode cX8_isWord 1 = .ok (.iconst 0, 1) := by decide +kernel
theorem dX8_isWord_2 : decode cX8_isWord 2 = .ok (.aload_n 0, 1) := by decide +kernel
theorem dX8_isWord_3 : decode cX8_isWord 3 = .ok (.getfield 7, 3) := by decide +kernel
theorem dX8_isWord_6 : decode cX8_isWord 6 = .ok (.bipush 31, 2) := by decide +kernel
theorem dX8_isWord_8 : decode cX8_isWord 8 = .ok (.iaload, 1) := by decide +kernel
theorem dX8_isWord_9 : decode cX8_isWord 9 = .ok (.iconst 1, 1) := by decide +kernel
theorem dX8_isWord_10 : decode cX8_isWord 10 = .ok (.isub, 1) := by decide +kernel
theorem dX8_isWord_11 : decode cX8_isWord 11 = .ok (.invokestatic 53, 3) := by decide +kernel
theorem dX8_isWord_14 : decode cX8_isWord 14 = .ok (.ireturn, 1) := by decide +kernel
theorem dX8_becomes_0 : decode cX8_becomes 0 = .ok (.aload_n 0, 1) := by decide +kernel
theorem dX8_becomes_1 : decode cX8_becomes 1 = .ok (.getfield 7, 3) := by decide +kernel
theorem dX8_becomes_4 : decode cX8_becomes 4 = .ok (.bipush 32, 2) := by decide +kernel
theorem dX8_becomes_6 : decode cX8_becomes 6 = .ok (.iconst 3, 1) := by decide +kernel
theorem dX8_becomes_7 : decode cX8_becomes 7 = .ok (.iload_n 1, 1) := by decide +kernel
theorem dX8_becomes_8 : decode cX8_becomes 8 = .ok (.imul, 1) := by decide +kernel
theorem dX8_becomes_9 : decode cX8_becomes 9 = .ok (.iadd, 1) := by decide +kernel
theorem dX8_becomes_10 : decode cX8_becomes 10 = .ok (.iload_n 2, 1) := by decide +kernel
theorem dX8_becomes_11 : decode cX8_becomes 11 = .ok (.iastore, 1) := by decide +kernel
theorem dX8_becomes_12 : decode cX8_becomes 12 = .ok (.aload_n 0, 1) := by decide +kernel
theorem dX8_becomes_13 : decode cX8_becomes 13 = .ok (.getfield 7, 3) := by decide +kernel
theorem dX8_becomes_16 : decode cX8_becomes 16 = .ok (.bipush 32, 2) := by decide +kernel
theorem dX8_becomes_18 : decode cX8_becomes 18 = .ok (.iconst 3, 1) := by decide +kernel
theorem dX8_becomes_19 : decode cX8_becomes 19 = .ok (.iload_n 1, 1) := by decide +kernel
theorem dX8_becomes_20 : decode cX8_becomes 20 = .ok (.imul, 1) := by decide +kernel
theorem dX8_becomes_21 : decode cX8_becomes 21 = .ok (.iadd, 1) := by decide +kernel
theorem dX8_becomes_22 : decode cX8_becomes 22 = .ok (.iconst 1, 1) := by decide +kernel
theorem dX8_becomes_23 : decode cX8_becomes 23 = .ok (.iadd, 1) := by decide +kernel
theorem dX8_becomes_24 : decode cX8_becomes 24 = .ok (.iload_n 3, 1) := by decide +kernel
theorem dX8_becomes_25 : decode cX8_becomes 25 = .ok (.iastore, 1) := by decide +kernel
theorem dX8_becomes_26 : decode cX8_becomes 26 = .ok (.aload_n 0, 1) := by decide +kernel
theorem dX8_becomes_27 : decode cX8_becomes 27 = .ok (.getfield 7, 3) := by decide +kernel
theorem dX8_becomes_30 : decode cX8_becomes 30 = .ok (.bipush 32, 2) := by decide +kernel
theorem dX8_becomes_32 : decode cX8_becomes 32 = .ok (.iconst 3, 1) := by decide +kernel
theorem dX8_becomes_33 : decode cX8_becomes 33 = .ok (.iload_n 1, 1) := by decide +kernel
theorem dX8_becomes_34 : decode cX8_becomes 34 = .ok (.imul, 1) := by decide +kernel
theorem dX8_becomes_35 : decode cX8_becomes 35 = .ok (.iadd, 1) := by decide +kernel
theorem dX8_becomes_36 : decode cX8_becomes 36 = .ok (.iconst 2, 1) := by decide +kernel
theorem dX8_becomes_37 : decode cX8_becomes 37 = .ok (.iadd, 1) := by decide +kernel
theorem dX8_becomes_38 : decode cX8_becomes 38 = .ok (.iload 4, 2) := by decide +kernel
theorem dX8_becomes_40 : decode cX8_becomes 40 = .ok (.iastore, 1) := by decide +kernel
theorem dX8_becomes_41 : decode cX8_becomes 41 = .ok (.return_, 1) := by decide +kernel
theorem dX8_addWord_0 : decode cX8_addWord 0 = .ok (.iload_n 1, 1) := by decide +kernel
theorem dX8_addWord_1 : decode cX8_addWord 1 = .ok (.iconst 1, 1) := by decide +kernel
theorem dX8_addWord_2 : decode cX8_addWord 2 = .ok (.bipush 12, 2) := by decide +kernel
theorem dX8_addWord_4 : decode cX8_addWord 4 = .ok (.invokestatic 53, 3) := by decide +kernel
theorem dX8_addWord_7 : decode cX8_addWord 7 = .ok (.ifCond .eq 12, 3) := by decide +kernel
theorem dX8_addWord_10 : decode cX8_addWord 10 = .ok (.iload_n 2, 1) := by decide +kernel
theorem dX8_addWord_11 : decode cX8_addWord 11 = .ok (.iconst 1, 1) := by decide +kernel
theorem dX8_addWord_12 : decode cX8_addWord 12 = .ok (.iconst 3, 1) := by decide +kernel
theorem dX8_addWord_13 : decode cX8_addWord 13 = .ok (.invokestatic 53, 3) := by decide +kernel
theorem dX8_addWord_16 : decode cX8_addWord 16 = .ok (.ifCond .ne 6, 3) := by decide +kernel
theorem dX8_addWord_19 : decode cX8_addWord 19 = .ok (.bipush (-3), 2) := by decide +kernel
theorem dX8_addWord_21 : decode cX8_addWord 21 = .ok (.ireturn, 1) := by decide +kernel
theorem dX8_addWord_22 : decode cX8_addWord 22 = .ok (.aload_n 0, 1) := by decide +kernel
theorem dX8_addWord_23 : decode cX8_addWord 23 = .ok (.getfield 7, 3) := by decide +kernel
theorem dX8_addWord_26 : decode cX8_addWord 26 = .ok (.bipush 31, 2) := by decide +kernel
theorem dX8_addWord_28 : decode cX8_addWord 28 = .ok (.iaload, 1) := by decide +kernel
theorem dX8_addWord_29 : decode cX8_addWord 29 = .ok (.bipush 14, 2) := by decide +kernel
theorem dX8_addWord_31 : decode cX8_addWord 31 = .ok (.if_icmp .ne 6, 3) := by decide +kernel
theorem dX8_addWord_34 : decode cX8_addWord 34 = .ok (.bipush (-5), 2) := by decide +kernel
theorem dX8_addWord_36 : decode cX8_addWord 36 = .ok (.ireturn, 1) := by decide +kernel
theorem dX8_addWord_37 : decode cX8_addWord 37 = .ok (.aload_n 0, 1) := by decide +kernel
theorem dX8_addWord_38 : decode cX8_addWord 38 = .ok (.invokevirtual 68, 3) := by decide +kernel
theorem dX8_addWord_41 : decode cX8_addWord 41 = .ok (.aload_n 0, 1) := by decide +kernel
theorem dX8_addWord_42 : decode cX8_addWord 42 = .ok (.aload_n 0, 1) := by decide +kernel
theorem dX8_addWord_43 : decode cX8_addWord 43 = .ok (.getfield 7, 3) := by decide +kernel
theorem dX8_addWord_46 : decode cX8_addWord 46 = .ok (.bipush 31, 2) := by decide +kernel
theorem dX8_addWord_48 : decode cX8_addWord 48 = .ok (.iaload, 1) := by decide +kernel
theorem dX8_addWord_49 : decode cX8_addWord 49 = .ok (.iload_n 1, 1) := by decide +kernel
theorem dX8_addWord_50 : decode cX8_addWord 50 = .ok (.iload_n 2, 1) := by decide +kernel
theorem dX8_addWord_51 : decode cX8_addWord 51 = .ok (.iconst 0, 1) := by decide +kernel
theorem dX8_addWord_52 : decode cX8_addWord 52 = .ok (.invokevirtual 86, 3) := by decide +kernel
theorem dX8_addWord_55 : decode cX8_addWord 55 = .ok (.aload_n 0, 1) := by decide +kernel
theorem dX8_addWord_56 : decode cX8_addWord 56 = .ok (.getfield 7, 3) := by decide +kernel
theorem dX8_addWord_59 : decode cX8_addWord 59 = .ok (.bipush 31, 2) := by decide +kernel
theorem dX8_addWord_61 : decode cX8_addWord 61 = .ok (.dup2, 1) := by decide +kernel
theorem dX8_addWord_62 : decode cX8_addWord 62 = .ok (.iaload, 1) := by decide +kernel
theorem dX8_addWord_63 : decode cX8_addWord 63 = .ok (.iconst 1, 1) := by decide +kernel
theorem dX8_addWord_64 : decode cX8_addWord 64 = .ok (.iadd, 1) := by decide +kernel
theorem dX8_addWord_65 : decode cX8_addWord 65 = .ok (.iastore, 1) := by decide +kernel
theorem dX8_addWord_66 : decode cX8_addWord 66 = .ok (.aload_n 0, 1) := by decide +kernel
theorem dX8_addWord_67 : decode cX8_addWord 67 = .ok (.getfield 7, 3) := by decide +kernel
theorem dX8_addWord_70 : decode cX8_addWord 70 = .ok (.bipush 31, 2) := by decide +kernel
theorem dX8_addWord_72 : decode cX8_addWord 72 = .ok (.iaload, 1) := by decide +kernel
theorem dX8_addWord_73 : decode cX8_addWord 73 = .ok (.iconst 1, 1) := by decide +kernel
theorem dX8_addWord_74 : decode cX8_addWord 74 = .ok (.isub, 1) := by decide +kernel
theorem dX8_addWord_75 : decode cX8_addWord 75 = .ok (.ireturn, 1) := by decide +kernel
theorem dX8_setWord_0 : decode cX8_setWord 0 = .ok (.aload_n 0, 1) := by decide +kernel
theorem dX8_setWord_1 : decode cX8_setWord 1 = .ok (.iload_n 1, 1) := by decide +kernel
theorem dX8_setWord_2 : decode cX8_setWord 2 = .ok (.invokevirtual 90, 3) := by decide +kernel
theorem dX8_setWord_5 : decode cX8_setWord 5 = .ok (.ifCond .ne 6, 3) := by decide +kernel
theorem dX8_setWord_8 : decode cX8_setWord 8 = .ok (.bipush (-2), 2) := by decide +kernel
theorem dX8_setWord_10 : decode cX8_setWord 10 = .ok (.ireturn, 1) := by decide +kernel
theorem dX8_setWord_11 : decode cX8_setWord 11 = .ok (.iload_n 2, 1) := by decide +kernel
theorem dX8_setWord_12 : decode cX8_setWord 12 = .ok (.iconst 1, 1) := by decide +kernel
theorem dX8_setWord_13 : decode cX8_setWord 13 = .ok (.bipush 12, 2) := by decide +kernel
theorem dX8_setWord_15 : decode cX8_setWord 15 = .ok (.invokestatic 53, 3) := by decide +kernel
theorem dX8_setWord_18 : decode cX8_setWord 18 = .ok (.ifCond .eq 12, 3) := by decide +kernel
theorem dX8_setWord_21 : decode cX8_setWord 21 = .ok (.iload_n 3, 1) := by decide +kernel
theorem dX8_setWord_22 : decode cX8_setWord 22 = .ok (.iconst 1, 1) := by decide +kernel
theorem dX8_setWord_23 : decode cX8_setWord 23 = .ok (.iconst 3, 1) := by decide +kernel
theorem dX8_setWord_24 : decode cX8_setWord 24 = .ok (.invokestatic 53, 3) := by decide +kernel
theorem dX8_setWord_27 : decode cX8_setWord 27 = .ok (.ifCond .ne 6, 3) := by decide +kernel
theorem dX8_setWord_30 : decode cX8_setWord 30 = .ok (.bipush (-3), 2) := by decide +kernel
theorem dX8_setWord_32 : decode cX8_setWord 32 = .ok (.ireturn, 1) := by decide +kernel
theorem dX8_setWord_33 : decode cX8_setWord 33 = .ok (.aload_n 0, 1) := by decide +kernel
theorem dX8_setWord_34 : decode cX8_setWord 34 = .ok (.invokevirtual 68, 3) := by decide +kernel
theorem dX8_setWord_37 : decode cX8_setWord 37 = .ok (.aload_n 0, 1) := by decide +kernel
theorem dX8_setWord_38 : decode cX8_setWord 38 = .ok (.iload_n 1, 1) := by decide +kernel
theorem dX8_setWord_39 : decode cX8_setWord 39 = .ok (.iconst 0, 1) := by decide +kernel
theorem dX8_setWord_40 : decode cX8_setWord 40 = .ok (.invokevirtual 93, 3) := by decide +kernel
theorem dX8_setWord_43 : decode cX8_setWord 43 = .ok (.istore 5, 2) := by decide +kernel
theorem dX8_setWord_45 : decode cX8_setWord 45 = .ok (.aload_n 0, 1) := by decide +kernel
theorem dX8_setWord_46 : decode cX8_setWord 46 = .ok (.iload_n 1, 1) := by decide +kernel
theorem dX8_setWord_47 : decode cX8_setWord 47 = .ok (.iload_n 2, 1) := by decide +kernel
theorem dX8_setWord_48 : decode cX8_setWord 48 = .ok (.iload_n 3, 1) := by decide +kernel
theorem dX8_setWord_49 : decode cX8_setWord 49 = .ok (.iload 4, 2) := by decide +kernel
theorem dX8_setWord_51 : decode cX8_setWord 51 = .ok (.ifCond .eq 7, 3) := by decide +kernel
theorem dX8_setWord_54 : decode cX8_setWord 54 = .ok (.iconst 1, 1) := by decide +kernel
theorem dX8_setWord_55 : decode cX8_setWord 55 = .ok (.goto 4, 3) := by decide +kernel
theorem dX8_setWord_58 : decode cX8_setWord 58 = .ok (.iconst 0, 1) := by decide +kernel
theorem dX8_setWord_59 : decode cX8_setWord 59 = .ok (.invokevirtual 86, 3) := by decide +kernel
theorem dX8_setWord_62 : decode cX8_setWord 62 = .ok (.iload 5, 2) := by decide +kernel
theorem dX8_setWord_64 : decode cX8_setWord 64 = .ok (.ireturn, 1) := by decide +kernel
theorem dX8_clearWords_0 : decode cX8_clearWords 0 = .ok (.aload_n 0, 1) := by decide +kernel
theorem dX8_clearWords_1 : decode cX8_clearWords 1 = .ok (.invokevirtual 68, 3) := by decide +kernel
theorem dX8_clearWords_4 : decode cX8_clearWords 4 = .ok (.aload_n 0, 1) := by decide +kernel
theorem dX8_clearWords_5 : decode cX8_clearWords 5 = .ok (.getfield 7, 3) := by decide +kernel
theorem dX8_clearWords_8 : decode cX8_clearWords 8 = .ok (.bipush 31, 2) := by decide +kernel
theorem dX8_clearWords_10 : decode cX8_clearWords 10 = .ok (.iaload, 1) := by decide +kernel
theorem dX8_clearWords_11 : decode cX8_clearWords 11 = .ok (.istore_n 1, 1) := by decide +kernel
theorem dX8_clearWords_12 : decode cX8_clearWords 12 = .ok (.aload_n 0, 1) := by decide +kernel
theorem dX8_clearWords_13 : decode cX8_clearWords 13 = .ok (.getfield 7, 3) := by decide +kernel
theorem dX8_clearWords_16 : decode cX8_clearWords 16 = .ok (.bipush 31, 2) := by decide +kernel
theorem dX8_clearWords_18 : decode cX8_clearWords 18 = .ok (.iconst 0, 1) := by decide +kernel
theorem dX8_clearWords_19 : decode cX8_clearWords 19 = .ok (.iastore, 1) := by decide +kernel
theorem dX8_clearWords_20 : decode cX8_clearWords 20 = .ok (.iload_n 1, 1) := by decide +kernel
theorem dX8_clearWords_21 : decode cX8_clearWords 21 = .ok (.ireturn, 1) := by decide +kernel
theorem dX8_setSizes_0 : decode cX8_setSizes 0 = .ok (.iload_n 1, 1) := by decide +kernel
theorem dX8_setSizes_1 : decode cX8_setSizes 1 = .ok (.iconst 0, 1) := by decide +kernel
theorem dX8_setSizes_2 : decode cX8_setSizes 2 = .ok (.iconst 4, 1) := by decide +kernel
theorem dX8_setSizes_3 : decode cX8_setSizes 3 = .ok (.invokestatic 53, 3) := by decide +kernel
theorem dX8_setSizes_6 : decode cX8_setSizes 6 = .ok (.ifCond .eq 34, 3) := by decide +kernel
theorem dX8_setSizes_9 : decode cX8_setSizes 9 = .ok (.iload_n 2, 1) := by decide +kernel
theorem dX8_setSizes_10 : decode cX8_setSizes 10 = .ok (.iconst 1, 1) := by decide +kernel
theorem dX8_setSizes_11 : decode cX8_setSizes 11 = .ok (.bipush 20, 2) := by decide +kernel
theorem dX8_setSizes_13 : decode cX8_setSizes 13 = .ok (.invokestatic 53, 3) := by decide +kernel
theorem dX8_setSizes_16 : decode cX8_setSizes 16 = .ok (.ifCond .eq 24, 3) := by decide +kernel
theorem dX8_setSizes_19 : decode cX8_setSizes 19 = .ok (.iload_n 3, 1) := by decide +kernel
theorem dX8_setSizes_20 : decode cX8_setSizes 20 = .ok (.iconst 1, 1) := by decide +kernel
theorem dX8_setSizes_21 : decode cX8_setSizes 21 = .ok (.bipush 20, 2) := by decide +kernel
theorem dX8_setSizes_23 : decode cX8_setSizes 23 = .ok (.invokestatic 53, 3) := by decide +kernel
theorem dX8_setSizes_26 : decode cX8_setSizes 26 = .ok (.ifCond .eq 14, 3) := by decide +kernel
theorem dX8_setSizes_29 : decode cX8_setSizes 29 = .ok (.iload 4, 2) := by decide +kernel
theorem dX8_setSizes_31 : decode cX8_setSizes 31 = .ok (.iconst 1, 1) := by decide +kernel
theorem dX8_setSizes_32 : decode cX8_setSizes 32 = .ok (.bipush 20, 2) := by decide +kernel
theorem dX8_setSizes_34 : decode cX8_setSizes 34 = .ok (.invokestatic 53, 3) := by decide +kernel
theorem dX8_setSizes_37 : decode cX8_setSizes 37 = .ok (.ifCond .ne 6, 3) := by decide +kernel
theorem dX8_setSizes_40 : decode cX8_setSizes 40 = .ok (.bipush (-3), 2) := by decide +kernel
theorem dX8_setSizes_42 : decode cX8_setSizes 42 = .ok (.ireturn, 1) := by decide +kernel
theorem dX8_setSizes_43 : decode cX8_setSizes 43 = .ok (.aload_n 0, 1) := by decide +kernel
theorem dX8_setSizes_44 : decode cX8_setSizes 44 = .ok (.invokevirtual 68, 3) := by decide +kernel
theorem dX8_setSizes_47 : decode cX8_setSizes 47 = .ok (.aload_n 0, 1) := by decide +kernel
theorem dX8_setSizes_48 : decode cX8_setSizes 48 = .ok (.getfield 7, 3) := by decide +kernel
theorem dX8_setSizes_51 : decode cX8_setSizes 51 = .ok (.bipush 74, 2) := by decide +kernel
theorem dX8_setSizes_53 : decode cX8_setSizes 53 = .ok (.iaload, 1) := by decide +kernel
theorem dX8_setSizes_54 : decode cX8_setSizes 54 = .ok (.istore 5, 2) := by decide +kernel
theorem dX8_setSizes_56 : decode cX8_setSizes 56 = .ok (.aload_n 0, 1) := by decide +kernel
theorem dX8_setSizes_57 : decode cX8_setSizes 57 = .ok (.getfield 7, 3) := by decide +kernel
theorem dX8_setSizes_60 : decode cX8_setSizes 60 = .ok (.bipush 74, 2) := by decide +kernel
theorem dX8_setSizes_62 : decode cX8_setSizes 62 = .ok (.iload_n 1, 1) := by decide +kernel
theorem dX8_setSizes_63 : decode cX8_setSizes 63 = .ok (.iastore, 1) := by decide +kernel
theorem dX8_setSizes_64 : decode cX8_setSizes 64 = .ok (.aload_n 0, 1) := by decide +kernel
theorem dX8_setSizes_65 : decode cX8_setSizes 65 = .ok (.getfield 7, 3) := by decide +kernel
theorem dX8_setSizes_68 : decode cX8_setSizes 68 = .ok (.bipush 75, 2) := by decide +kernel
theorem dX8_setSizes_70 : decode cX8_setSizes 70 = .ok (.iload_n 2, 1) := by decide +kernel
theorem dX8_setSizes_71 : decode cX8_setSizes 71 = .ok (.iastore, 1) := by decide +kernel
theorem dX8_setSizes_72 : decode cX8_setSizes 72 = .ok (.aload_n 0, 1) := by decide +kernel
theorem dX8_setSizes_73 : decode cX8_setSizes 73 = .ok (.getfield 7, 3) := by decide +kernel
theorem dX8_setSizes_76 : decode cX8_setSizes 76 = .ok (.bipush 76, 2) := by decide +kernel
theorem dX8_setSizes_78 : decode cX8_setSizes 78 = .ok (.iload_n 3, 1) := by decide +kernel
theorem dX8_setSizes_79 : decode cX8_setSizes 79 = .ok (.iastore, 1) := by decide +kernel
theorem dX8_setSizes_80 : decode cX8_setSizes 80 = .ok (.aload_n 0, 1) := by decide +kernel
theorem dX8_setSizes_81 : decode cX8_setSizes 81 = .ok (.getfield 7, 3) := by decide +kernel
theorem dX8_setSizes_84 : decode cX8_setSizes 84 = .ok (.bipush 77, 2) := by decide +kernel
theorem dX8_setSizes_86 : decode cX8_setSizes 86 = .ok (.iload 4, 2) := by decide +kernel
theorem dX8_setSizes_88 : decode cX8_setSizes 88 = .ok (.iastore, 1) := by decide +kernel
theorem dX8_setSizes_89 : decode cX8_setSizes 89 = .ok (.iload 5, 2) := by decide +kernel
theorem dX8_setSizes_91 : decode cX8_setSizes 91 = .ok (.ireturn, 1) := by decide +kernel
theorem dX8_setLines_0 : decode cX8_setLines 0 = .ok (.iload_n 1, 1) := by decide +kernel
theorem dX8_setLines_1 : decode cX8_setLines 1 = .ok (.iconst 0, 1) := by decide +kernel
theorem dX8_setLines_2 : decode cX8_setLines 2 = .ok (.bipush 35, 2) := by decide +kernel
theorem dX8_setLines_4 : decode cX8_setLines 4 = .ok (.invokestatic 53, 3) := by decide +kernel
theorem dX8_setLines_7 : decode cX8_setLines 7 = .ok (.ifCond .eq 32, 3) := by decide +kernel
theorem dX8_setLines_10 : decode cX8_setLines 10 = .ok (.iload_n 2, 1) := by decide +kernel
theorem dX8_setLines_11 : decode cX8_setLines 11 = .ok (.iconst 0, 1) := by decide +kernel
theorem dX8_setLines_12 : decode cX8_setLines 12 = .ok (.iconst 5, 1) := by decide +kernel
theorem dX8_setLines_13 : decode cX8_setLines 13 = .ok (.invokestatic 53, 3) := by decide +kernel
theorem dX8_setLines_16 : decode cX8_setLines 16 = .ok (.ifCond .eq 23, 3) := by decide +kernel
theorem dX8_setLines_19 : decode cX8_setLines 19 = .ok (.iload_n 3, 1) := by decide +kernel
theorem dX8_setLines_20 : decode cX8_setLines 20 = .ok (.iconst 0, 1) := by decide +kernel
theorem dX8_setLines_21 : decode cX8_setLines 21 = .ok (.iconst 2, 1) := by decide +kernel
theorem dX8_setLines_22 : decode cX8_setLines 22 = .ok (.invokestatic 53, 3) := by decide +kernel
theorem dX8_setLines_25 : decode cX8_setLines 25 = .ok (.ifCond .eq 14, 3) := by decide +kernel
theorem dX8_setLines_28 : decode cX8_setLines 28 = .ok (.iload 4, 2) := by decide +kernel
theorem dX8_setLines_30 : decode cX8_setLines 30 = .ok (.iconst 1, 1) := by decide +kernel
theorem dX8_setLines_31 : decode cX8_setLines 31 = .ok (.bipush 9, 2) := by decide +kernel
theorem dX8_setLines_33 : decode cX8_setLines 33 = .ok (.invokestatic 53, 3) := by decide +kernel
theorem dX8_setLines_36 : decode cX8_setLines 36 = .ok (.ifCond .ne 6, 3) := by decide +kernel
theorem dX8_setLines_39 : decode cX8_setLines 39 = .ok (.bipush (-3), 2) := by decide +kernel
theorem dX8_setLines_41 : decode cX8_setLines 41 = .ok (.ireturn, 1) := by decide +kernel
theorem dX8_setLines_42 : decode cX8_setLines 42 = .ok (.aload_n 0, 1) := by decide +kernel
theorem dX8_setLines_43 : decode cX8_setLines 43 = .ok (.invokevirtual 68, 3) := by decide +kernel
theorem dX8_setLines_46 : decode cX8_setLines 46 = .ok (.aload_n 0, 1) := by decide +kernel
theorem dX8_setLines_47 : decode cX8_setLines 47 = .ok (.getfield 7, 3) := by decide +kernel
theorem dX8_setLines_50 : decode cX8_setLines 50 = .ok (.bipush 78, 2) := by decide +kernel
theorem dX8_setLines_52 : decode cX8_setLines 52 = .ok (.iaload, 1) := by decide +kernel
theorem dX8_setLines_53 : decode cX8_setLines 53 = .ok (.istore 5, 2) := by decide +kernel
theorem dX8_setLines_55 : decode cX8_setLines 55 = .ok (.aload_n 0, 1) := by decide +kernel
theorem dX8_setLines_56 : decode cX8_setLines 56 = .ok (.getfield 7, 3) := by decide +kernel
theorem dX8_setLines_59 : decode cX8_setLines 59 = .ok (.bipush 78, 2) := by decide +kernel
theorem dX8_setLines_61 : decode cX8_setLines 61 = .ok (.iload_n 1, 1) := by decide +kernel
theorem dX8_setLines_62 : decode cX8_setLines 62 = .ok (.iastore, 1) := by decide +kernel
theorem dX8_setLines_63 : decode cX8_setLines 63 = .ok (.aload_n 0, 1) := by decide +kernel
theorem dX8_setLines_64 : decode cX8_setLines 64 = .ok (.getfield 7, 3) := by decide +kernel
theorem dX8_setLines_67 : decode cX8_setLines 67 = .ok (.bipush 79, 2) := by decide +kernel
theorem dX8_setLines_69 : decode cX8_setLines 69 = .ok (.iload_n 2, 1) := by decide +kernel
theorem dX8_setLines_70 : decode cX8_setLines 70 = .ok (.iastore, 1) := by decide +kernel
theorem dX8_setLines_71 : decode cX8_setLines 71 = .ok (.aload_n 0, 1) := by decide +kernel
theorem dX8_setLines_72 : decode cX8_setLines 72 = .ok (.getfield 7, 3) := by decide +kernel
theorem dX8_setLines_75 : decode cX8_setLines 75 = .ok (.bipush 80, 2) := by decide +kernel
theorem dX8_setLines_77 : decode cX8_setLines 77 = .ok (.iload_n 3, 1) := by decide +kernel
theorem dX8_setLines_78 : decode cX8_setLines 78 = .ok (.iastore, 1) := by decide +kernel
theorem dX8_setLines_79 : decode cX8_setLines 79 = .ok (.aload_n 0, 1) := by decide +kernel
theorem dX8_setLines_80 : decode cX8_setLines 80 = .ok (.getfield 7, 3) := by decide +kernel
theorem dX8_setLines_83 : decode cX8_setLines 83 = .ok (.bipush 81, 2) := by decide +kernel
theorem dX8_setLines_85 : decode cX8_setLines 85 = .ok (.iload 4, 2) := by decide +kernel
theorem dX8_setLines_87 : decode cX8_setLines 87 = .ok (.iastore, 1) := by decide +kernel
theorem dX8_setLines_88 : decode cX8_setLines 88 = .ok (.iload 5, 2) := by decide +kernel
theorem dX8_setLines_90 : decode cX8_setLines 90 = .ok (.ireturn, 1) := by decide +kernel
theorem dX8_count_0 : decode cX8_count 0 = .ok (.iload_n 1, 1) := by decide +kernel
theorem dX8_count_1 : decode cX8_count 1 = .ok (.iconst 0, 1) := by decide +kernel
theorem dX8_count_2 : decode cX8_count 2 = .ok (.bipush 11, 2) := by decide +kernel
theorem dX8_count_4 : decode cX8_count 4 = .ok (.invokestatic 53, 3) := by decide +kernel
theorem dX8_count_7 : decode cX8_count 7 = .ok (.ifCond .ne 6, 3) := by decide +kernel
theorem dX8_count_10 : decode cX8_count 10 = .ok (.bipush (-3), 2) := by decide +kernel
theorem dX8_count_12 : decode cX8_count 12 = .ok (.ireturn, 1) := by decide +kernel
theorem dX8_count_13 : decode cX8_count 13 = .ok (.iload_n 1, 1) := by decide +kernel
theorem dX8_count_14 : decode cX8_count 14 = .ok (.ifCond .ne 12, 3) := by decide +kernel
theorem dX8_count_17 : decode cX8_count 17 = .ok (.aload_n 0, 1) := by decide +kernel
theorem dX8_count_18 : decode cX8_count 18 = .ok (.getfield 7, 3) := by decide +kernel
theorem dX8_count_21 : decode cX8_count 21 = .ok (.iconst 0, 1) := by decide +kernel
theorem dX8_count_22 : decode cX8_count 22 = .ok (.iaload, 1) := by decide +kernel
theorem dX8_count_23 : decode cX8_count 23 = .ok (.goto 58, 3) := by decide +kernel
theorem dX8_count_26 : decode cX8_count 26 = .ok (.iload_n 1, 1) := by decide +kernel
theorem dX8_count_27 : decode cX8_count 27 = .ok (.iconst 1, 1) := by decide +kernel
theorem dX8_count_28 : decode cX8_count 28 = .ok (.if_icmp .ne 13, 3) := by decide +kernel
theorem dX8_count_31 : decode cX8_count 31 = .ok (.aload_n 0, 1) := by decide +kernel
theorem dX8_count_32 : decode cX8_count 32 = .ok (.getfield 7, 3) := by decide +kernel
theorem dX8_count_35 : decode cX8_count 35 = .ok (.bipush 31, 2) := by decide +kernel
theorem dX8_count_37 : decode cX8_count 37 = .ok (.iaload, 1) := by decide +kernel
theorem dX8_count_38 : decode cX8_count 38 = .ok (.goto 43, 3) := by decide +kernel
theorem dX8_count_41 : decode cX8_count 41 = .ok (.iload_n 1, 1) := by decide +kernel
theorem dX8_count_42 : decode cX8_count 42 = .ok (.bipush 10, 2) := by decide +kernel
theorem dX8_count_44 : decode cX8_count 44 = .ok (.if_icmp .ge 17, 3) := by decide +kernel
theorem dX8_count_47 : decode cX8_count 47 = .ok (.aload_n 0, 1) := by decide +kernel
theorem dX8_count_48 : decode cX8_count 48 = .ok (.getfield 7, 3) := by decide +kernel
theorem dX8_count_51 : decode cX8_count 51 = .ok (.bipush 74, 2) := by decide +kernel
theorem dX8_count_53 : decode cX8_count 53 = .ok (.iload_n 1, 1) := by decide +kernel
theorem dX8_count_54 : decode cX8_count 54 = .ok (.iadd, 1) := by decide +kernel
theorem dX8_count_55 : decode cX8_count 55 = .ok (.iconst 2, 1) := by decide +kernel
theorem dX8_count_56 : decode cX8_count 56 = .ok (.isub, 1) := by decide +kernel
theorem dX8_count_57 : decode cX8_count 57 = .ok (.iaload, 1) := by decide +kernel
theorem dX8_count_58 : decode cX8_count 58 = .ok (.goto 23, 3) := by decide +kernel
theorem dX8_count_61 : decode cX8_count 61 = .ok (.iload_n 1, 1) := by decide +kernel
theorem dX8_count_62 : decode cX8_count 62 = .ok (.bipush 10, 2) := by decide +kernel
theorem dX8_count_64 : decode cX8_count 64 = .ok (.if_icmp .ne 10, 3) := by decide +kernel
theorem dX8_count_67 : decode cX8_count 67 = .ok (.aload_n 0, 1) := by decide +kernel
theorem dX8_count_68 : decode cX8_count 68 = .ok (.invokevirtual 75, 3) := by decide +kernel
theorem dX8_count_71 : decode cX8_count 71 = .ok (.goto 10, 3) := by decide +kernel
theorem dX8_count_74 : decode cX8_count 74 = .ok (.aload_n 0, 1) := by decide +kernel
theorem dX8_count_75 : decode cX8_count 75 = .ok (.getfield 7, 3) := by decide +kernel
theorem dX8_count_78 : decode cX8_count 78 = .ok (.bipush 82, 2) := by decide +kernel
theorem dX8_count_80 : decode cX8_count 80 = .ok (.iaload, 1) := by decide +kernel
theorem dX8_count_81 : decode cX8_count 81 = .ok (.ireturn, 1) := by decide +kernel
theorem dX8_word_0 : decode cX8_word 0 = .ok (.aload_n 0, 1) := by decide +kernel
theorem dX8_word_1 : decode cX8_word 1 = .ok (.iload_n 1, 1) := by decide +kernel
theorem dX8_word_2 : decode cX8_word 2 = .ok (.invokevirtual 90, 3) := by decide +kernel
theorem dX8_word_5 : decode cX8_word 5 = .ok (.ifCond .ne 6, 3) := by decide +kernel
theorem dX8_word_8 : decode cX8_word 8 = .ok (.bipush (-2), 2) := by decide +kernel
theorem dX8_word_10 : decode cX8_word 10 = .ok (.ireturn, 1) := by decide +kernel
theorem dX8_word_11 : decode cX8_word 11 = .ok (.iload_n 2, 1) := by decide +kernel
theorem dX8_word_12 : decode cX8_word 12 = .ok (.iconst 0, 1) := by decide +kernel
theorem dX8_word_13 : decode cX8_word 13 = .ok (.iconst 2, 1) := by decide +kernel
theorem dX8_word_14 : decode cX8_word 14 = .ok (.invokestatic 53, 3) := by decide +kernel
theorem dX8_word_17 : decode cX8_word 17 = .ok (.ifCond .eq 12, 3) := by decide +kernel
theorem dX8_word_20 : decode cX8_word 20 = .ok (.aload_n 0, 1) := by decide +kernel
theorem dX8_word_21 : decode cX8_word 21 = .ok (.iload_n 1, 1) := by decide +kernel
theorem dX8_word_22 : decode cX8_word 22 = .ok (.iload_n 2, 1) := by decide +kernel
theorem dX8_word_23 : decode cX8_word 23 = .ok (.invokevirtual 93, 3) := by decide +kernel
theorem dX8_word_26 : decode cX8_word 26 = .ok (.goto 5, 3) := by decide +kernel
theorem dX8_word_29 : decode cX8_word 29 = .ok (.bipush (-3), 2) := by decide +kernel
theorem dX8_word_31 : decode cX8_word 31 = .ok (.ireturn, 1) := by decide +kernel
theorem dX8_sizeOf_0 : decode cX8_sizeOf 0 = .ok (.iload_n 2, 1) := by decide +kernel
theorem dX8_sizeOf_1 : decode cX8_sizeOf 1 = .ok (.aload_n 0, 1) := by decide +kernel
theorem dX8_sizeOf_2 : decode cX8_sizeOf 2 = .ok (.iload_n 1, 1) := by decide +kernel
theorem dX8_sizeOf_3 : decode cX8_sizeOf 3 = .ok (.iconst 1, 1) := by decide +kernel
theorem dX8_sizeOf_4 : decode cX8_sizeOf 4 = .ok (.invokevirtual 93, 3) := by decide +kernel
theorem dX8_sizeOf_7 : decode cX8_sizeOf 7 = .ok (.iconst 1, 1) := by decide +kernel
theorem dX8_sizeOf_8 : decode cX8_sizeOf 8 = .ok (.isub, 1) := by decide +kernel
theorem dX8_sizeOf_9 : decode cX8_sizeOf 9 = .ok (.aload_n 0, 1) := by decide +kernel
theorem dX8_sizeOf_10 : decode cX8_sizeOf 10 = .ok (.getfield 7, 3) := by decide +kernel
theorem dX8_sizeOf_13 : decode cX8_sizeOf 13 = .ok (.bipush 74, 2) := by decide +kernel
theorem dX8_sizeOf_15 : decode cX8_sizeOf 15 = .ok (.iaload, 1) := by decide +kernel
theorem dX8_sizeOf_16 : decode cX8_sizeOf 16 = .ok (.imul, 1) := by decide +kernel
theorem dX8_sizeOf_17 : decode cX8_sizeOf 17 = .ok (.iadd, 1) := by decide +kernel
theorem dX8_sizeOf_18 : decode cX8_sizeOf 18 = .ok (.ireturn, 1) := by decide +kernel
theorem dX8_isLeast_0 : decode cX8_isLeast 0 = .ok (.aload_n 0, 1) := by decide +kernel
theorem dX8_isLeast_1 : decode cX8_isLeast 1 = .ok (.getfield 7, 3) := by decide +kernel
theorem dX8_isLeast_4 : decode cX8_isLeast 4 = .ok (.bipush 31, 2) := by decide +kernel
theorem dX8_isLeast_6 : decode cX8_isLeast 6 = .ok (.iaload, 1) := by decide +kernel
theorem dX8_isLeast_7 : decode cX8_isLeast 7 = .ok (.ifCond .le 7, 3) := by decide +kernel
theorem dX8_isLeast_10 : decode cX8_isLeast 10 = .ok (.iconst 1, 1) := by decide +kernel
theorem dX8_isLeast_11 : decode cX8_isLeast 11 = .ok (.goto 4, 3) := by decide +kernel
theorem dX8_isLeast_14 : decode cX8_isLeast 14 = .ok (.iconst 0, 1) := by decide +kernel
theorem dX8_isLeast_15 : decode cX8_isLeast 15 = .ok (.istore_n 2, 1) := by decide +kernel
theorem dX8_isLeast_16 : decode cX8_isLeast 16 = .ok (.iconst 0, 1) := by decide +kernel
theorem dX8_isLeast_17 : decode cX8_isLeast 17 = .ok (.istore_n 3, 1) := by decide +kernel
theorem dX8_isLeast_18 : decode cX8_isLeast 18 = .ok (.iload_n 3, 1) := by decide +kernel
theorem dX8_isLeast_19 : decode cX8_isLeast 19 = .ok (.aload_n 0, 1) := by decide +kernel
theorem dX8_isLeast_20 : decode cX8_isLeast 20 = .ok (.getfield 7, 3) := by decide +kernel
theorem dX8_isLeast_23 : decode cX8_isLeast 23 = .ok (.bipush 31, 2) := by decide +kernel
theorem dX8_isLeast_25 : decode cX8_isLeast 25 = .ok (.iaload, 1) := by decide +kernel
theorem dX8_isLeast_26 : decode cX8_isLeast 26 = .ok (.if_icmp .ge 44, 3) := by decide +kernel
theorem dX8_isLeast_29 : decode cX8_isLeast 29 = .ok (.iload_n 2, 1) := by decide +kernel
theorem dX8_isLeast_30 : decode cX8_isLeast 30 = .ok (.ifCond .eq 32, 3) := by decide +kernel
theorem dX8_isLeast_33 : decode cX8_isLeast 33 = .ok (.aload_n 0, 1) := by decide +kernel
theorem dX8_isLeast_34 : decode cX8_isLeast 34 = .ok (.iload_n 3, 1) := by decide +kernel
theorem dX8_isLeast_35 : decode cX8_isLeast 35 = .ok (.iload_n 1, 1) := by decide +kernel
theorem dX8_isLeast_36 : decode cX8_isLeast 36 = .ok (.invokevirtual 96, 3) := by decide +kernel
theorem dX8_isLeast_39 : decode cX8_isLeast 39 = .ok (.aload_n 0, 1) := by decide +kernel
theorem dX8_isLeast_40 : decode cX8_isLeast 40 = .ok (.getfield 7, 3) := by decide +kernel
theorem dX8_isLeast_43 : decode cX8_isLeast 43 = .ok (.bipush 75, 2) := by decide +kernel
theorem dX8_isLeast_45 : decode cX8_isLeast 45 = .ok (.aload_n 0, 1) := by decide +kernel
theorem dX8_isLeast_46 : decode cX8_isLeast 46 = .ok (.iload_n 3, 1) := by decide +kernel
theorem dX8_isLeast_47 : decode cX8_isLeast 47 = .ok (.iconst 1, 1) := by decide +kernel
theorem dX8_isLeast_48 : decode cX8_isLeast 48 = .ok (.invokevirtual 93, 3) := by decide +kernel
theorem dX8_isLeast_51 : decode cX8_isLeast 51 = .ok (.iadd, 1) := by decide +kernel
theorem dX8_isLeast_52 : decode cX8_isLeast 52 = .ok (.iconst 1, 1) := by decide +kernel
theorem dX8_isLeast_53 : decode cX8_isLeast 53 = .ok (.isub, 1) := by decide +kernel
theorem dX8_isLeast_54 : decode cX8_isLeast 54 = .ok (.iaload, 1) := by decide +kernel
theorem dX8_isLeast_55 : decode cX8_isLeast 55 = .ok (.if_icmp .lt 7, 3) := by decide +kernel
theorem dX8_isLeast_58 : decode cX8_isLeast 58 = .ok (.iconst 1, 1) := by decide +kernel
theorem dX8_isLeast_59 : decode cX8_isLeast 59 = .ok (.goto 4, 3) := by decide +kernel
theorem dX8_isLeast_62 : decode cX8_isLeast 62 = .ok (.iconst 0, 1) := by decide +kernel
theorem dX8_isLeast_63 : decode cX8_isLeast 63 = .ok (.istore_n 2, 1) := by decide +kernel
theorem dX8_isLeast_64 : decode cX8_isLeast 64 = .ok (.iinc 3 1, 3) := by decide +kernel
theorem dX8_isLeast_67 : decode cX8_isLeast 67 = .ok (.goto (-49), 3) := by decide +kernel
theorem dX8_isLeast_70 : decode cX8_isLeast 70 = .ok (.iload_n 2, 1) := by decide +kernel
theorem dX8_isLeast_71 : decode cX8_isLeast 71 = .ok (.ireturn, 1) := by decide +kernel
theorem dX8_breaks_0 : decode cX8_breaks 0 = .ok (.iload_n 2, 1) := by decide +kernel
theorem dX8_breaks_1 : decode cX8_breaks 1 = .ok (.ifCond .eq 22, 3) := by decide +kernel
theorem dX8_breaks_4 : decode cX8_breaks 4 = .ok (.iload_n 1, 1) := by decide +kernel
theorem dX8_breaks_5 : decode cX8_breaks 5 = .ok (.aload_n 0, 1) := by decide +kernel
theorem dX8_breaks_6 : decode cX8_breaks 6 = .ok (.getfield 7, 3) := by decide +kernel
theorem dX8_breaks_9 : decode cX8_breaks 9 = .ok (.bipush 31, 2) := by decide +kernel
theorem dX8_breaks_11 : decode cX8_breaks 11 = .ok (.iaload, 1) := by decide +kernel
theorem dX8_breaks_12 : decode cX8_breaks 12 = .ok (.iconst 1, 1) := by decide +kernel
theorem dX8_breaks_13 : decode cX8_breaks 13 = .ok (.isub, 1) := by decide +kernel
theorem dX8_breaks_14 : decode cX8_breaks 14 = .ok (.iload_n 2, 1) := by decide +kernel
theorem dX8_breaks_15 : decode cX8_breaks 15 = .ok (.isub, 1) := by decide +kernel
theorem dX8_breaks_16 : decode cX8_breaks 16 = .ok (.ishr, 1) := by decide +kernel
theorem dX8_breaks_17 : decode cX8_breaks 17 = .ok (.iconst 1, 1) := by decide +kernel
theorem dX8_breaks_18 : decode cX8_breaks 18 = .ok (.iand, 1) := by decide +kernel
theorem dX8_breaks_19 : decode cX8_breaks 19 = .ok (.iconst 1, 1) := by decide +kernel
theorem dX8_breaks_20 : decode cX8_breaks 20 = .ok (.if_icmp .ne 7, 3) := by decide +kernel
theorem dX8_breaks_23 : decode cX8_breaks 23 = .ok (.iconst 1, 1) := by decide +kernel
theorem dX8_breaks_24 : decode cX8_breaks 24 = .ok (.goto 4, 3) := by decide +kernel
theorem dX8_breaks_27 : decode cX8_breaks 27 = .ok (.iconst 0, 1) := by decide +kernel
theorem dX8_breaks_28 : decode cX8_breaks 28 = .ok (.ireturn, 1) := by decide +kernel
theorem dX8_least_0 : decode cX8_least 0 = .ok (.iload_n 0, 1) := by decide +kernel
theorem dX8_least_1 : decode cX8_least 1 = .ok (.iload_n 1, 1) := by decide +kernel
theorem dX8_least_2 : decode cX8_least 2 = .ok (.if_icmp .ge 7, 3) := by decide +kernel
theorem dX8_least_5 : decode cX8_least 5 = .ok (.iload_n 0, 1) := by decide +kernel
theorem dX8_least_6 : decode cX8_least 6 = .ok (.goto 4, 3) := by decide +kernel
theorem dX8_least_9 : decode cX8_least 9 = .ok (.iload_n 1, 1) := by decide +kernel
theorem dX8_least_10 : decode cX8_least 10 = .ok (.ireturn, 1) := by decide +kernel
theorem dX8_lays_0 : decode cX8_lays 0 = .ok (.aload_n 0, 1) := by decide +kernel
theorem dX8_lays_1 : decode cX8_lays 1 = .ok (.iconst 0, 1) := by decide +kernel
theorem dX8_lays_2 : decode cX8_lays 2 = .ok (.putfield 99, 3) := by decide +kernel
theorem dX8_lays_5 : decode cX8_lays 5 = .ok (.aload_n 0, 1) := by decide +kernel
theorem dX8_lays_6 : decode cX8_lays 6 = .ok (.iconst 0, 1) := by decide +kernel
theorem dX8_lays_7 : decode cX8_lays 7 = .ok (.putfield 102, 3) := by decide +kernel
theorem dX8_lays_10 : decode cX8_lays 10 = .ok (.iconst 0, 1) := by decide +kernel
theorem dX8_lays_11 : decode cX8_lays 11 = .ok (.istore_n 3, 1) := by decide +kernel
theorem dX8_lays_12 : decode cX8_lays 12 = .ok (.aload_n 0, 1) := by decide +kernel
theorem dX8_lays_13 : decode cX8_lays 13 = .ok (.getfield 7, 3) := by decide +kernel
theorem dX8_lays_16 : decode cX8_lays 16 = .ok (.bipush 78, 2) := by decide +kernel
theorem dX8_lays_18 : decode cX8_lays 18 = .ok (.iaload, 1) := by decide +kernel
theorem dX8_lays_19 : decode cX8_lays 19 = .ok (.istore 4, 2) := by decide +kernel
theorem dX8_lays_21 : decode cX8_lays 21 = .ok (.iconst 0, 1) := by decide +kernel
theorem dX8_lays_22 : decode cX8_lays 22 = .ok (.istore 5, 2) := by decide +kernel
theorem dX8_lays_24 : decode cX8_lays 24 = .ok (.iload 5, 2) := by decide +kernel
theorem dX8_lays_26 : decode cX8_lays 26 = .ok (.aload_n 0, 1) := by decide +kernel
theorem dX8_lays_27 : decode cX8_lays 27 = .ok (.getfield 7, 3) := by decide +kernel
theorem dX8_lays_30 : decode cX8_lays 30 = .ok (.bipush 31, 2) := by decide +kernel
theorem dX8_lays_32 : decode cX8_lays 32 = .ok (.iaload, 1) := by decide +kernel
theorem dX8_lays_33 : decode cX8_lays 33 = .ok (.if_icmp .ge 355, 3) := by decide +kernel
theorem dX8_lays_36 : decode cX8_lays 36 = .ok (.iload 5, 2) := by decide +kernel
theorem dX8_lays_38 : decode cX8_lays 38 = .ok (.istore 6, 2) := by decide +kernel
theorem dX8_lays_40 : decode cX8_lays 40 = .ok (.iconst 0, 1) := by decide +kernel
theorem dX8_lays_41 : decode cX8_lays 41 = .ok (.istore 7, 2) := by decide +kernel
theorem dX8_lays_43 : decode cX8_lays 43 = .ok (.iconst 0, 1) := by decide +kernel
theorem dX8_lays_44 : decode cX8_lays 44 = .ok (.istore 8, 2) := by decide +kernel
theorem dX8_lays_46 : decode cX8_lays 46 = .ok (.iconst 1, 1) := by decide +kernel
theorem dX8_lays_47 : decode cX8_lays 47 = .ok (.istore 9, 2) := by decide +kernel
theorem dX8_lays_49 : decode cX8_lays 49 = .ok (.iload 9, 2) := by decide +kernel
theorem dX8_lays_51 : decode cX8_lays 51 = .ok (.ifCond .eq 128, 3) := by decide +kernel
theorem dX8_lays_54 : decode cX8_lays 54 = .ok (.aload_n 0, 1) := by decide +kernel
theorem dX8_lays_55 : decode cX8_lays 55 = .ok (.iload 5, 2) := by decide +kernel
theorem dX8_lays_57 : decode cX8_lays 57 = .ok (.iload_n 1, 1) := by decide +kernel
theorem dX8_lays_58 : decode cX8_lays 58 = .ok (.invokevirtual 96, 3) := by decide +kernel
theorem dX8_lays_61 : decode cX8_lays 61 = .ok (.istore 10, 2) := by decide +kernel
theorem dX8_lays_63 : decode cX8_lays 63 = .ok (.iload 8, 2) := by decide +kernel
theorem dX8_lays_65 : decode cX8_lays 65 = .ok (.aload_n 0, 1) := by decide +kernel
theorem dX8_lays_66 : decode cX8_lays 66 = .ok (.iload 5, 2) := by decide +kernel
theorem dX8_lays_68 : decode cX8_lays 68 = .ok (.iconst 0, 1) := by decide +kernel
theorem dX8_lays_69 : decode cX8_lays 69 = .ok (.invokevirtual 93, 3) := by decide +kernel
theorem dX8_lays_72 : decode cX8_lays 72 = .ok (.iload 10, 2) := by decide +kernel
theorem dX8_lays_74 : decode cX8_lays 74 = .ok (.imul, 1) := by decide +kernel
theorem dX8_lays_75 : decode cX8_lays 75 = .ok (.iload 5, 2) := by decide +kernel
theorem dX8_lays_77 : decode cX8_lays 77 = .ok (.iload 6, 2) := by decide +kernel
theorem dX8_lays_79 : decode cX8_lays 79 = .ok (.if_icmp .le 20, 3) := by decide +kernel
theorem dX8_lays_82 : decode cX8_lays 82 = .ok (.iload 10, 2) := by decide +kernel
theorem dX8_lays_84 : decode cX8_lays 84 = .ok (.aload_n 0, 1) := by decide +kernel
theorem dX8_lays_85 : decode cX8_lays 85 = .ok (.iload 5, 2) := by decide +kernel
theorem dX8_lays_87 : decode cX8_lays 87 = .ok (.iconst 1, 1) := by decide +kernel
theorem dX8_lays_88 : decode cX8_lays 88 = .ok (.isub, 1) := by decide +kernel
theorem dX8_lays_89 : decode cX8_lays 89 = .ok (.iload_n 1, 1) := by decide +kernel
theorem dX8_lays_90 : decode cX8_lays 90 = .ok (.invokevirtual 96, 3) := by decide +kernel
theorem dX8_lays_93 : decode cX8_lays 93 = .ok (.invokestatic 105, 3) := by decide +kernel
theorem dX8_lays_96 : decode cX8_lays 96 = .ok (.goto 4, 3) := by decide +kernel
theorem dX8_lays_99 : decode cX8_lays 99 = .ok (.iconst 0, 1) := by decide +kernel
theorem dX8_lays_100 : decode cX8_lays 100 = .ok (.iadd, 1) := by decide +kernel
theorem dX8_lays_101 : decode cX8_lays 101 = .ok (.iadd, 1) := by decide +kernel
theorem dX8_lays_102 : decode cX8_lays 102 = .ok (.istore 8, 2) := by decide +kernel
theorem dX8_lays_104 : decode cX8_lays 104 = .ok (.iload 10, 2) := by decide +kernel
theorem dX8_lays_106 : decode cX8_lays 106 = .ok (.iload 7, 2) := by decide +kernel
theorem dX8_lays_108 : decode cX8_lays 108 = .ok (.if_icmp .le 8, 3) := by decide +kernel
theorem dX8_lays_111 : decode cX8_lays 111 = .ok (.iload 10, 2) := by decide +kernel
theorem dX8_lays_113 : decode cX8_lays 113 = .ok (.goto 5, 3) := by decide +kernel
theorem dX8_lays_116 : decode cX8_lays 116 = .ok (.iload 7, 2) := by decide +kernel
theorem dX8_lays_118 : decode cX8_lays 118 = .ok (.istore 7, 2) := by decide +kernel
theorem dX8_lays_120 : decode cX8_lays 120 = .ok (.iinc 5 1, 3) := by decide +kernel
theorem dX8_lays_123 : decode cX8_lays 123 = .ok (.iload 5, 2) := by decide +kernel
theorem dX8_lays_125 : decode cX8_lays 125 = .ok (.aload_n 0, 1) := by decide +kernel
theorem dX8_lays_126 : decode cX8_lays 126 = .ok (.getfield 7, 3) := by decide +kernel
theorem dX8_lays_129 : decode cX8_lays 129 = .ok (.bipush 31, 2) := by decide +kernel
theorem dX8_lays_131 : decode cX8_lays 131 = .ok (.iaload, 1) := by decide +kernel
theorem dX8_lays_132 : decode cX8_lays 132 = .ok (.if_icmp .ge 17, 3) := by decide +kernel
theorem dX8_lays_135 : decode cX8_lays 135 = .ok (.aload_n 0, 1) := by decide +kernel
theorem dX8_lays_136 : decode cX8_lays 136 = .ok (.iload_n 2, 1) := by decide +kernel
theorem dX8_lays_137 : decode cX8_lays 137 = .ok (.iload 5, 2) := by decide +kernel
theorem dX8_lays_139 : decode cX8_lays 139 = .ok (.invokevirtual 108, 3) := by decide +kernel
theorem dX8_lays_142 : decode cX8_lays 142 = .ok (.ifCond .ne 7, 3) := by decide +kernel
theorem dX8_lays_145 : decode cX8_lays 145 = .ok (.iconst 1, 1) := by decide +kernel
theorem dX8_lays_146 : decode cX8_lays 146 = .ok (.goto 4, 3) := by decide +kernel
theorem dX8_lays_149 : decode cX8_lays 149 = .ok (.iconst 0, 1) := by decide +kernel
theorem dX8_lays_150 : decode cX8_lays 150 = .ok (.istore 9, 2) := by decide +kernel
theorem dX8_lays_152 : decode cX8_lays 152 = .ok (.aload_n 0, 1) := by decide +kernel
theorem dX8_lays_153 : decode cX8_lays 153 = .ok (.iload 5, 2) := by decide +kernel
theorem dX8_lays_155 : decode cX8_lays 155 = .ok (.putfield 111, 3) := by decide +kernel
theorem dX8_lays_158 : decode cX8_lays 158 = .ok (.iload 9, 2) := by decide +kernel
theorem dX8_lays_160 : decode cX8_lays 160 = .ok (.ifCond .eq 16, 3) := by decide +kernel
theorem dX8_lays_163 : decode cX8_lays 163 = .ok (.aload_n 0, 1) := by decide +kernel
theorem dX8_lays_164 : decode cX8_lays 164 = .ok (.iload 5, 2) := by decide +kernel
theorem dX8_lays_166 : decode cX8_lays 166 = .ok (.iconst 2, 1) := by decide +kernel
theorem dX8_lays_167 : decode cX8_lays 167 = .ok (.invokevirtual 93, 3) := by decide +kernel
theorem dX8_lays_170 : decode cX8_lays 170 = .ok (.iconst 1, 1) := by decide +kernel
theorem dX8_lays_171 : decode cX8_lays 171 = .ok (.if_icmp .ne 5, 3) := by decide +kernel
theorem dX8_lays_174 : decode cX8_lays 174 = .ok (.iconst (-1), 1) := by decide +kernel
theorem dX8_lays_175 : decode cX8_lays 175 = .ok (.ireturn, 1) := by decide +kernel
theorem dX8_lays_176 : decode cX8_lays 176 = .ok (.goto (-127), 3) := by decide +kernel
theorem dX8_lays_179 : decode cX8_lays 179 = .ok (.iload 4, 2) := by decide +kernel
theorem dX8_lays_181 : decode cX8_lays 181 = .ok (.iload 7, 2) := by decide +kernel
theorem dX8_lays_183 : decode cX8_lays 183 = .ok (.iadd, 1) := by decide +kernel
theorem dX8_lays_184 : decode cX8_lays 184 = .ok (.bipush 36, 2) := by decide +kernel
theorem dX8_lays_186 : decode cX8_lays 186 = .ok (.if_icmp .le 5, 3) := by decide +kernel
theorem dX8_lays_189 : decode cX8_lays 189 = .ok (.iconst (-1), 1) := by decide +kernel
theorem dX8_lays_190 : decode cX8_lays 190 = .ok (.ireturn, 1) := by decide +kernel
theorem dX8_lays_191 : decode cX8_lays 191 = .ok (.aload_n 0, 1) := by decide +kernel
theorem dX8_lays_192 : decode cX8_lays 192 = .ok (.getfield 13, 3) := by decide +kernel
theorem dX8_lays_195 : decode cX8_lays 195 = .ok (.bipush 36, 2) := by decide +kernel
theorem dX8_lays_197 : decode cX8_lays 197 = .ok (.iload 7, 2) := by decide +kernel
theorem dX8_lays_199 : decode cX8_lays 199 = .ok (.iconst 1, 1) := by decide +kernel
theorem dX8_lays_200 : decode cX8_lays 200 = .ok (.isub, 1) := by decide +kernel
theorem dX8_lays_201 : decode cX8_lays 201 = .ok (.imul, 1) := by decide +kernel
theorem dX8_lays_202 : decode cX8_lays 202 = .ok (.iload 4, 2) := by decide +kernel
theorem dX8_lays_204 : decode cX8_lays 204 = .ok (.iadd, 1) := by decide +kernel
theorem dX8_lays_205 : decode cX8_lays 205 = .ok (.iaload, 1) := by decide +kernel
theorem dX8_lays_206 : decode cX8_lays 206 = .ok (.iload 8, 2) := by decide +kernel
theorem dX8_lays_208 : decode cX8_lays 208 = .ok (.isub, 1) := by decide +kernel
theorem dX8_lays_209 : decode cX8_lays 209 = .ok (.istore 10, 2) := by decide +kernel
theorem dX8_lays_211 : decode cX8_lays 211 = .ok (.iload 10, 2) := by decide +kernel
theorem dX8_lays_213 : decode cX8_lays 213 = .ok (.ifCond .ge 5, 3) := by decide +kernel
theorem dX8_lays_216 : decode cX8_lays 216 = .ok (.iconst (-1), 1) := by decide +kernel
theorem dX8_lays_217 : decode cX8_lays 217 = .ok (.ireturn, 1) := by decide +kernel
theorem dX8_lays_218 : decode cX8_lays 218 = .ok (.iload_n 3, 1) := by decide +kernel
theorem dX8_lays_219 : decode cX8_lays 219 = .ok (.iload 10, 2) := by decide +kernel
theorem dX8_lays_221 : decode cX8_lays 221 = .ok (.iload 10, 2) := by decide +kernel
theorem dX8_lays_223 : decode cX8_lays 223 = .ok (.imul, 1) := by decide +kernel
theorem dX8_lays_224 : decode cX8_lays 224 = .ok (.iadd, 1) := by decide +kernel
theorem dX8_lays_225 : decode cX8_lays 225 = .ok (.istore_n 3, 1) := by decide +kernel
theorem dX8_lays_226 : decode cX8_lays 226 = .ok (.bipush 7, 2) := by decide +kernel
theorem dX8_lays_228 : decode cX8_lays 228 = .ok (.aload_n 0, 1) := by decide +kernel
theorem dX8_lays_229 : decode cX8_lays 229 = .ok (.getfield 99, 3) := by decide +kernel
theorem dX8_lays_232 : decode cX8_lays 232 = .ok (.imul, 1) := by decide +kernel
theorem dX8_lays_233 : decode cX8_lays 233 = .ok (.istore 11, 2) := by decide +kernel
theorem dX8_lays_235 : decode cX8_lays 235 = .ok (.aload_n 0, 1) := by decide +kernel
theorem dX8_lays_236 : decode cX8_lays 236 = .ok (.getfield 23, 3) := by decide +kernel
theorem dX8_lays_239 : decode cX8_lays 239 = .ok (.iload 11, 2) := by decide +kernel
theorem dX8_lays_241 : decode cX8_lays 241 = .ok (.iload 6, 2) := by decide +kernel
theorem dX8_lays_243 : decode cX8_lays 243 = .ok (.iastore, 1) := by decide +kernel
theorem dX8_lays_244 : decode cX8_lays 244 = .ok (.aload_n 0, 1) := by decide +kernel
theorem dX8_lays_245 : decode cX8_lays 245 = .ok (.getfield 23, 3) := by decide +kernel
theorem dX8_lays_248 : decode cX8_lays 248 = .ok (.iload 11, 2) := by decide +kernel
theorem dX8_lays_250 : decode cX8_lays 250 = .ok (.iconst 1, 1) := by decide +kernel
theorem dX8_lays_251 : decode cX8_lays 251 = .ok (.iadd, 1) := by decide +kernel
theorem dX8_lays_252 : decode cX8_lays 252 = .ok (.iload 5, 2) := by decide +kernel
theorem dX8_lays_254 : decode cX8_lays 254 = .ok (.iload 6, 2) := by decide +kernel
theorem dX8_lays_256 : decode cX8_lays 256 = .ok (.isub, 1) := by decide +kernel
theorem dX8_lays_257 : decode cX8_lays 257 = .ok (.iastore, 1) := by decide +kernel
theorem dX8_lays_258 : decode cX8_lays 258 = .ok (.aload_n 0, 1) := by decide +kernel
theorem dX8_lays_259 : decode cX8_lays 259 = .ok (.getfield 23, 3) := by decide +kernel
theorem dX8_lays_262 : decode cX8_lays 262 = .ok (.iload 11, 2) := by decide +kernel
theorem dX8_lays_264 : decode cX8_lays 264 = .ok (.iconst 2, 1) := by decide +kernel
theorem dX8_lays_265 : decode cX8_lays 265 = .ok (.iadd, 1) := by decide +kernel
theorem dX8_lays_266 : decode cX8_lays 266 = .ok (.iload 4, 2) := by decide +kernel
theorem dX8_lays_268 : decode cX8_lays 268 = .ok (.iastore, 1) := by decide +kernel
theorem dX8_lays_269 : decode cX8_lays 269 = .ok (.aload_n 0, 1) := by decide +kernel
theorem dX8_lays_270 : decode cX8_lays 270 = .ok (.getfield 23, 3) := by decide +kernel
theorem dX8_lays_273 : decode cX8_lays 273 = .ok (.iload 11, 2) := by decide +kernel
theorem dX8_lays_275 : decode cX8_lays 275 = .ok (.iconst 3, 1) := by decide +kernel
theorem dX8_lays_276 : decode cX8_lays 276 = .ok (.iadd, 1) := by decide +kernel
theorem dX8_lays_277 : decode cX8_lays 277 = .ok (.iload 7, 2) := by decide +kernel
theorem dX8_lays_279 : decode cX8_lays 279 = .ok (.iastore, 1) := by decide +kernel
theorem dX8_lays_280 : decode cX8_lays 280 = .ok (.aload_n 0, 1) := by decide +kernel
theorem dX8_lays_281 : decode cX8_lays 281 = .ok (.getfield 23, 3) := by decide +kernel
theorem dX8_lays_284 : decode cX8_lays 284 = .ok (.iload 11, 2) := by decide +kernel
theorem dX8_lays_286 : decode cX8_lays 286 = .ok (.iconst 4, 1) := by decide +kernel
theorem dX8_lays_287 : decode cX8_lays 287 = .ok (.iadd, 1) := by decide +kernel
theorem dX8_lays_288 : decode cX8_lays 288 = .ok (.iload 8, 2) := by decide +kernel
theorem dX8_lays_290 : decode cX8_lays 290 = .ok (.iastore, 1) := by decide +kernel
theorem dX8_lays_291 : decode cX8_lays 291 = .ok (.aload_n 0, 1) := by decide +kernel
theorem dX8_lays_292 : decode cX8_lays 292 = .ok (.getfield 23, 3) := by decide +kernel
theorem dX8_lays_295 : decode cX8_lays 295 = .ok (.iload 11, 2) := by decide +kernel
theorem dX8_lays_297 : decode cX8_lays 297 = .ok (.iconst 5, 1) := by decide +kernel
theorem dX8_lays_298 : decode cX8_lays 298 = .ok (.iadd, 1) := by decide +kernel
theorem dX8_lays_299 : decode cX8_lays 299 = .ok (.aload_n 0, 1) := by decide +kernel
theorem dX8_lays_300 : decode cX8_lays 300 = .ok (.getfield 16, 3) := by decide +kernel
theorem dX8_lays_303 : decode cX8_lays 303 = .ok (.bipush 36, 2) := by decide +kernel
theorem dX8_lays_305 : decode cX8_lays 305 = .ok (.iload 7, 2) := by decide +kernel
theorem dX8_lays_307 : decode cX8_lays 307 = .ok (.iconst 1, 1) := by decide +kernel
theorem dX8_lays_308 : decode cX8_lays 308 = .ok (.isub, 1) := by decide +kernel
theorem dX8_lays_309 : decode cX8_lays 309 = .ok (.imul, 1) := by decide +kernel
theorem dX8_lays_310 : decode cX8_lays 310 = .ok (.iload 4, 2) := by decide +kernel
theorem dX8_lays_312 : decode cX8_lays 312 = .ok (.iadd, 1) := by decide +kernel
theorem dX8_lays_313 : decode cX8_lays 313 = .ok (.iaload, 1) := by decide +kernel
theorem dX8_lays_314 : decode cX8_lays 314 = .ok (.iastore, 1) := by decide +kernel
theorem dX8_lays_315 : decode cX8_lays 315 = .ok (.aload_n 0, 1) := by decide +kernel
theorem dX8_lays_316 : decode cX8_lays 316 = .ok (.getfield 23, 3) := by decide +kernel
theorem dX8_lays_319 : decode cX8_lays 319 = .ok (.iload 11, 2) := by decide +kernel
theorem dX8_lays_321 : decode cX8_lays 321 = .ok (.bipush 6, 2) := by decide +kernel
theorem dX8_lays_323 : decode cX8_lays 323 = .ok (.iadd, 1) := by decide +kernel
theorem dX8_lays_324 : decode cX8_lays 324 = .ok (.iload 10, 2) := by decide +kernel
theorem dX8_lays_326 : decode cX8_lays 326 = .ok (.iastore, 1) := by decide +kernel
theorem dX8_lays_327 : decode cX8_lays 327 = .ok (.aload_n 0, 1) := by decide +kernel
theorem dX8_lays_328 : decode cX8_lays 328 = .ok (.iload_n 1, 1) := by decide +kernel
theorem dX8_lays_329 : decode cX8_lays 329 = .ok (.aload_n 0, 1) := by decide +kernel
theorem dX8_lays_330 : decode cX8_lays 330 = .ok (.getfield 99, 3) := by decide +kernel
theorem dX8_lays_333 : decode cX8_lays 333 = .ok (.invokevirtual 114, 3) := by decide +kernel
theorem dX8_lays_336 : decode cX8_lays 336 = .ok (.aload_n 0, 1) := by decide +kernel
theorem dX8_lays_337 : decode cX8_lays 337 = .ok (.iload 6, 2) := by decide +kernel
theorem dX8_lays_339 : decode cX8_lays 339 = .ok (.iload 5, 2) := by decide +kernel
theorem dX8_lays_341 : decode cX8_lays 341 = .ok (.invokevirtual 117, 3) := by decide +kernel
theorem dX8_lays_344 : decode cX8_lays 344 = .ok (.aload_n 0, 1) := by decide +kernel
theorem dX8_lays_345 : decode cX8_lays 345 = .ok (.getfield 102, 3) := by decide +kernel
theorem dX8_lays_348 : decode cX8_lays 348 = .ok (.aload_n 0, 1) := by decide +kernel
theorem dX8_lays_349 : decode cX8_lays 349 = .ok (.getfield 7, 3) := by decide +kernel
theorem dX8_lays_352 : decode cX8_lays 352 = .ok (.bipush 81, 2) := by decide +kernel
theorem dX8_lays_354 : decode cX8_lays 354 = .ok (.iaload, 1) := by decide +kernel
theorem dX8_lays_355 : decode cX8_lays 355 = .ok (.if_icmp .le 5, 3) := by decide +kernel
theorem dX8_lays_358 : decode cX8_lays 358 = .ok (.iconst (-1), 1) := by decide +kernel
theorem dX8_lays_359 : decode cX8_lays 359 = .ok (.ireturn, 1) := by decide +kernel
theorem dX8_lays_360 : decode cX8_lays 360 = .ok (.aload_n 0, 1) := by decide +kernel
theorem dX8_lays_361 : decode cX8_lays 361 = .ok (.dup, 1) := by decide +kernel
theorem dX8_lays_362 : decode cX8_lays 362 = .ok (.getfield 99, 3) := by decide +kernel
theorem dX8_lays_365 : decode cX8_lays 365 = .ok (.iconst 1, 1) := by decide +kernel
theorem dX8_lays_366 : decode cX8_lays 366 = .ok (.iadd, 1) := by decide +kernel
theorem dX8_lays_367 : decode cX8_lays 367 = .ok (.putfield 99, 3) := by decide +kernel
theorem dX8_lays_370 : decode cX8_lays 370 = .ok (.iload 4, 2) := by decide +kernel
theorem dX8_lays_372 : decode cX8_lays 372 = .ok (.iload 7, 2) := by decide +kernel
theorem dX8_lays_374 : decode cX8_lays 374 = .ok (.aload_n 0, 1) := by decide +kernel
theorem dX8_lays_375 : decode cX8_lays 375 = .ok (.getfield 7, 3) := by decide +kernel
theorem dX8_lays_378 : decode cX8_lays 378 = .ok (.bipush 79, 2) := by decide +kernel
theorem dX8_lays_380 : decode cX8_lays 380 = .ok (.iaload, 1) := by decide +kernel
theorem dX8_lays_381 : decode cX8_lays 381 = .ok (.iadd, 1) := by decide +kernel
theorem dX8_lays_382 : decode cX8_lays 382 = .ok (.iadd, 1) := by decide +kernel
theorem dX8_lays_383 : decode cX8_lays 383 = .ok (.istore 4, 2) := by decide +kernel
theorem dX8_lays_385 : decode cX8_lays 385 = .ok (.goto (-361), 3) := by decide +kernel
theorem dX8_lays_388 : decode cX8_lays 388 = .ok (.iload_n 3, 1) := by decide +kernel
theorem dX8_lays_389 : decode cX8_lays 389 = .ok (.ireturn, 1) := by decide +kernel
theorem dX8_places_0 : decode cX8_places 0 = .ok (.aload_n 0, 1) := by decide +kernel
theorem dX8_places_1 : decode cX8_places 1 = .ok (.getfield 23, 3) := by decide +kernel
theorem dX8_places_4 : decode cX8_places 4 = .ok (.bipush 7, 2) := by decide +kernel
theorem dX8_places_6 : decode cX8_places 6 = .ok (.iload_n 2, 1) := by decide +kernel
theorem dX8_places_7 : decode cX8_places 7 = .ok (.imul, 1) := by decide +kernel
theorem dX8_places_8 : decode cX8_places 8 = .ok (.iaload, 1) := by decide +kernel
theorem dX8_places_9 : decode cX8_places 9 = .ok (.istore_n 3, 1) := by decide +kernel
theorem dX8_places_10 : decode cX8_places 10 = .ok (.aload_n 0, 1) := by decide +kernel
theorem dX8_places_11 : decode cX8_places 11 = .ok (.getfield 23, 3) := by decide +kernel
theorem dX8_places_14 : decode cX8_places 14 = .ok (.bipush 7, 2) := by decide +kernel
theorem dX8_places_16 : decode cX8_places 16 = .ok (.iload_n 2, 1) := by decide +kernel
theorem dX8_places_17 : decode cX8_places 17 = .ok (.imul, 1) := by decide +kernel
theorem dX8_places_18 : decode cX8_places 18 = .ok (.bipush 6, 2) := by decide +kernel
theorem dX8_places_20 : decode cX8_places 20 = .ok (.iadd, 1) := by decide +kernel
theorem dX8_places_21 : decode cX8_places 21 = .ok (.iaload, 1) := by decide +kernel
theorem dX8_places_22 : decode cX8_places 22 = .ok (.istore 4, 2) := by decide +kernel
theorem dX8_places_24 : decode cX8_places 24 = .ok (.aload_n 0, 1) := by decide +kernel
theorem dX8_places_25 : decode cX8_places 25 = .ok (.getfield 23, 3) := by decide +kernel
theorem dX8_places_28 : decode cX8_places 28 = .ok (.bipush 7, 2) := by decide +kernel
theorem dX8_places_30 : decode cX8_places 30 = .ok (.iload_n 2, 1) := by decide +kernel
theorem dX8_places_31 : decode cX8_places 31 = .ok (.imul, 1) := by decide +kernel
theorem dX8_places_32 : decode cX8_places 32 = .ok (.iconst 5, 1) := by decide +kernel
theorem dX8_places_33 : decode cX8_places 33 = .ok (.iadd, 1) := by decide +kernel
theorem dX8_places_34 : decode cX8_places 34 = .ok (.iaload, 1) := by decide +kernel
theorem dX8_places_35 : decode cX8_places 35 = .ok (.aload_n 0, 1) := by decide +kernel
theorem dX8_places_36 : decode cX8_places 36 = .ok (.getfield 7, 3) := by decide +kernel
theorem dX8_places_39 : decode cX8_places 39 = .ok (.bipush 80, 2) := by decide +kernel
theorem dX8_places_41 : decode cX8_places 41 = .ok (.iaload, 1) := by decide +kernel
theorem dX8_places_42 : decode cX8_places 42 = .ok (.ifCond .ne 7, 3) := by decide +kernel
theorem dX8_places_45 : decode cX8_places 45 = .ok (.iconst 0, 1) := by decide +kernel
theorem dX8_places_46 : decode cX8_places 46 = .ok (.goto 23, 3) := by decide +kernel
theorem dX8_places_49 : decode cX8_places 49 = .ok (.aload_n 0, 1) := by decide +kernel
theorem dX8_places_50 : decode cX8_places 50 = .ok (.getfield 7, 3) := by decide +kernel
theorem dX8_places_53 : decode cX8_places 53 = .ok (.bipush 80, 2) := by decide +kernel
theorem dX8_places_55 : decode cX8_places 55 = .ok (.iaload, 1) := by decide +kernel
theorem dX8_places_56 : decode cX8_places 56 = .ok (.iconst 1, 1) := by decide +kernel
theorem dX8_places_57 : decode cX8_places 57 = .ok (.if_icmp .ne 10, 3) := by decide +kernel
theorem dX8_places_60 : decode cX8_places 60 = .ok (.iload 4, 2) := by decide +kernel
theorem dX8_places_62 : decode cX8_places 62 = .ok (.iconst 2, 1) := by decide +kernel
theorem dX8_places_63 : decode cX8_places 63 = .ok (.idiv, 1) := by decide +kernel
theorem dX8_places_64 : decode cX8_places 64 = .ok (.goto 5, 3) := by decide +kernel
theorem dX8_places_67 : decode cX8_places 67 = .ok (.iload 4, 2) := by decide +kernel
theorem dX8_places_69 : decode cX8_places 69 = .ok (.iadd, 1) := by decide +kernel
theorem dX8_places_70 : decode cX8_places 70 = .ok (.istore 5, 2) := by decide +kernel
theorem dX8_places_72 : decode cX8_places 72 = .ok (.iload_n 3, 1) := by decide +kernel
theorem dX8_places_73 : decode cX8_places 73 = .ok (.istore 6, 2) := by decide +kernel
theorem dX8_places_75 : decode cX8_places 75 = .ok (.iload 6, 2) := by decide +kernel
theorem dX8_places_77 : decode cX8_places 77 = .ok (.iload_n 3, 1) := by decide +kernel
theorem dX8_places_78 : decode cX8_places 78 = .ok (.aload_n 0, 1) := by decide +kernel
theorem dX8_places_79 : decode cX8_places 79 = .ok (.getfield 23, 3) := by decide +kernel
theorem dX8_places_82 : decode cX8_places 82 = .ok (.bipush 7, 2) := by decide +kernel
theorem dX8_places_84 : decode cX8_places 84 = .ok (.iload_n 2, 1) := by decide +kernel
theorem dX8_places_85 : decode cX8_places 85 = .ok (.imul, 1) := by decide +kernel
theorem dX8_places_86 : decode cX8_places 86 = .ok (.iconst 1, 1) := by decide +kernel
theorem dX8_places_87 : decode cX8_places 87 = .ok (.iadd, 1) := by decide +kernel
theorem dX8_places_88 : decode cX8_places 88 = .ok (.iaload, 1) := by decide +kernel
theorem dX8_places_89 : decode cX8_places 89 = .ok (.iadd, 1) := by decide +kernel
theorem dX8_places_90 : decode cX8_places 90 = .ok (.if_icmp .ge 119, 3) := by decide +kernel
theorem dX8_places_93 : decode cX8_places 93 = .ok (.aload_n 0, 1) := by decide +kernel
theorem dX8_places_94 : decode cX8_places 94 = .ok (.iload 6, 2) := by decide +kernel
theorem dX8_places_96 : decode cX8_places 96 = .ok (.iload_n 1, 1) := by decide +kernel
theorem dX8_places_97 : decode cX8_places 97 = .ok (.invokevirtual 96, 3) := by decide +kernel
theorem dX8_places_100 : decode cX8_places 100 = .ok (.istore 7, 2) := by decide +kernel
theorem dX8_places_102 : decode cX8_places 102 = .ok (.iload 5, 2) := by decide +kernel
theorem dX8_places_104 : decode cX8_places 104 = .ok (.iload 6, 2) := by decide +kernel
theorem dX8_places_106 : decode cX8_places 106 = .ok (.iload_n 3, 1) := by decide +kernel
theorem dX8_places_107 : decode cX8_places 107 = .ok (.if_icmp .le 20, 3) := by decide +kernel
theorem dX8_places_110 : decode cX8_places 110 = .ok (.iload 7, 2) := by decide +kernel
theorem dX8_places_112 : decode cX8_places 112 = .ok (.aload_n 0, 1) := by decide +kernel
theorem dX8_places_113 : decode cX8_places 113 = .ok (.iload 6, 2) := by decide +kernel
theorem dX8_places_115 : decode cX8_places 115 = .ok (.iconst 1, 1) := by decide +kernel
theorem dX8_places_116 : decode cX8_places 116 = .ok (.isub, 1) := by decide +kernel
theorem dX8_places_117 : decode cX8_places 117 = .ok (.iload_n 1, 1) := by decide +kernel
theorem dX8_places_118 : decode cX8_places 118 = .ok (.invokevirtual 96, 3) := by decide +kernel
theorem dX8_places_121 : decode cX8_places 121 = .ok (.invokestatic 105, 3) := by decide +kernel
theorem dX8_places_124 : decode cX8_places 124 = .ok (.goto 4, 3) := by decide +kernel
theorem dX8_places_127 : decode cX8_places 127 = .ok (.iconst 0, 1) := by decide +kernel
theorem dX8_places_128 : decode cX8_places 128 = .ok (.iadd, 1) := by decide +kernel
theorem dX8_places_129 : decode cX8_places 129 = .ok (.istore 5, 2) := by decide +kernel
theorem dX8_places_131 : decode cX8_places 131 = .ok (.aload_n 0, 1) := by decide +kernel
theorem dX8_places_132 : decode cX8_places 132 = .ok (.getfield 26, 3) := by decide +kernel
theorem dX8_places_135 : decode cX8_places 135 = .ok (.iconst 5, 1) := by decide +kernel
theorem dX8_places_136 : decode cX8_places 136 = .ok (.iload 6, 2) := by decide +kernel
theorem dX8_places_138 : decode cX8_places 138 = .ok (.imul, 1) := by decide +kernel
theorem dX8_places_139 : decode cX8_places 139 = .ok (.iload 5, 2) := by decide +kernel
theorem dX8_places_141 : decode cX8_places 141 = .ok (.iastore, 1) := by decide +kernel
theorem dX8_places_142 : decode cX8_places 142 = .ok (.aload_n 0, 1) := by decide +kernel
theorem dX8_places_143 : decode cX8_places 143 = .ok (.getfield 26, 3) := by decide +kernel
theorem dX8_places_146 : decode cX8_places 146 = .ok (.iconst 5, 1) := by decide +kernel
theorem dX8_places_147 : decode cX8_places 147 = .ok (.iload 6, 2) := by decide +kernel
theorem dX8_places_149 : decode cX8_places 149 = .ok (.imul, 1) := by decide +kernel
theorem dX8_places_150 : decode cX8_places 150 = .ok (.iconst 1, 1) := by decide +kernel
theorem dX8_places_151 : decode cX8_places 151 = .ok (.iadd, 1) := by decide +kernel
theorem dX8_places_152 : decode cX8_places 152 = .ok (.aload_n 0, 1) := by decide +kernel
theorem dX8_places_153 : decode cX8_places 153 = .ok (.iload 6, 2) := by decide +kernel
theorem dX8_places_155 : decode cX8_places 155 = .ok (.iconst 0, 1) := by decide +kernel
theorem dX8_places_156 : decode cX8_places 156 = .ok (.invokevirtual 93, 3) := by decide +kernel
theorem dX8_places_159 : decode cX8_places 159 = .ok (.iload 7, 2) := by decide +kernel
theorem dX8_places_161 : decode cX8_places 161 = .ok (.imul, 1) := by decide +kernel
theorem dX8_places_162 : decode cX8_places 162 = .ok (.iastore, 1) := by decide +kernel
theorem dX8_places_163 : decode cX8_places 163 = .ok (.aload_n 0, 1) := by decide +kernel
theorem dX8_places_164 : decode cX8_places 164 = .ok (.getfield 26, 3) := by decide +kernel
theorem dX8_places_167 : decode cX8_places 167 = .ok (.iconst 5, 1) := by decide +kernel
theorem dX8_places_168 : decode cX8_places 168 = .ok (.iload 6, 2) := by decide +kernel
theorem dX8_places_170 : decode cX8_places 170 = .ok (.imul, 1) := by decide +kernel
theorem dX8_places_171 : decode cX8_places 171 = .ok (.iconst 2, 1) := by decide +kernel
theorem dX8_places_172 : decode cX8_places 172 = .ok (.iadd, 1) := by decide +kernel
theorem dX8_places_173 : decode cX8_places 173 = .ok (.iload 7, 2) := by decide +kernel
theorem dX8_places_175 : decode cX8_places 175 = .ok (.iastore, 1) := by decide +kernel
theorem dX8_places_176 : decode cX8_places 176 = .ok (.aload_n 0, 1) := by decide +kernel
theorem dX8_places_177 : decode cX8_places 177 = .ok (.getfield 26, 3) := by decide +kernel
theorem dX8_places_180 : decode cX8_places 180 = .ok (.iconst 5, 1) := by decide +kernel
theorem dX8_places_181 : decode cX8_places 181 = .ok (.iload 6, 2) := by decide +kernel
theorem dX8_places_183 : decode cX8_places 183 = .ok (.imul, 1) := by decide +kernel
theorem dX8_places_184 : decode cX8_places 184 = .ok (.iconst 3, 1) := by decide +kernel
theorem dX8_places_185 : decode cX8_places 185 = .ok (.iadd, 1) := by decide +kernel
theorem dX8_places_186 : decode cX8_places 186 = .ok (.iload_n 2, 1) := by decide +kernel
theorem dX8_places_187 : decode cX8_places 187 = .ok (.iastore, 1) := by decide +kernel
theorem dX8_places_188 : decode cX8_places 188 = .ok (.iload 5, 2) := by decide +kernel
theorem dX8_places_190 : decode cX8_places 190 = .ok (.aload_n 0, 1) := by decide +kernel
theorem dX8_places_191 : decode cX8_places 191 = .ok (.iload 6, 2) := by decide +kernel
theorem dX8_places_193 : decode cX8_places 193 = .ok (.iconst 0, 1) := by decide +kernel
theorem dX8_places_194 : decode cX8_places 194 = .ok (.invokevirtual 93, 3) := by decide +kernel
theorem dX8_places_197 : decode cX8_places 197 = .ok (.iload 7, 2) := by decide +kernel
theorem dX8_places_199 : decode cX8_places 199 = .ok (.imul, 1) := by decide +kernel
theorem dX8_places_200 : decode cX8_places 200 = .ok (.iadd, 1) := by decide +kernel
theorem dX8_places_201 : decode cX8_places 201 = .ok (.istore 5, 2) := by decide +kernel
theorem dX8_places_203 : decode cX8_places 203 = .ok (.iinc 6 1, 3) := by decide +kernel
theorem dX8_places_206 : decode cX8_places 206 = .ok (.goto (-131), 3) := by decide +kernel
theorem dX8_places_209 : decode cX8_places 209 = .ok (.return_, 1) := by decide +kernel
theorem dX8_hasGap_0 : decode cX8_hasGap 0 = .ok (.iload_n 1, 1) := by decide +kernel
theorem dX8_hasGap_1 : decode cX8_hasGap 1 = .ok (.aload_n 0, 1) := by decide +kernel
theorem dX8_hasGap_2 : decode cX8_hasGap 2 = .ok (.getfield 23, 3) := by decide +kernel
theorem dX8_hasGap_5 : decode cX8_hasGap 5 = .ok (.bipush 7, 2) := by decide +kernel
theorem dX8_hasGap_7 : decode cX8_hasGap 7 = .ok (.aload_n 0, 1) := by decide +kernel
theorem dX8_hasGap_8 : decode cX8_hasGap 8 = .ok (.getfield 26, 3) := by decide +kernel
theorem dX8_hasGap_11 : decode cX8_hasGap 11 = .ok (.iconst 5, 1) := by decide +kernel
theorem dX8_hasGap_12 : decode cX8_hasGap 12 = .ok (.iload_n 1, 1) := by decide +kernel
theorem dX8_hasGap_13 : decode cX8_hasGap 13 = .ok (.imul, 1) := by decide +kernel
theorem dX8_hasGap_14 : decode cX8_hasGap 14 = .ok (.iconst 3, 1) := by decide +kernel
theorem dX8_hasGap_15 : decode cX8_hasGap 15 = .ok (.iadd, 1) := by decide +kernel
theorem dX8_hasGap_16 : decode cX8_hasGap 16 = .ok (.iaload, 1) := by decide +kernel
theorem dX8_hasGap_17 : decode cX8_hasGap 17 = .ok (.imul, 1) := by decide +kernel
theorem dX8_hasGap_18 : decode cX8_hasGap 18 = .ok (.iaload, 1) := by decide +kernel
theorem dX8_hasGap_19 : decode cX8_hasGap 19 = .ok (.if_icmp .eq 7, 3) := by decide +kernel
theorem dX8_hasGap_22 : decode cX8_hasGap 22 = .ok (.iconst 1, 1) := by decide +kernel
theorem dX8_hasGap_23 : decode cX8_hasGap 23 = .ok (.goto 4, 3) := by decide +kernel
theorem dX8_hasGap_26 : decode cX8_hasGap 26 = .ok (.iconst 0, 1) := by decide +kernel
theorem dX8_hasGap_27 : decode cX8_hasGap 27 = .ok (.ireturn, 1) := by decide +kernel
theorem dX8_gapFrom_0 : decode cX8_gapFrom 0 = .ok (.aload_n 0, 1) := by decide +kernel
theorem dX8_gapFrom_1 : decode cX8_gapFrom 1 = .ok (.getfield 26, 3) := by decide +kernel
theorem dX8_gapFrom_4 : decode cX8_gapFrom 4 = .ok (.iconst 5, 1) := by decide +kernel
theorem dX8_gapFrom_5 : decode cX8_gapFrom 5 = .ok (.iload_n 1, 1) := by decide +kernel
theorem dX8_gapFrom_6 : decode cX8_gapFrom 6 = .ok (.iconst 1, 1) := by decide +kernel
theorem dX8_gapFrom_7 : decode cX8_gapFrom 7 = .ok (.isub, 1) := by decide +kernel
theorem dX8_gapFrom_8 : decode cX8_gapFrom 8 = .ok (.imul, 1) := by decide +kernel
theorem dX8_gapFrom_9 : decode cX8_gapFrom 9 = .ok (.iaload, 1) := by decide +kernel
theorem dX8_gapFrom_10 : decode cX8_gapFrom 10 = .ok (.aload_n 0, 1) := by decide +kernel
theorem dX8_gapFrom_11 : decode cX8_gapFrom 11 = .ok (.getfield 26, 3) := by decide +kernel
theorem dX8_gapFrom_14 : decode cX8_gapFrom 14 = .ok (.iconst 5, 1) := by decide +kernel
theorem dX8_gapFrom_15 : decode cX8_gapFrom 15 = .ok (.iload_n 1, 1) := by decide +kernel
theorem dX8_gapFrom_16 : decode cX8_gapFrom 16 = .ok (.iconst 1, 1) := by decide +kernel
theorem dX8_gapFrom_17 : decode cX8_gapFrom 17 = .ok (.isub, 1) := by decide +kernel
theorem dX8_gapFrom_18 : decode cX8_gapFrom 18 = .ok (.imul, 1) := by decide +kernel
theorem dX8_gapFrom_19 : decode cX8_gapFrom 19 = .ok (.iconst 1, 1) := by decide +kernel
theorem dX8_gapFrom_20 : decode cX8_gapFrom 20 = .ok (.iadd, 1) := by decide +kernel
theorem dX8_gapFrom_21 : decode cX8_gapFrom 21 = .ok (.iaload, 1) := by decide +kernel
theorem dX8_gapFrom_22 : decode cX8_gapFrom 22 = .ok (.iadd, 1) := by decide +kernel
theorem dX8_gapFrom_23 : decode cX8_gapFrom 23 = .ok (.ireturn, 1) := by decide +kernel
theorem dX8_touch_0 : decode cX8_touch 0 = .ok (.aload_n 0, 1) := by decide +kernel
theorem dX8_touch_1 : decode cX8_touch 1 = .ok (.iload_n 1, 1) := by decide +kernel
theorem dX8_touch_2 : decode cX8_touch 2 = .ok (.invokevirtual 120, 3) := by decide +kernel
theorem dX8_touch_5 : decode cX8_touch 5 = .ok (.ifCond .eq 47, 3) := by decide +kernel
theorem dX8_touch_8 : decode cX8_touch 8 = .ok (.aload_n 0, 1) := by decide +kernel
theorem dX8_touch_9 : decode cX8_touch 9 = .ok (.iload_n 2, 1) := by decide +kernel
theorem dX8_touch_10 : decode cX8_touch 10 = .ok (.invokevirtual 120, 3) := by decide +kernel
theorem dX8_touch_13 : decode cX8_touch 13 = .ok (.ifCond .eq 39, 3) := by decide +kernel
theorem dX8_touch_16 : decode cX8_touch 16 = .ok (.aload_n 0, 1) := by decide +kernel
theorem dX8_touch_17 : decode cX8_touch 17 = .ok (.iload_n 1, 1) := by decide +kernel
theorem dX8_touch_18 : decode cX8_touch 18 = .ok (.invokevirtual 123, 3) := by decide +kernel
theorem dX8_touch_21 : decode cX8_touch 21 = .ok (.aload_n 0, 1) := by decide +kernel
theorem dX8_touch_22 : decode cX8_touch 22 = .ok (.getfield 26, 3) := by decide +kernel
theorem dX8_touch_25 : decode cX8_touch 25 = .ok (.iconst 5, 1) := by decide +kernel
theorem dX8_touch_26 : decode cX8_touch 26 = .ok (.iload_n 2, 1) := by decide +kernel
theorem dX8_touch_27 : decode cX8_touch 27 = .ok (.imul, 1) := by decide +kernel
theorem dX8_touch_28 : decode cX8_touch 28 = .ok (.iaload, 1) := by decide +kernel
theorem dX8_touch_29 : decode cX8_touch 29 = .ok (.if_icmp .ge 23, 3) := by decide +kernel
theorem dX8_touch_32 : decode cX8_touch 32 = .ok (.aload_n 0, 1) := by decide +kernel
theorem dX8_touch_33 : decode cX8_touch 33 = .ok (.iload_n 2, 1) := by decide +kernel
theorem dX8_touch_34 : decode cX8_touch 34 = .ok (.invokevirtual 123, 3) := by decide +kernel
theorem dX8_touch_37 : decode cX8_touch 37 = .ok (.aload_n 0, 1) := by decide +kernel
theorem dX8_touch_38 : decode cX8_touch 38 = .ok (.getfield 26, 3) := by decide +kernel
theorem dX8_touch_41 : decode cX8_touch 41 = .ok (.iconst 5, 1) := by decide +kernel
theorem dX8_touch_42 : decode cX8_touch 42 = .ok (.iload_n 1, 1) := by decide +kernel
theorem dX8_touch_43 : decode cX8_touch 43 = .ok (.imul, 1) := by decide +kernel
theorem dX8_touch_44 : decode cX8_touch 44 = .ok (.iaload, 1) := by decide +kernel
theorem dX8_touch_45 : decode cX8_touch 45 = .ok (.if_icmp .ge 7, 3) := by decide +kernel
theorem dX8_touch_48 : decode cX8_touch 48 = .ok (.iconst 1, 1) := by decide +kernel
theorem dX8_touch_49 : decode cX8_touch 49 = .ok (.goto 4, 3) := by decide +kernel
theorem dX8_touch_52 : decode cX8_touch 52 = .ok (.iconst 0, 1) := by decide +kernel
theorem dX8_touch_53 : decode cX8_touch 53 = .ok (.ireturn, 1) := by decide +kernel
theorem dX8_chainsUp_0 : decode cX8_chainsUp 0 = .ok (.aload_n 0, 1) := by decide +kernel
theorem dX8_chainsUp_1 : decode cX8_chainsUp 1 = .ok (.getfield 99, 3) := by decide +kernel
theorem dX8_chainsUp_4 : decode cX8_chainsUp 4 = .ok (.ifCond .ne 7, 3) := by decide +kernel
theorem dX8_chainsUp_7 : decode cX8_chainsUp 7 = .ok (.iload_n 1, 1) := by decide +kernel
theorem dX8_chainsUp_8 : decode cX8_chainsUp 8 = .ok (.goto 17, 3) := by decide +kernel
theorem dX8_chainsUp_11 : decode cX8_chainsUp 11 = .ok (.aload_n 0, 1) := by decide +kernel
theorem dX8_chainsUp_12 : decode cX8_chainsUp 12 = .ok (.getfield 23, 3) := by decide +kernel
theorem dX8_chainsUp_15 : decode cX8_chainsUp 15 = .ok (.bipush 7, 2) := by decide +kernel
theorem dX8_chainsUp_17 : decode cX8_chainsUp 17 = .ok (.aload_n 0, 1) := by decide +kernel
theorem dX8_chainsUp_18 : decode cX8_chainsUp 18 = .ok (.getfield 99, 3) := by decide +kernel
theorem dX8_chainsUp_21 : decode cX8_chainsUp 21 = .ok (.iconst 1, 1) := by decide +kernel
theorem dX8_chainsUp_22 : decode cX8_chainsUp 22 = .ok (.isub, 1) := by decide +kernel
theorem dX8_chainsUp_23 : decode cX8_chainsUp 23 = .ok (.imul, 1) := by decide +kernel
theorem dX8_chainsUp_24 : decode cX8_chainsUp 24 = .ok (.iaload, 1) := by decide +kernel
theorem dX8_chainsUp_25 : decode cX8_chainsUp 25 = .ok (.istore_n 3, 1) := by decide +kernel
theorem dX8_chainsUp_26 : decode cX8_chainsUp 26 = .ok (.iload_n 1, 1) := by decide +kernel
theorem dX8_chainsUp_27 : decode cX8_chainsUp 27 = .ok (.istore 4, 2) := by decide +kernel
theorem dX8_chainsUp_29 : decode cX8_chainsUp 29 = .ok (.iload 4, 2) := by decide +kernel
theorem dX8_chainsUp_31 : decode cX8_chainsUp 31 = .ok (.iload_n 2, 1) := by decide +kernel
theorem dX8_chainsUp_32 : decode cX8_chainsUp 32 = .ok (.if_icmp .ge 142, 3) := by decide +kernel
theorem dX8_chainsUp_35 : decode cX8_chainsUp 35 = .ok (.aload_n 0, 1) := by decide +kernel
theorem dX8_chainsUp_36 : decode cX8_chainsUp 36 = .ok (.getfield 29, 3) := by decide +kernel
theorem dX8_chainsUp_39 : decode cX8_chainsUp 39 = .ok (.iload 4, 2) := by decide +kernel
theorem dX8_chainsUp_41 : decode cX8_chainsUp 41 = .ok (.aload_n 0, 1) := by decide +kernel
theorem dX8_chainsUp_42 : decode cX8_chainsUp 42 = .ok (.iload 4, 2) := by decide +kernel
theorem dX8_chainsUp_44 : decode cX8_chainsUp 44 = .ok (.invokevirtual 120, 3) := by decide +kernel
theorem dX8_chainsUp_47 : decode cX8_chainsUp 47 = .ok (.ifCond .eq 7, 3) := by decide +kernel
theorem dX8_chainsUp_50 : decode cX8_chainsUp 50 = .ok (.iconst 1, 1) := by decide +kernel
theorem dX8_chainsUp_51 : decode cX8_chainsUp 51 = .ok (.goto 4, 3) := by decide +kernel
theorem dX8_chainsUp_54 : decode cX8_chainsUp 54 = .ok (.iconst 0, 1) := by decide +kernel
theorem dX8_chainsUp_55 : decode cX8_chainsUp 55 = .ok (.iastore, 1) := by decide +kernel
theorem dX8_chainsUp_56 : decode cX8_chainsUp 56 = .ok (.iload_n 3, 1) := by decide +kernel
theorem dX8_chainsUp_57 : decode cX8_chainsUp 57 = .ok (.istore 5, 2) := by decide +kernel
theorem dX8_chainsUp_59 : decode cX8_chainsUp 59 = .ok (.iload 5, 2) := by decide +kernel
theorem dX8_chainsUp_61 : decode cX8_chainsUp 61 = .ok (.iload_n 1, 1) := by decide +kernel
theorem dX8_chainsUp_62 : decode cX8_chainsUp 62 = .ok (.if_icmp .ge 74, 3) := by decide +kernel
theorem dX8_chainsUp_65 : decode cX8_chainsUp 65 = .ok (.aload_n 0, 1) := by decide +kernel
theorem dX8_chainsUp_66 : decode cX8_chainsUp 66 = .ok (.iload 4, 2) := by decide +kernel
theorem dX8_chainsUp_68 : decode cX8_chainsUp 68 = .ok (.invokevirtual 120, 3) := by decide +kernel
theorem dX8_chainsUp_71 : decode cX8_chainsUp 71 = .ok (.ifCond .eq 65, 3) := by decide +kernel
theorem dX8_chainsUp_74 : decode cX8_chainsUp 74 = .ok (.aload_n 0, 1) := by decide +kernel
theorem dX8_chainsUp_75 : decode cX8_chainsUp 75 = .ok (.getfield 29, 3) := by decide +kernel
theorem dX8_chainsUp_78 : decode cX8_chainsUp 78 = .ok (.iload 4, 2) := by decide +kernel
theorem dX8_chainsUp_80 : decode cX8_chainsUp 80 = .ok (.aload_n 0, 1) := by decide +kernel
theorem dX8_chainsUp_81 : decode cX8_chainsUp 81 = .ok (.iload 5, 2) := by decide +kernel
theorem dX8_chainsUp_83 : decode cX8_chainsUp 83 = .ok (.iload 4, 2) := by decide +kernel
theorem dX8_chainsUp_85 : decode cX8_chainsUp 85 = .ok (.invokevirtual 126, 3) := by decide +kernel
theorem dX8_chainsUp_88 : decode cX8_chainsUp 88 = .ok (.ifCond .eq 34, 3) := by decide +kernel
theorem dX8_chainsUp_91 : decode cX8_chainsUp 91 = .ok (.aload_n 0, 1) := by decide +kernel
theorem dX8_chainsUp_92 : decode cX8_chainsUp 92 = .ok (.getfield 29, 3) := by decide +kernel
theorem dX8_chainsUp_95 : decode cX8_chainsUp 95 = .ok (.iload 5, 2) := by decide +kernel
theorem dX8_chainsUp_97 : decode cX8_chainsUp 97 = .ok (.iaload, 1) := by decide +kernel
theorem dX8_chainsUp_98 : decode cX8_chainsUp 98 = .ok (.iconst 1, 1) := by decide +kernel
theorem dX8_chainsUp_99 : decode cX8_chainsUp 99 = .ok (.iadd, 1) := by decide +kernel
theorem dX8_chainsUp_100 : decode cX8_chainsUp 100 = .ok (.aload_n 0, 1) := by decide +kernel
theorem dX8_chainsUp_101 : decode cX8_chainsUp 101 = .ok (.getfield 29, 3) := by decide +kernel
theorem dX8_chainsUp_104 : decode cX8_chainsUp 104 = .ok (.iload 4, 2) := by decide +kernel
theorem dX8_chainsUp_106 : decode cX8_chainsUp 106 = .ok (.iaload, 1) := by decide +kernel
theorem dX8_chainsUp_107 : decode cX8_chainsUp 107 = .ok (.if_icmp .le 15, 3) := by decide +kernel
theorem dX8_chainsUp_110 : decode cX8_chainsUp 110 = .ok (.aload_n 0, 1) := by decide +kernel
theorem dX8_chainsUp_111 : decode cX8_chainsUp 111 = .ok (.getfield 29, 3) := by decide +kernel
theorem dX8_chainsUp_114 : decode cX8_chainsUp 114 = .ok (.iload 5, 2) := by decide +kernel
theorem dX8_chainsUp_116 : decode cX8_chainsUp 116 = .ok (.iaload, 1) := by decide +kernel
theorem dX8_chainsUp_117 : decode cX8_chainsUp 117 = .ok (.iconst 1, 1) := by decide +kernel
theorem dX8_chainsUp_118 : decode cX8_chainsUp 118 = .ok (.iadd, 1) := by decide +kernel
theorem dX8_chainsUp_119 : decode cX8_chainsUp 119 = .ok (.goto 10, 3) := by decide +kernel
theorem dX8_chainsUp_122 : decode cX8_chainsUp 122 = .ok (.aload_n 0, 1) := by decide +kernel
theorem dX8_chainsUp_123 : decode cX8_chainsUp 123 = .ok (.getfield 29, 3) := by decide +kernel
theorem dX8_chainsUp_126 : decode cX8_chainsUp 126 = .ok (.iload 4, 2) := by decide +kernel
theorem dX8_chainsUp_128 : decode cX8_chainsUp 128 = .ok (.iaload, 1) := by decide +kernel
theorem dX8_chainsUp_129 : decode cX8_chainsUp 129 = .ok (.iastore, 1) := by decide +kernel
theorem dX8_chainsUp_130 : decode cX8_chainsUp 130 = .ok (.iinc 5 1, 3) := by decide +kernel
theorem dX8_chainsUp_133 : decode cX8_chainsUp 133 = .ok (.goto (-74), 3) := by decide +kernel
theorem dX8_chainsUp_136 : decode cX8_chainsUp 136 = .ok (.aload_n 0, 1) := by decide +kernel
theorem dX8_chainsUp_137 : decode cX8_chainsUp 137 = .ok (.aload_n 0, 1) := by decide +kernel
theorem dX8_chainsUp_138 : decode cX8_chainsUp 138 = .ok (.getfield 29, 3) := by decide +kernel
theorem dX8_chainsUp_141 : decode cX8_chainsUp 141 = .ok (.iload 4, 2) := by decide +kernel
theorem dX8_chainsUp_143 : decode cX8_chainsUp 143 = .ok (.iaload, 1) := by decide +kernel
theorem dX8_chainsUp_144 : decode cX8_chainsUp 144 = .ok (.aload_n 0, 1) := by decide +kernel
theorem dX8_chainsUp_145 : decode cX8_chainsUp 145 = .ok (.getfield 102, 3) := by decide +kernel
theorem dX8_chainsUp_148 : decode cX8_chainsUp 148 = .ok (.if_icmp .le 13, 3) := by decide +kernel
theorem dX8_chainsUp_151 : decode cX8_chainsUp 151 = .ok (.aload_n 0, 1) := by decide +kernel
theorem dX8_chainsUp_152 : decode cX8_chainsUp 152 = .ok (.getfield 29, 3) := by decide +kernel
theorem dX8_chainsUp_155 : decode cX8_chainsUp 155 = .ok (.iload 4, 2) := by decide +kernel
theorem dX8_chainsUp_157 : decode cX8_chainsUp 157 = .ok (.iaload, 1) := by decide +kernel
theorem dX8_chainsUp_158 : decode cX8_chainsUp 158 = .ok (.goto 7, 3) := by decide +kernel
theorem dX8_chainsUp_161 : decode cX8_chainsUp 161 = .ok (.aload_n 0, 1) := by decide +kernel
theorem dX8_chainsUp_162 : decode cX8_chainsUp 162 = .ok (.getfield 102, 3) := by decide +kernel
theorem dX8_chainsUp_165 : decode cX8_chainsUp 165 = .ok (.putfield 102, 3) := by decide +kernel
theorem dX8_chainsUp_168 : decode cX8_chainsUp 168 = .ok (.iinc 4 1, 3) := by decide +kernel
theorem dX8_chainsUp_171 : decode cX8_chainsUp 171 = .ok (.goto (-142), 3) := by decide +kernel
theorem dX8_chainsUp_174 : decode cX8_chainsUp 174 = .ok (.return_, 1) := by decide +kernel
theorem dX8_chains_0 : decode cX8_chains 0 = .ok (.aload_n 0, 1) := by decide +kernel
theorem dX8_chains_1 : decode cX8_chains 1 = .ok (.getfield 7, 3) := by decide +kernel
theorem dX8_chains_4 : decode cX8_chains 4 = .ok (.bipush 31, 2) := by decide +kernel
theorem dX8_chains_6 : decode cX8_chains 6 = .ok (.iaload, 1) := by decide +kernel
theorem dX8_chains_7 : decode cX8_chains 7 = .ok (.iconst 1, 1) := by decide +kernel
theorem dX8_chains_8 : decode cX8_chains 8 = .ok (.isub, 1) := by decide +kernel
theorem dX8_chains_9 : decode cX8_chains 9 = .ok (.istore_n 1, 1) := by decide +kernel
theorem dX8_chains_10 : decode cX8_chains 10 = .ok (.iload_n 1, 1) := by decide +kernel
theorem dX8_chains_11 : decode cX8_chains 11 = .ok (.ifCond .lt 178, 3) := by decide +kernel
theorem dX8_chains_14 : decode cX8_chains 14 = .ok (.aload_n 0, 1) := by decide +kernel
theorem dX8_chains_15 : decode cX8_chains 15 = .ok (.getfield 32, 3) := by decide +kernel
theorem dX8_chains_18 : decode cX8_chains 18 = .ok (.iload_n 1, 1) := by decide +kernel
theorem dX8_chains_19 : decode cX8_chains 19 = .ok (.aload_n 0, 1) := by decide +kernel
theorem dX8_chains_20 : decode cX8_chains 20 = .ok (.iload_n 1, 1) := by decide +kernel
theorem dX8_chains_21 : decode cX8_chains 21 = .ok (.invokevirtual 120, 3) := by decide +kernel
theorem dX8_chains_24 : decode cX8_chains 24 = .ok (.ifCond .eq 7, 3) := by decide +kernel
theorem dX8_chains_27 : decode cX8_chains 27 = .ok (.iconst 1, 1) := by decide +kernel
theorem dX8_chains_28 : decode cX8_chains 28 = .ok (.goto 4, 3) := by decide +kernel
theorem dX8_chains_31 : decode cX8_chains 31 = .ok (.iconst 0, 1) := by decide +kernel
theorem dX8_chains_32 : decode cX8_chains 32 = .ok (.iastore, 1) := by decide +kernel
theorem dX8_chains_33 : decode cX8_chains 33 = .ok (.iload_n 1, 1) := by decide +kernel
theorem dX8_chains_34 : decode cX8_chains 34 = .ok (.iconst 1, 1) := by decide +kernel
theorem dX8_chains_35 : decode cX8_chains 35 = .ok (.iadd, 1) := by decide +kernel
theorem dX8_chains_36 : decode cX8_chains 36 = .ok (.istore_n 2, 1) := by decide +kernel
theorem dX8_chains_37 : decode cX8_chains 37 = .ok (.iload_n 2, 1) := by decide +kernel
theorem dX8_chains_38 : decode cX8_chains 38 = .ok (.aload_n 0, 1) := by decide +kernel
theorem dX8_chains_39 : decode cX8_chains 39 = .ok (.getfield 7, 3) := by decide +kernel
theorem dX8_chains_42 : decode cX8_chains 42 = .ok (.bipush 31, 2) := by decide +kernel
theorem dX8_chains_44 : decode cX8_chains 44 = .ok (.iaload, 1) := by decide +kernel
theorem dX8_chains_45 : decode cX8_chains 45 = .ok (.if_icmp .ge 101, 3) := by decide +kernel
theorem dX8_chains_48 : decode cX8_chains 48 = .ok (.aload_n 0, 1) := by decide +kernel
theorem dX8_chains_49 : decode cX8_chains 49 = .ok (.iload_n 1, 1) := by decide +kernel
theorem dX8_chains_50 : decode cX8_chains 50 = .ok (.invokevirtual 120, 3) := by decide +kernel
theorem dX8_chains_53 : decode cX8_chains 53 = .ok (.ifCond .eq 93, 3) := by decide +kernel
theorem dX8_chains_56 : decode cX8_chains 56 = .ok (.aload_n 0, 1) := by decide +kernel
theorem dX8_chains_57 : decode cX8_chains 57 = .ok (.getfield 26, 3) := by decide +kernel
theorem dX8_chains_60 : decode cX8_chains 60 = .ok (.iconst 5, 1) := by decide +kernel
theorem dX8_chains_61 : decode cX8_chains 61 = .ok (.iload_n 2, 1) := by decide +kernel
theorem dX8_chains_62 : decode cX8_chains 62 = .ok (.imul, 1) := by decide +kernel
theorem dX8_chains_63 : decode cX8_chains 63 = .ok (.iconst 3, 1) := by decide +kernel
theorem dX8_chains_64 : decode cX8_chains 64 = .ok (.iadd, 1) := by decide +kernel
theorem dX8_chains_65 : decode cX8_chains 65 = .ok (.iaload, 1) := by decide +kernel
theorem dX8_chains_66 : decode cX8_chains 66 = .ok (.aload_n 0, 1) := by decide +kernel
theorem dX8_chains_67 : decode cX8_chains 67 = .ok (.getfield 26, 3) := by decide +kernel
theorem dX8_chains_70 : decode cX8_chains 70 = .ok (.iconst 5, 1) := by decide +kernel
theorem dX8_chains_71 : decode cX8_chains 71 = .ok (.iload_n 1, 1) := by decide +kernel
theorem dX8_chains_72 : decode cX8_chains 72 = .ok (.imul, 1) := by decide +kernel
theorem dX8_chains_73 : decode cX8_chains 73 = .ok (.iconst 3, 1) := by decide +kernel
theorem dX8_chains_74 : decode cX8_chains 74 = .ok (.iadd, 1) := by decide +kernel
theorem dX8_chains_75 : decode cX8_chains 75 = .ok (.iaload, 1) := by decide +kernel
theorem dX8_chains_76 : decode cX8_chains 76 = .ok (.iconst 1, 1) := by decide +kernel
theorem dX8_chains_77 : decode cX8_chains 77 = .ok (.iadd, 1) := by decide +kernel
theorem dX8_chains_78 : decode cX8_chains 78 = .ok (.if_icmp .ne 16, 3) := by decide +kernel
theorem dX8_chains_81 : decode cX8_chains 81 = .ok (.aload_n 0, 1) := by decide +kernel
theorem dX8_chains_82 : decode cX8_chains 82 = .ok (.iload_n 2, 1) := by decide +kernel
theorem dX8_chains_83 : decode cX8_chains 83 = .ok (.iload_n 1, 1) := by decide +kernel
theorem dX8_chains_84 : decode cX8_chains 84 = .ok (.invokevirtual 126, 3) := by decide +kernel
theorem dX8_chains_87 : decode cX8_chains 87 = .ok (.ifCond .eq 7, 3) := by decide +kernel
theorem dX8_chains_90 : decode cX8_chains 90 = .ok (.iconst 1, 1) := by decide +kernel
theorem dX8_chains_91 : decode cX8_chains 91 = .ok (.goto 4, 3) := by decide +kernel
theorem dX8_chains_94 : decode cX8_chains 94 = .ok (.iconst 0, 1) := by decide +kernel
theorem dX8_chains_95 : decode cX8_chains 95 = .ok (.istore_n 3, 1) := by decide +kernel
theorem dX8_chains_96 : decode cX8_chains 96 = .ok (.aload_n 0, 1) := by decide +kernel
theorem dX8_chains_97 : decode cX8_chains 97 = .ok (.getfield 32, 3) := by decide +kernel
theorem dX8_chains_100 : decode cX8_chains 100 = .ok (.iload_n 1, 1) := by decide +kernel
theorem dX8_chains_101 : decode cX8_chains 101 = .ok (.iload_n 3, 1) := by decide +kernel
theorem dX8_chains_102 : decode cX8_chains 102 = .ok (.ifCond .eq 31, 3) := by decide +kernel
theorem dX8_chains_105 : decode cX8_chains 105 = .ok (.aload_n 0, 1) := by decide +kernel
theorem dX8_chains_106 : decode cX8_chains 106 = .ok (.getfield 32, 3) := by decide +kernel
theorem dX8_chains_109 : decode cX8_chains 109 = .ok (.iload_n 2, 1) := by decide +kernel
theorem dX8_chains_110 : decode cX8_chains 110 = .ok (.iaload, 1) := by decide +kernel
theorem dX8_chains_111 : decode cX8_chains 111 = .ok (.iconst 1, 1) := by decide +kernel
theorem dX8_chains_112 : decode cX8_chains 112 = .ok (.iadd, 1) := by decide +kernel
theorem dX8_chains_113 : decode cX8_chains 113 = .ok (.aload_n 0, 1) := by decide +kernel
theorem dX8_chains_114 : decode cX8_chains 114 = .ok (.getfield 32, 3) := by decide +kernel
theorem dX8_chains_117 : decode cX8_chains 117 = .ok (.iload_n 1, 1) := by decide +kernel
theorem dX8_chains_118 : decode cX8_chains 118 = .ok (.iaload, 1) := by decide +kernel
theorem dX8_chains_119 : decode cX8_chains 119 = .ok (.if_icmp .le 14, 3) := by decide +kernel
theorem dX8_chains_122 : decode cX8_chains 122 = .ok (.aload_n 0, 1) := by decide +kernel
theorem dX8_chains_123 : decode cX8_chains 123 = .ok (.getfield 32, 3) := by decide +kernel
theorem dX8_chains_126 : decode cX8_chains 126 = .ok (.iload_n 2, 1) := by decide +kernel
theorem dX8_chains_127 : decode cX8_chains 127 = .ok (.iaload, 1) := by decide +kernel
theorem dX8_chains_128 : decode cX8_chains 128 = .ok (.iconst 1, 1) := by decide +kernel
theorem dX8_chains_129 : decode cX8_chains 129 = .ok (.iadd, 1) := by decide +kernel
theorem dX8_chains_130 : decode cX8_chains 130 = .ok (.goto 9, 3) := by decide +kernel
theorem dX8_chains_133 : decode cX8_chains 133 = .ok (.aload_n 0, 1) := by decide +kernel
theorem dX8_chains_134 : decode cX8_chains 134 = .ok (.getfield 32, 3) := by decide +kernel
theorem dX8_chains_137 : decode cX8_chains 137 = .ok (.iload_n 1, 1) := by decide +kernel
theorem dX8_chains_138 : decode cX8_chains 138 = .ok (.iaload, 1) := by decide +kernel
theorem dX8_chains_139 : decode cX8_chains 139 = .ok (.iastore, 1) := by decide +kernel
theorem dX8_chains_140 : decode cX8_chains 140 = .ok (.iinc 2 1, 3) := by decide +kernel
theorem dX8_chains_143 : decode cX8_chains 143 = .ok (.goto (-106), 3) := by decide +kernel
theorem dX8_chains_146 : decode cX8_chains 146 = .ok (.aload_n 0, 1) := by decide +kernel
theorem dX8_chains_147 : decode cX8_chains 147 = .ok (.getfield 26, 3) := by decide +kernel
theorem dX8_chains_150 : decode cX8_chains 150 = .ok (.iconst 5, 1) := by decide +kernel
theorem dX8_chains_151 : decode cX8_chains 151 = .ok (.iload_n 1, 1) := by decide +kernel
theorem dX8_chains_152 : decode cX8_chains 152 = .ok (.imul, 1) := by decide +kernel
theorem dX8_chains_153 : decode cX8_chains 153 = .ok (.iconst 4, 1) := by decide +kernel
theorem dX8_chains_154 : decode cX8_chains 154 = .ok (.iadd, 1) := by decide +kernel
theorem dX8_chains_155 : decode cX8_chains 155 = .ok (.aload_n 0, 1) := by decide +kernel
theorem dX8_chains_156 : decode cX8_chains 156 = .ok (.iload_n 1, 1) := by decide +kernel
theorem dX8_chains_157 : decode cX8_chains 157 = .ok (.invokevirtual 120, 3) := by decide +kernel
theorem dX8_chains_160 : decode cX8_chains 160 = .ok (.ifCond .eq 21, 3) := by decide +kernel
theorem dX8_chains_163 : decode cX8_chains 163 = .ok (.aload_n 0, 1) := by decide +kernel
theorem dX8_chains_164 : decode cX8_chains 164 = .ok (.getfield 29, 3) := by decide +kernel
theorem dX8_chains_167 : decode cX8_chains 167 = .ok (.iload_n 1, 1) := by decide +kernel
theorem dX8_chains_168 : decode cX8_chains 168 = .ok (.iaload, 1) := by decide +kernel
theorem dX8_chains_169 : decode cX8_chains 169 = .ok (.aload_n 0, 1) := by decide +kernel
theorem dX8_chains_170 : decode cX8_chains 170 = .ok (.getfield 32, 3) := by decide +kernel
theorem dX8_chains_173 : decode cX8_chains 173 = .ok (.iload_n 1, 1) := by decide +kernel
theorem dX8_chains_174 : decode cX8_chains 174 = .ok (.iaload, 1) := by decide +kernel
theorem dX8_chains_175 : decode cX8_chains 175 = .ok (.iadd, 1) := by decide +kernel
theorem dX8_chains_176 : decode cX8_chains 176 = .ok (.iconst 1, 1) := by decide +kernel
theorem dX8_chains_177 : decode cX8_chains 177 = .ok (.isub, 1) := by decide +kernel
theorem dX8_chains_178 : decode cX8_chains 178 = .ok (.goto 4, 3) := by decide +kernel
theorem dX8_chains_181 : decode cX8_chains 181 = .ok (.iconst 0, 1) := by decide +kernel
theorem dX8_chains_182 : decode cX8_chains 182 = .ok (.iastore, 1) := by decide +kernel
theorem dX8_chains_183 : decode cX8_chains 183 = .ok (.iinc 1 (-1), 3) := by decide +kernel
theorem dX8_chains_186 : decode cX8_chains 186 = .ok (.goto (-176), 3) := by decide +kernel
theorem dX8_chains_189 : decode cX8_chains 189 = .ok (.return_, 1) := by decide +kernel
theorem dX8_finds_0 : decode cX8_finds 0 = .ok (.iconst (-1), 1) := by decide +kernel
theorem dX8_finds_1 : decode cX8_finds 1 = .ok (.istore_n 2, 1) := by decide +kernel
theorem dX8_finds_2 : decode cX8_finds 2 = .ok (.aload_n 0, 1) := by decide +kernel
theorem dX8_finds_3 : decode cX8_finds 3 = .ok (.iconst 0, 1) := by decide +kernel
theorem dX8_finds_4 : decode cX8_finds 4 = .ok (.putfield 129, 3) := by decide +kernel
theorem dX8_finds_7 : decode cX8_finds 7 = .ok (.aload_n 0, 1) := by decide +kernel
theorem dX8_finds_8 : decode cX8_finds 8 = .ok (.iconst (-1), 1) := by decide +kernel
theorem dX8_finds_9 : decode cX8_finds 9 = .ok (.putfield 132, 3) := by decide +kernel
theorem dX8_finds_12 : decode cX8_finds 12 = .ok (.aload_n 0, 1) := by decide +kernel
theorem dX8_finds_13 : decode cX8_finds 13 = .ok (.iload_n 1, 1) := by decide +kernel
theorem dX8_finds_14 : decode cX8_finds 14 = .ok (.invokevirtual 135, 3) := by decide +kernel
theorem dX8_finds_17 : decode cX8_finds 17 = .ok (.istore_n 3, 1) := by decide +kernel
theorem dX8_finds_18 : decode cX8_finds 18 = .ok (.iconst 1, 1) := by decide +kernel
theorem dX8_finds_19 : decode cX8_finds 19 = .ok (.aload_n 0, 1) := by decide +kernel
theorem dX8_finds_20 : decode cX8_finds 20 = .ok (.getfield 7, 3) := by decide +kernel
theorem dX8_finds_23 : decode cX8_finds 23 = .ok (.bipush 31, 2) := by decide +kernel
theorem dX8_finds_25 : decode cX8_finds 25 = .ok (.iaload, 1) := by decide +kernel
theorem dX8_finds_26 : decode cX8_finds 26 = .ok (.iconst 1, 1) := by decide +kernel
theorem dX8_finds_27 : decode cX8_finds 27 = .ok (.isub, 1) := by decide +kernel
theorem dX8_finds_28 : decode cX8_finds 28 = .ok (.ishl, 1) := by decide +kernel
theorem dX8_finds_29 : decode cX8_finds 29 = .ok (.iconst 1, 1) := by decide +kernel
theorem dX8_finds_30 : decode cX8_finds 30 = .ok (.isub, 1) := by decide +kernel
theorem dX8_finds_31 : decode cX8_finds 31 = .ok (.istore 4, 2) := by decide +kernel
theorem dX8_finds_33 : decode cX8_finds 33 = .ok (.iload 4, 2) := by decide +kernel
theorem dX8_finds_35 : decode cX8_finds 35 = .ok (.ifCond .lt 115, 3) := by decide +kernel
theorem dX8_finds_38 : decode cX8_finds 38 = .ok (.iload_n 3, 1) := by decide +kernel
theorem dX8_finds_39 : decode cX8_finds 39 = .ok (.ifCond .eq 111, 3) := by decide +kernel
theorem dX8_finds_42 : decode cX8_finds 42 = .ok (.aload_n 0, 1) := by decide +kernel
theorem dX8_finds_43 : decode cX8_finds 43 = .ok (.iload_n 1, 1) := by decide +kernel
theorem dX8_finds_44 : decode cX8_finds 44 = .ok (.iload 4, 2) := by decide +kernel
theorem dX8_finds_46 : decode cX8_finds 46 = .ok (.invokevirtual 138, 3) := by decide +kernel
theorem dX8_finds_49 : decode cX8_finds 49 = .ok (.istore 5, 2) := by decide +kernel
theorem dX8_finds_51 : decode cX8_finds 51 = .ok (.aload_n 0, 1) := by decide +kernel
theorem dX8_finds_52 : decode cX8_finds 52 = .ok (.dup, 1) := by decide +kernel
theorem dX8_finds_53 : decode cX8_finds 53 = .ok (.getfield 129, 3) := by decide +kernel
theorem dX8_finds_56 : decode cX8_finds 56 = .ok (.iload 5, 2) := by decide +kernel
theorem dX8_finds_58 : decode cX8_finds 58 = .ok (.iconst (-1), 1) := by decide +kernel
theorem dX8_finds_59 : decode cX8_finds 59 = .ok (.if_icmp .eq 7, 3) := by decide +kernel
theorem dX8_finds_62 : decode cX8_finds 62 = .ok (.iconst 1, 1) := by decide +kernel
theorem dX8_finds_63 : decode cX8_finds 63 = .ok (.goto 4, 3) := by decide +kernel
theorem dX8_finds_66 : decode cX8_finds 66 = .ok (.iconst 0, 1) := by decide +kernel
theorem dX8_finds_67 : decode cX8_finds 67 = .ok (.iadd, 1) := by decide +kernel
theorem dX8_finds_68 : decode cX8_finds 68 = .ok (.putfield 129, 3) := by decide +kernel
theorem dX8_finds_71 : decode cX8_finds 71 = .ok (.iload 5, 2) := by decide +kernel
theorem dX8_finds_73 : decode cX8_finds 73 = .ok (.iconst (-1), 1) := by decide +kernel
theorem dX8_finds_74 : decode cX8_finds 74 = .ok (.if_icmp .ne 40, 3) := by decide +kernel
theorem dX8_finds_77 : decode cX8_finds 77 = .ok (.aload_n 0, 1) := by decide +kernel
theorem dX8_finds_78 : decode cX8_finds 78 = .ok (.getfield 111, 3) := by decide +kernel
theorem dX8_finds_81 : decode cX8_finds 81 = .ok (.aload_n 0, 1) := by decide +kernel
theorem dX8_finds_82 : decode cX8_finds 82 = .ok (.getfield 7, 3) := by decide +kernel
theorem dX8_finds_85 : decode cX8_finds 85 = .ok (.bipush 31, 2) := by decide +kernel
theorem dX8_finds_87 : decode cX8_finds 87 = .ok (.iaload, 1) := by decide +kernel
theorem dX8_finds_88 : decode cX8_finds 88 = .ok (.if_icmp .ge 26, 3) := by decide +kernel
theorem dX8_finds_91 : decode cX8_finds 91 = .ok (.iload 4, 2) := by decide +kernel
theorem dX8_finds_93 : decode cX8_finds 93 = .ok (.iconst 1, 1) := by decide +kernel
theorem dX8_finds_94 : decode cX8_finds 94 = .ok (.aload_n 0, 1) := by decide +kernel
theorem dX8_finds_95 : decode cX8_finds 95 = .ok (.getfield 7, 3) := by decide +kernel
theorem dX8_finds_98 : decode cX8_finds 98 = .ok (.bipush 31, 2) := by decide +kernel
theorem dX8_finds_100 : decode cX8_finds 100 = .ok (.iaload, 1) := by decide +kernel
theorem dX8_finds_101 : decode cX8_finds 101 = .ok (.iconst 1, 1) := by decide +kernel
theorem dX8_finds_102 : decode cX8_finds 102 = .ok (.isub, 1) := by decide +kernel
theorem dX8_finds_103 : decode cX8_finds 103 = .ok (.aload_n 0, 1) := by decide +kernel
theorem dX8_finds_104 : decode cX8_finds 104 = .ok (.getfield 111, 3) := by decide +kernel
theorem dX8_finds_107 : decode cX8_finds 107 = .ok (.isub, 1) := by decide +kernel
theorem dX8_finds_108 : decode cX8_finds 108 = .ok (.ishl, 1) := by decide +kernel
theorem dX8_finds_109 : decode cX8_finds 109 = .ok (.ineg, 1) := by decide +kernel
theorem dX8_finds_110 : decode cX8_finds 110 = .ok (.iand, 1) := by decide +kernel
theorem dX8_finds_111 : decode cX8_finds 111 = .ok (.goto 5, 3) := by decide +kernel
theorem dX8_finds_114 : decode cX8_finds 114 = .ok (.iload 4, 2) := by decide +kernel
theorem dX8_finds_116 : decode cX8_finds 116 = .ok (.istore 4, 2) := by decide +kernel
theorem dX8_finds_118 : decode cX8_finds 118 = .ok (.iload 5, 2) := by decide +kernel
theorem dX8_finds_120 : decode cX8_finds 120 = .ok (.iconst (-1), 1) := by decide +kernel
theorem dX8_finds_121 : decode cX8_finds 121 = .ok (.if_icmp .eq 23, 3) := by decide +kernel
theorem dX8_finds_124 : decode cX8_finds 124 = .ok (.iload_n 2, 1) := by decide +kernel
theorem dX8_finds_125 : decode cX8_finds 125 = .ok (.iconst (-1), 1) := by decide +kernel
theorem dX8_finds_126 : decode cX8_finds 126 = .ok (.if_icmp .eq 9, 3) := by decide +kernel
theorem dX8_finds_129 : decode cX8_finds 129 = .ok (.iload 5, 2) := by decide +kernel
theorem dX8_finds_131 : decode cX8_finds 131 = .ok (.iload_n 2, 1) := by decide +kernel
theorem dX8_finds_132 : decode cX8_finds 132 = .ok (.if_icmp .ge 12, 3) := by decide +kernel
theorem dX8_finds_135 : decode cX8_finds 135 = .ok (.iload 5, 2) := by decide +kernel
theorem dX8_finds_137 : decode cX8_finds 137 = .ok (.istore_n 2, 1) := by decide +kernel
theorem dX8_finds_138 : decode cX8_finds 138 = .ok (.aload_n 0, 1) := by decide +kernel
theorem dX8_finds_139 : decode cX8_finds 139 = .ok (.iload 4, 2) := by decide +kernel
theorem dX8_finds_141 : decode cX8_finds 141 = .ok (.putfield 132, 3) := by decide +kernel
theorem dX8_finds_144 : decode cX8_finds 144 = .ok (.iinc 4 (-1), 3) := by decide +kernel
theorem dX8_finds_147 : decode cX8_finds 147 = .ok (.goto (-114), 3) := by decide +kernel
theorem dX8_finds_150 : decode cX8_finds 150 = .ok (.iload_n 2, 1) := by decide +kernel
theorem dX8_finds_151 : decode cX8_finds 151 = .ok (.ireturn, 1) := by decide +kernel
theorem dX8_fits_0 : decode cX8_fits 0 = .ok (.aload_n 0, 1) := by decide +kernel
theorem dX8_fits_1 : decode cX8_fits 1 = .ok (.getfield 7, 3) := by decide +kernel
theorem dX8_fits_4 : decode cX8_fits 4 = .ok (.bipush 31, 2) := by decide +kernel
theorem dX8_fits_6 : decode cX8_fits 6 = .ok (.iaload, 1) := by decide +kernel
theorem dX8_fits_7 : decode cX8_fits 7 = .ok (.ifCond .ne 7, 3) := by decide +kernel
theorem dX8_fits_10 : decode cX8_fits 10 = .ok (.iconst 0, 1) := by decide +kernel
theorem dX8_fits_11 : decode cX8_fits 11 = .ok (.goto 5, 3) := by decide +kernel
theorem dX8_fits_14 : decode cX8_fits 14 = .ok (.bipush 12, 2) := by decide +kernel
theorem dX8_fits_16 : decode cX8_fits 16 = .ok (.istore_n 1, 1) := by decide +kernel
theorem dX8_fits_17 : decode cX8_fits 17 = .ok (.iload_n 1, 1) := by decide +kernel
theorem dX8_fits_18 : decode cX8_fits 18 = .ok (.ifCond .le 18, 3) := by decide +kernel
theorem dX8_fits_21 : decode cX8_fits 21 = .ok (.aload_n 0, 1) := by decide +kernel
theorem dX8_fits_22 : decode cX8_fits 22 = .ok (.iload_n 1, 1) := by decide +kernel
theorem dX8_fits_23 : decode cX8_fits 23 = .ok (.invokevirtual 141, 3) := by decide +kernel
theorem dX8_fits_26 : decode cX8_fits 26 = .ok (.iconst (-1), 1) := by decide +kernel
theorem dX8_fits_27 : decode cX8_fits 27 = .ok (.if_icmp .ne 9, 3) := by decide +kernel
theorem dX8_fits_30 : decode cX8_fits 30 = .ok (.iinc 1 (-1), 3) := by decide +kernel
theorem dX8_fits_33 : decode cX8_fits 33 = .ok (.goto (-16), 3) := by decide +kernel
theorem dX8_fits_36 : decode cX8_fits 36 = .ok (.iload_n 1, 1) := by decide +kernel
theorem dX8_fits_37 : decode cX8_fits 37 = .ok (.ifCond .le 7, 3) := by decide +kernel
theorem dX8_fits_40 : decode cX8_fits 40 = .ok (.iload_n 1, 1) := by decide +kernel
theorem dX8_fits_41 : decode cX8_fits 41 = .ok (.goto 4, 3) := by decide +kernel
theorem dX8_fits_44 : decode cX8_fits 44 = .ok (.iconst (-1), 1) := by decide +kernel
theorem dX8_fits_45 : decode cX8_fits 45 = .ok (.ireturn, 1) := by decide +kernel
theorem dX8_cost_0 : decode cX8_cost 0 = .ok (.iload_n 1, 1) := by decide +kernel
theorem dX8_cost_1 : decode cX8_cost 1 = .ok (.iconst 1, 1) := by decide +kernel
theorem dX8_cost_2 : decode cX8_cost 2 = .ok (.bipush 12, 2) := by decide +kernel
theorem dX8_cost_4 : decode cX8_cost 4 = .ok (.invokestatic 53, 3) := by decide +kernel
theorem dX8_cost_7 : decode cX8_cost 7 = .ok (.ifCond .ne 6, 3) := by decide +kernel
theorem dX8_cost_10 : decode cX8_cost 10 = .ok (.bipush (-3), 2) := by decide +kernel
theorem dX8_cost_12 : decode cX8_cost 12 = .ok (.ireturn, 1) := by decide +kernel
theorem dX8_cost_13 : decode cX8_cost 13 = .ok (.aload_n 0, 1) := by decide +kernel
theorem dX8_cost_14 : decode cX8_cost 14 = .ok (.invokevirtual 83, 3) := by decide +kernel
theorem dX8_cost_17 : decode cX8_cost 17 = .ok (.aload_n 0, 1) := by decide +kernel
theorem dX8_cost_18 : decode cX8_cost 18 = .ok (.getfield 7, 3) := by decide +kernel
theorem dX8_cost_21 : decode cX8_cost 21 = .ok (.bipush 31, 2) := by decide +kernel
theorem dX8_cost_23 : decode cX8_cost 23 = .ok (.iaload, 1) := by decide +kernel
theorem dX8_cost_24 : decode cX8_cost 24 = .ok (.ifCond .ne 7, 3) := by decide +kernel
theorem dX8_cost_27 : decode cX8_cost 27 = .ok (.iconst (-1), 1) := by decide +kernel
theorem dX8_cost_28 : decode cX8_cost 28 = .ok (.goto 8, 3) := by decide +kernel
theorem dX8_cost_31 : decode cX8_cost 31 = .ok (.aload_n 0, 1) := by decide +kernel
theorem dX8_cost_32 : decode cX8_cost 32 = .ok (.iload_n 1, 1) := by decide +kernel
theorem dX8_cost_33 : decode cX8_cost 33 = .ok (.invokevirtual 141, 3) := by decide +kernel
theorem dX8_cost_36 : decode cX8_cost 36 = .ok (.ireturn, 1) := by decide +kernel
theorem dX8_fit_0 : decode cX8_fit 0 = .ok (.aload_n 0, 1) := by decide +kernel
theorem dX8_fit_1 : decode cX8_fit 1 = .ok (.invokevirtual 83, 3) := by decide +kernel
theorem dX8_fit_4 : decode cX8_fit 4 = .ok (.aload_n 0, 1) := by decide +kernel
theorem dX8_fit_5 : decode cX8_fit 5 = .ok (.invokevirtual 144, 3) := by decide +kernel
theorem dX8_fit_8 : decode cX8_fit 8 = .ok (.ireturn, 1) := by decide +kernel
theorem dX8_allowed_0 : decode cX8_allowed 0 = .ok (.iload_n 1, 1) := by decide +kernel
theorem dX8_allowed_1 : decode cX8_allowed 1 = .ok (.iconst 1, 1) := by decide +kernel
theorem dX8_allowed_2 : decode cX8_allowed 2 = .ok (.bipush 12, 2) := by decide +kernel
theorem dX8_allowed_4 : decode cX8_allowed 4 = .ok (.invokestatic 53, 3) := by decide +kernel
theorem dX8_allowed_7 : decode cX8_allowed 7 = .ok (.ifCond .ne 6, 3) := by decide +kernel
theorem dX8_allowed_10 : decode cX8_allowed 10 = .ok (.bipush (-3), 2) := by decide +kernel
theorem dX8_allowed_12 : decode cX8_allowed 12 = .ok (.ireturn, 1) := by decide +kernel
theorem dX8_allowed_13 : decode cX8_allowed 13 = .ok (.aload_n 0, 1) := by decide +kernel
theorem dX8_allowed_14 : decode cX8_allowed 14 = .ok (.invokevirtual 83, 3) := by decide +kernel
theorem dX8_allowed_17 : decode cX8_allowed 17 = .ok (.aload_n 0, 1) := by decide +kernel
theorem dX8_allowed_18 : decode cX8_allowed 18 = .ok (.getfield 7, 3) := by decide +kernel
theorem dX8_allowed_21 : decode cX8_allowed 21 = .ok (.bipush 31, 2) := by decide +kernel
theorem dX8_allowed_23 : decode cX8_allowed 23 = .ok (.iaload, 1) := by decide +kernel
theorem dX8_allowed_24 : decode cX8_allowed 24 = .ok (.ifCond .ne 7, 3) := by decide +kernel
theorem dX8_allowed_27 : decode cX8_allowed 27 = .ok (.iconst (-1), 1) := by decide +kernel
theorem dX8_allowed_28 : decode cX8_allowed 28 = .ok (.goto 8, 3) := by decide +kernel
theorem dX8_allowed_31 : decode cX8_allowed 31 = .ok (.aload_n 0, 1) := by decide +kernel
theorem dX8_allowed_32 : decode cX8_allowed 32 = .ok (.iload_n 1, 1) := by decide +kernel
theorem dX8_allowed_33 : decode cX8_allowed 33 = .ok (.invokevirtual 141, 3) := by decide +kernel
theorem dX8_allowed_36 : decode cX8_allowed 36 = .ok (.istore_n 2, 1) := by decide +kernel
theorem dX8_allowed_37 : decode cX8_allowed 37 = .ok (.aload_n 0, 1) := by decide +kernel
theorem dX8_allowed_38 : decode cX8_allowed 38 = .ok (.getfield 7, 3) := by decide +kernel
theorem dX8_allowed_41 : decode cX8_allowed 41 = .ok (.bipush 31, 2) := by decide +kernel
theorem dX8_allowed_43 : decode cX8_allowed 43 = .ok (.iaload, 1) := by decide +kernel
theorem dX8_allowed_44 : decode cX8_allowed 44 = .ok (.ifCond .ne 7, 3) := by decide +kernel
theorem dX8_allowed_47 : decode cX8_allowed 47 = .ok (.iconst 0, 1) := by decide +kernel
theorem dX8_allowed_48 : decode cX8_allowed 48 = .ok (.goto 7, 3) := by decide +kernel
theorem dX8_allowed_51 : decode cX8_allowed 51 = .ok (.aload_n 0, 1) := by decide +kernel
theorem dX8_allowed_52 : decode cX8_allowed 52 = .ok (.getfield 129, 3) := by decide +kernel
theorem dX8_allowed_55 : decode cX8_allowed 55 = .ok (.ireturn, 1) := by decide +kernel
theorem dX8_take_0 : decode cX8_take 0 = .ok (.iload_n 1, 1) := by decide +kernel
theorem dX8_take_1 : decode cX8_take 1 = .ok (.iconst 0, 1) := by decide +kernel
theorem dX8_take_2 : decode cX8_take 2 = .ok (.bipush 12, 2) := by decide +kernel
theorem dX8_take_4 : decode cX8_take 4 = .ok (.invokestatic 53, 3) := by decide +kernel
theorem dX8_take_7 : decode cX8_take 7 = .ok (.ifCond .ne 6, 3) := by decide +kernel
theorem dX8_take_10 : decode cX8_take 10 = .ok (.bipush (-3), 2) := by decide +kernel
theorem dX8_take_12 : decode cX8_take 12 = .ok (.ireturn, 1) := by decide +kernel
theorem dX8_take_13 : decode cX8_take 13 = .ok (.aload_n 0, 1) := by decide +kernel
theorem dX8_take_14 : decode cX8_take 14 = .ok (.invokevirtual 68, 3) := by decide +kernel
theorem dX8_take_17 : decode cX8_take 17 = .ok (.aload_n 0, 1) := by decide +kernel
theorem dX8_take_18 : decode cX8_take 18 = .ok (.invokevirtual 83, 3) := by decide +kernel
theorem dX8_take_21 : decode cX8_take 21 = .ok (.iload_n 1, 1) := by decide +kernel
theorem dX8_take_22 : decode cX8_take 22 = .ok (.ifCond .ne 10, 3) := by decide +kernel
theorem dX8_take_25 : decode cX8_take 25 = .ok (.aload_n 0, 1) := by decide +kernel
theorem dX8_take_26 : decode cX8_take 26 = .ok (.invokevirtual 144, 3) := by decide +kernel
theorem dX8_take_29 : decode cX8_take 29 = .ok (.goto 4, 3) := by decide +kernel
theorem dX8_take_32 : decode cX8_take 32 = .ok (.iload_n 1, 1) := by decide +kernel
theorem dX8_take_33 : decode cX8_take 33 = .ok (.istore_n 2, 1) := by decide +kernel
theorem dX8_take_34 : decode cX8_take 34 = .ok (.iload_n 2, 1) := by decide +kernel
theorem dX8_take_35 : decode cX8_take 35 = .ok (.iconst (-1), 1) := by decide +kernel
theorem dX8_take_36 : decode cX8_take 36 = .ok (.if_icmp .eq 13, 3) := by decide +kernel
theorem dX8_take_39 : decode cX8_take 39 = .ok (.aload_n 0, 1) := by decide +kernel
theorem dX8_take_40 : decode cX8_take 40 = .ok (.getfield 7, 3) := by decide +kernel
theorem dX8_take_43 : decode cX8_take 43 = .ok (.bipush 31, 2) := by decide +kernel
theorem dX8_take_45 : decode cX8_take 45 = .ok (.iaload, 1) := by decide +kernel
theorem dX8_take_46 : decode cX8_take 46 = .ok (.ifCond .ne 7, 3) := by decide +kernel
theorem dX8_take_49 : decode cX8_take 49 = .ok (.iconst (-1), 1) := by decide +kernel
theorem dX8_take_50 : decode cX8_take 50 = .ok (.goto 8, 3) := by decide +kernel
theorem dX8_take_53 : decode cX8_take 53 = .ok (.aload_n 0, 1) := by decide +kernel
theorem dX8_take_54 : decode cX8_take 54 = .ok (.iload_n 2, 1) := by decide +kernel
theorem dX8_take_55 : decode cX8_take 55 = .ok (.invokevirtual 141, 3) := by decide +kernel
theorem dX8_take_58 : decode cX8_take 58 = .ok (.istore_n 3, 1) := by decide +kernel
theorem dX8_take_59 : decode cX8_take 59 = .ok (.iload_n 3, 1) := by decide +kernel
theorem dX8_take_60 : decode cX8_take 60 = .ok (.iconst (-1), 1) := by decide +kernel
theorem dX8_take_61 : decode cX8_take 61 = .ok (.if_icmp .ne 5, 3) := by decide +kernel
theorem dX8_take_64 : decode cX8_take 64 = .ok (.iconst (-1), 1) := by decide +kernel
theorem dX8_take_65 : decode cX8_take 65 = .ok (.ireturn, 1) := by decide +kernel
theorem dX8_take_66 : decode cX8_take 66 = .ok (.aload_n 0, 1) := by decide +kernel
theorem dX8_take_67 : decode cX8_take 67 = .ok (.iload_n 2, 1) := by decide +kernel
theorem dX8_take_68 : decode cX8_take 68 = .ok (.aload_n 0, 1) := by decide +kernel
theorem dX8_take_69 : decode cX8_take 69 = .ok (.getfield 132, 3) := by decide +kernel
theorem dX8_take_72 : decode cX8_take 72 = .ok (.invokevirtual 138, 3) := by decide +kernel
theorem dX8_take_75 : decode cX8_take 75 = .ok (.istore_n 3, 1) := by decide +kernel
theorem dX8_take_76 : decode cX8_take 76 = .ok (.aload_n 0, 1) := by decide +kernel
theorem dX8_take_77 : decode cX8_take 77 = .ok (.invokevirtual 147, 3) := by decide +kernel
theorem dX8_take_80 : decode cX8_take 80 = .ok (.aload_n 0, 1) := by decide +kernel
theorem dX8_take_81 : decode cX8_take 81 = .ok (.getfield 7, 3) := by decide +kernel
theorem dX8_take_84 : decode cX8_take 84 = .ok (.bipush 82, 2) := by decide +kernel
theorem dX8_take_86 : decode cX8_take 86 = .ok (.iconst 1, 1) := by decide +kernel
theorem dX8_take_87 : decode cX8_take 87 = .ok (.iastore, 1) := by decide +kernel
theorem dX8_take_88 : decode cX8_take 88 = .ok (.aload_n 0, 1) := by decide +kernel
theorem dX8_take_89 : decode cX8_take 89 = .ok (.getfield 7, 3) := by decide +kernel
theorem dX8_take_92 : decode cX8_take 92 = .ok (.bipush 83, 2) := by decide +kernel
theorem dX8_take_94 : decode cX8_take 94 = .ok (.iload_n 2, 1) := by decide +kernel
theorem dX8_take_95 : decode cX8_take 95 = .ok (.iastore, 1) := by decide +kernel
theorem dX8_take_96 : decode cX8_take 96 = .ok (.aload_n 0, 1) := by decide +kernel
theorem dX8_take_97 : decode cX8_take 97 = .ok (.getfield 7, 3) := by decide +kernel
theorem dX8_take_100 : decode cX8_take 100 = .ok (.bipush 84, 2) := by decide +kernel
theorem dX8_take_102 : decode cX8_take 102 = .ok (.aload_n 0, 1) := by decide +kernel
theorem dX8_take_103 : decode cX8_take 103 = .ok (.getfield 99, 3) := by decide +kernel
theorem dX8_take_106 : decode cX8_take 106 = .ok (.iastore, 1) := by decide +kernel
theorem dX8_take_107 : decode cX8_take 107 = .ok (.aload_n 0, 1) := by decide +kernel
theorem dX8_take_108 : decode cX8_take 108 = .ok (.getfield 7, 3) := by decide +kernel
theorem dX8_take_111 : decode cX8_take 111 = .ok (.bipush 85, 2) := by decide +kernel
theorem dX8_take_113 : decode cX8_take 113 = .ok (.iload_n 3, 1) := by decide +kernel
theorem dX8_take_114 : decode cX8_take 114 = .ok (.iastore, 1) := by decide +kernel
theorem dX8_take_115 : decode cX8_take 115 = .ok (.aload_n 0, 1) := by decide +kernel
theorem dX8_take_116 : decode cX8_take 116 = .ok (.getfield 7, 3) := by decide +kernel
theorem dX8_take_119 : decode cX8_take 119 = .ok (.bipush 86, 2) := by decide +kernel
theorem dX8_take_121 : decode cX8_take 121 = .ok (.aload_n 0, 1) := by decide +kernel
theorem dX8_take_122 : decode cX8_take 122 = .ok (.getfield 102, 3) := by decide +kernel
theorem dX8_take_125 : decode cX8_take 125 = .ok (.iastore, 1) := by decide +kernel
theorem dX8_take_126 : decode cX8_take 126 = .ok (.aload_n 0, 1) := by decide +kernel
theorem dX8_take_127 : decode cX8_take 127 = .ok (.getfield 7, 3) := by decide +kernel
theorem dX8_take_130 : decode cX8_take 130 = .ok (.bipush 87, 2) := by decide +kernel
theorem dX8_take_132 : decode cX8_take 132 = .ok (.aload_n 0, 1) := by decide +kernel
theorem dX8_take_133 : decode cX8_take 133 = .ok (.getfield 23, 3) := by decide +kernel
theorem dX8_take_136 : decode cX8_take 136 = .ok (.bipush 7, 2) := by decide +kernel
theorem dX8_take_138 : decode cX8_take 138 = .ok (.aload_n 0, 1) := by decide +kernel
theorem dX8_take_139 : decode cX8_take 139 = .ok (.getfield 99, 3) := by decide +kernel
theorem dX8_take_142 : decode cX8_take 142 = .ok (.iconst 1, 1) := by decide +kernel
theorem dX8_take_143 : decode cX8_take 143 = .ok (.isub, 1) := by decide +kernel
theorem dX8_take_144 : decode cX8_take 144 = .ok (.imul, 1) := by decide +kernel
theorem dX8_take_145 : decode cX8_take 145 = .ok (.iconst 2, 1) := by decide +kernel
theorem dX8_take_146 : decode cX8_take 146 = .ok (.iadd, 1) := by decide +kernel
theorem dX8_take_147 : decode cX8_take 147 = .ok (.iaload, 1) := by decide +kernel
theorem dX8_take_148 : decode cX8_take 148 = .ok (.aload_n 0, 1) := by decide +kernel
theorem dX8_take_149 : decode cX8_take 149 = .ok (.getfield 23, 3) := by decide +kernel
theorem dX8_take_152 : decode cX8_take 152 = .ok (.bipush 7, 2) := by decide +kernel
theorem dX8_take_154 : decode cX8_take 154 = .ok (.aload_n 0, 1) := by decide +kernel
theorem dX8_take_155 : decode cX8_take 155 = .ok (.getfield 99, 3) := by decide +kernel
theorem dX8_take_158 : decode cX8_take 158 = .ok (.iconst 1, 1) := by decide +kernel
theorem dX8_take_159 : decode cX8_take 159 = .ok (.isub, 1) := by decide +kernel
theorem dX8_take_160 : decode cX8_take 160 = .ok (.imul, 1) := by decide +kernel
theorem dX8_take_161 : decode cX8_take 161 = .ok (.iconst 3, 1) := by decide +kernel
theorem dX8_take_162 : decode cX8_take 162 = .ok (.iadd, 1) := by decide +kernel
theorem dX8_take_163 : decode cX8_take 163 = .ok (.iaload, 1) := by decide +kernel
theorem dX8_take_164 : decode cX8_take 164 = .ok (.iadd, 1) := by decide +kernel
theorem dX8_take_165 : decode cX8_take 165 = .ok (.iastore, 1) := by decide +kernel
theorem dX8_take_166 : decode cX8_take 166 = .ok (.iconst 0, 1) := by decide +kernel
theorem dX8_take_167 : decode cX8_take 167 = .ok (.istore 4, 2) := by decide +kernel
theorem dX8_take_169 : decode cX8_take 169 = .ok (.iload 4, 2) := by decide +kernel
theorem dX8_take_171 : decode cX8_take 171 = .ok (.bipush 7, 2) := by decide +kernel
theorem dX8_take_173 : decode cX8_take 173 = .ok (.aload_n 0, 1) := by decide +kernel
theorem dX8_take_174 : decode cX8_take 174 = .ok (.getfield 99, 3) := by decide +kernel
theorem dX8_take_177 : decode cX8_take 177 = .ok (.imul, 1) := by decide +kernel
theorem dX8_take_178 : decode cX8_take 178 = .ok (.if_icmp .ge 26, 3) := by decide +kernel
theorem dX8_take_181 : decode cX8_take 181 = .ok (.aload_n 0, 1) := by decide +kernel
theorem dX8_take_182 : decode cX8_take 182 = .ok (.getfield 7, 3) := by decide +kernel
theorem dX8_take_185 : decode cX8_take 185 = .ok (.bipush 88, 2) := by decide +kernel
theorem dX8_take_187 : decode cX8_take 187 = .ok (.iload 4, 2) := by decide +kernel
theorem dX8_take_189 : decode cX8_take 189 = .ok (.iadd, 1) := by decide +kernel
theorem dX8_take_190 : decode cX8_take 190 = .ok (.aload_n 0, 1) := by decide +kernel
theorem dX8_take_191 : decode cX8_take 191 = .ok (.getfield 23, 3) := by decide +kernel
theorem dX8_take_194 : decode cX8_take 194 = .ok (.iload 4, 2) := by decide +kernel
theorem dX8_take_196 : decode cX8_take 196 = .ok (.iaload, 1) := by decide +kernel
theorem dX8_take_197 : decode cX8_take 197 = .ok (.iastore, 1) := by decide +kernel
theorem dX8_take_198 : decode cX8_take 198 = .ok (.iinc 4 1, 3) := by decide +kernel
theorem dX8_take_201 : decode cX8_take 201 = .ok (.goto (-32), 3) := by decide +kernel
theorem dX8_take_204 : decode cX8_take 204 = .ok (.iconst 0, 1) := by decide +kernel
theorem dX8_take_205 : decode cX8_take 205 = .ok (.istore 4, 2) := by decide +kernel
theorem dX8_take_207 : decode cX8_take 207 = .ok (.iload 4, 2) := by decide +kernel
theorem dX8_take_209 : decode cX8_take 209 = .ok (.iconst 5, 1) := by decide +kernel
theorem dX8_take_210 : decode cX8_take 210 = .ok (.aload_n 0, 1) := by decide +kernel
theorem dX8_take_211 : decode cX8_take 211 = .ok (.getfield 7, 3) := by decide +kernel
theorem dX8_take_214 : decode cX8_take 214 = .ok (.bipush 31, 2) := by decide +kernel
theorem dX8_take_216 : decode cX8_take 216 = .ok (.iaload, 1) := by decide +kernel
theorem dX8_take_217 : decode cX8_take 217 = .ok (.imul, 1) := by decide +kernel
theorem dX8_take_218 : decode cX8_take 218 = .ok (.if_icmp .ge 27, 3) := by decide +kernel
theorem dX8_take_221 : decode cX8_take 221 = .ok (.aload_n 0, 1) := by decide +kernel
theorem dX8_take_222 : decode cX8_take 222 = .ok (.getfield 7, 3) := by decide +kernel
theorem dX8_take_225 : decode cX8_take 225 = .ok (.sipush 186, 3) := by decide +kernel
theorem dX8_take_228 : decode cX8_take 228 = .ok (.iload 4, 2) := by decide +kernel
theorem dX8_take_230 : decode cX8_take 230 = .ok (.iadd, 1) := by decide +kernel
theorem dX8_take_231 : decode cX8_take 231 = .ok (.aload_n 0, 1) := by decide +kernel
theorem dX8_take_232 : decode cX8_take 232 = .ok (.getfield 26, 3) := by decide +kernel
theorem dX8_take_235 : decode cX8_take 235 = .ok (.iload 4, 2) := by decide +kernel
theorem dX8_take_237 : decode cX8_take 237 = .ok (.iaload, 1) := by decide +kernel
theorem dX8_take_238 : decode cX8_take 238 = .ok (.iastore, 1) := by decide +kernel
theorem dX8_take_239 : decode cX8_take 239 = .ok (.iinc 4 1, 3) := by decide +kernel
theorem dX8_take_242 : decode cX8_take 242 = .ok (.goto (-35), 3) := by decide +kernel
theorem dX8_take_245 : decode cX8_take 245 = .ok (.aload_n 0, 1) := by decide +kernel
theorem dX8_take_246 : decode cX8_take 246 = .ok (.getfield 7, 3) := by decide +kernel
theorem dX8_take_249 : decode cX8_take 249 = .ok (.sipush 256, 3) := by decide +kernel
theorem dX8_take_252 : decode cX8_take 252 = .ok (.aload_n 0, 1) := by decide +kernel
theorem dX8_take_253 : decode cX8_take 253 = .ok (.getfield 7, 3) := by decide +kernel
theorem dX8_take_256 : decode cX8_take 256 = .ok (.bipush 31, 2) := by decide +kernel
theorem dX8_take_258 : decode cX8_take 258 = .ok (.iaload, 1) := by decide +kernel
theorem dX8_take_259 : decode cX8_take 259 = .ok (.iastore, 1) := by decide +kernel
theorem dX8_take_260 : decode cX8_take 260 = .ok (.iload_n 3, 1) := by decide +kernel
theorem dX8_take_261 : decode cX8_take 261 = .ok (.ireturn, 1) := by decide +kernel
theorem dX8_widestStep_0 : decode cX8_widestStep 0 = .ok (.iload_n 1, 1) := by decide +kernel
theorem dX8_widestStep_1 : decode cX8_widestStep 1 = .ok (.iconst 1, 1) := by decide +kernel
theorem dX8_widestStep_2 : decode cX8_widestStep 2 = .ok (.bipush 12, 2) := by decide +kernel
theorem dX8_widestStep_4 : decode cX8_widestStep 4 = .ok (.invokestatic 53, 3) := by decide +kernel
theorem dX8_widestStep_7 : decode cX8_widestStep 7 = .ok (.ifCond .ne 6, 3) := by decide +kernel
theorem dX8_widestStep_10 : decode cX8_widestStep 10 = .ok (.bipush (-3), 2) := by decide +kernel
theorem dX8_widestStep_12 : decode cX8_widestStep 12 = .ok (.ireturn, 1) := by decide +kernel
theorem dX8_widestStep_13 : decode cX8_widestStep 13 = .ok (.aload_n 0, 1) := by decide +kernel
theorem dX8_widestStep_14 : decode cX8_widestStep 14 = .ok (.invokevirtual 83, 3) := by decide +kernel
theorem dX8_widestStep_17 : decode cX8_widestStep 17 = .ok (.aload_n 0, 1) := by decide +kernel
theorem dX8_widestStep_18 : decode cX8_widestStep 18 = .ok (.getfield 7, 3) := by decide +kernel
theorem dX8_widestStep_21 : decode cX8_widestStep 21 = .ok (.bipush 74, 2) := by decide +kernel
theorem dX8_widestStep_23 : decode cX8_widestStep 23 = .ok (.iaload, 1) := by decide +kernel
theorem dX8_widestStep_24 : decode cX8_widestStep 24 = .ok (.istore_n 2, 1) := by decide +kernel
theorem dX8_widestStep_25 : decode cX8_widestStep 25 = .ok (.aload_n 0, 1) := by decide +kernel
theorem dX8_widestStep_26 : decode cX8_widestStep 26 = .ok (.getfield 7, 3) := by decide +kernel
theorem dX8_widestStep_29 : decode cX8_widestStep 29 = .ok (.bipush 31, 2) := by decide +kernel
theorem dX8_widestStep_31 : decode cX8_widestStep 31 = .ok (.iaload, 1) := by decide +kernel
theorem dX8_widestStep_32 : decode cX8_widestStep 32 = .ok (.ifCond .ne 7, 3) := by decide +kernel
theorem dX8_widestStep_35 : decode cX8_widestStep 35 = .ok (.iconst (-1), 1) := by decide +kernel
theorem dX8_widestStep_36 : decode cX8_widestStep 36 = .ok (.goto 4, 3) := by decide +kernel
theorem dX8_widestStep_39 : decode cX8_widestStep 39 = .ok (.iconst 4, 1) := by decide +kernel
theorem dX8_widestStep_40 : decode cX8_widestStep 40 = .ok (.istore_n 3, 1) := by decide +kernel
theorem dX8_widestStep_41 : decode cX8_widestStep 41 = .ok (.iload_n 3, 1) := by decide +kernel
theorem dX8_widestStep_42 : decode cX8_widestStep 42 = .ok (.ifCond .lt 7, 3) := by decide +kernel
theorem dX8_widestStep_45 : decode cX8_widestStep 45 = .ok (.iconst 1, 1) := by decide +kernel
theorem dX8_widestStep_46 : decode cX8_widestStep 46 = .ok (.goto 4, 3) := by decide +kernel
theorem dX8_widestStep_49 : decode cX8_widestStep 49 = .ok (.iconst 0, 1) := by decide +kernel
theorem dX8_widestStep_50 : decode cX8_widestStep 50 = .ok (.istore 4, 2) := by decide +kernel
theorem dX8_widestStep_52 : decode cX8_widestStep 52 = .ok (.iload 4, 2) := by decide +kernel
theorem dX8_widestStep_54 : decode cX8_widestStep 54 = .ok (.ifCond .eq 59, 3) := by decide +kernel
theorem dX8_widestStep_57 : decode cX8_widestStep 57 = .ok (.aload_n 0, 1) := by decide +kernel
theorem dX8_widestStep_58 : decode cX8_widestStep 58 = .ok (.getfield 7, 3) := by decide +kernel
theorem dX8_widestStep_61 : decode cX8_widestStep 61 = .ok (.bipush 74, 2) := by decide +kernel
theorem dX8_widestStep_63 : decode cX8_widestStep 63 = .ok (.iload_n 3, 1) := by decide +kernel
theorem dX8_widestStep_64 : decode cX8_widestStep 64 = .ok (.iastore, 1) := by decide +kernel
theorem dX8_widestStep_65 : decode cX8_widestStep 65 = .ok (.aload_n 0, 1) := by decide +kernel
theorem dX8_widestStep_66 : decode cX8_widestStep 66 = .ok (.iload_n 1, 1) := by decide +kernel
theorem dX8_widestStep_67 : decode cX8_widestStep 67 = .ok (.invokevirtual 141, 3) := by decide +kernel
theorem dX8_widestStep_70 : decode cX8_widestStep 70 = .ok (.iconst (-1), 1) := by decide +kernel
theorem dX8_widestStep_71 : decode cX8_widestStep 71 = .ok (.if_icmp .ne 7, 3) := by decide +kernel
theorem dX8_widestStep_74 : decode cX8_widestStep 74 = .ok (.iconst 1, 1) := by decide +kernel
theorem dX8_widestStep_75 : decode cX8_widestStep 75 = .ok (.goto 4, 3) := by decide +kernel
theorem dX8_widestStep_78 : decode cX8_widestStep 78 = .ok (.iconst 0, 1) := by decide +kernel
theorem dX8_widestStep_79 : decode cX8_widestStep 79 = .ok (.istore 4, 2) := by decide +kernel
theorem dX8_widestStep_81 : decode cX8_widestStep 81 = .ok (.iload_n 3, 1) := by decide +kernel
theorem dX8_widestStep_82 : decode cX8_widestStep 82 = .ok (.iload 4, 2) := by decide +kernel
theorem dX8_widestStep_84 : decode cX8_widestStep 84 = .ok (.ifCond .eq 7, 3) := by decide +kernel
theorem dX8_widestStep_87 : decode cX8_widestStep 87 = .ok (.iconst 1, 1) := by decide +kernel
theorem dX8_widestStep_88 : decode cX8_widestStep 88 = .ok (.goto 4, 3) := by decide +kernel
theorem dX8_widestStep_91 : decode cX8_widestStep 91 = .ok (.iconst 0, 1) := by decide +kernel
theorem dX8_widestStep_92 : decode cX8_widestStep 92 = .ok (.isub, 1) := by decide +kernel
theorem dX8_widestStep_93 : decode cX8_widestStep 93 = .ok (.istore_n 3, 1) := by decide +kernel
theorem dX8_widestStep_94 : decode cX8_widestStep 94 = .ok (.iload 4, 2) := by decide +kernel
theorem dX8_widestStep_96 : decode cX8_widestStep 96 = .ok (.ifCond .eq 11, 3) := by decide +kernel
theorem dX8_widestStep_99 : decode cX8_widestStep 99 = .ok (.iload_n 3, 1) := by decide +kernel
theorem dX8_widestStep_100 : decode cX8_widestStep 100 = .ok (.ifCond .lt 7, 3) := by decide +kernel
theorem dX8_widestStep_103 : decode cX8_widestStep 103 = .ok (.iconst 1, 1) := by decide +kernel
theorem dX8_widestStep_104 : decode cX8_widestStep 104 = .ok (.goto 4, 3) := by decide +kernel
theorem dX8_widestStep_107 : decode cX8_widestStep 107 = .ok (.iconst 0, 1) := by decide +kernel
theorem dX8_widestStep_108 : decode cX8_widestStep 108 = .ok (.istore 4, 2) := by decide +kernel
theorem dX8_widestStep_110 : decode cX8_widestStep 110 = .ok (.goto (-58), 3) := by decide +kernel
theorem dX8_widestStep_113 : decode cX8_widestStep 113 = .ok (.aload_n 0, 1) := by decide +kernel
theorem dX8_widestStep_114 : decode cX8_widestStep 114 = .ok (.getfield 7, 3) := by decide +kernel
theorem dX8_widestStep_117 : decode cX8_widestStep 117 = .ok (.bipush 74, 2) := by decide +kernel
theorem dX8_widestStep_119 : decode cX8_widestStep 119 = .ok (.iload_n 2, 1) := by decide +kernel
theorem dX8_widestStep_120 : decode cX8_widestStep 120 = .ok (.iastore, 1) := by decide +kernel
theorem dX8_widestStep_121 : decode cX8_widestStep 121 = .ok (.iload_n 3, 1) := by decide +kernel
theorem dX8_widestStep_122 : decode cX8_widestStep 122 = .ok (.ireturn, 1) := by decide +kernel
theorem dX8_tightestLimit_0 : decode cX8_tightestLimit 0 = .ok (.aload_n 0, 1) := by decide +kernel
theorem dX8_tightestLimit_1 : decode cX8_tightestLimit 1 = .ok (.invokevirtual 83, 3) := by decide +kernel
theorem dX8_tightestLimit_4 : decode cX8_tightestLimit 4 = .ok (.aload_n 0, 1) := by decide +kernel
theorem dX8_tightestLimit_5 : decode cX8_tightestLimit 5 = .ok (.getfield 7, 3) := by decide +kernel
theorem dX8_tightestLimit_8 : decode cX8_tightestLimit 8 = .ok (.bipush 81, 2) := by decide +kernel
theorem dX8_tightestLimit_10 : decode cX8_tightestLimit 10 = .ok (.iaload, 1) := by decide +kernel
theorem dX8_tightestLimit_11 : decode cX8_tightestLimit 11 = .ok (.istore_n 1, 1) := by decide +kernel
theorem dX8_tightestLimit_12 : decode cX8_tightestLimit 12 = .ok (.aload_n 0, 1) := by decide +kernel
theorem dX8_tightestLimit_13 : decode cX8_tightestLimit 13 = .ok (.getfield 7, 3) := by decide +kernel
theorem dX8_tightestLimit_16 : decode cX8_tightestLimit 16 = .ok (.bipush 81, 2) := by decide +kernel
theorem dX8_tightestLimit_18 : decode cX8_tightestLimit 18 = .ok (.bipush 9, 2) := by decide +kernel
theorem dX8_tightestLimit_20 : decode cX8_tightestLimit 20 = .ok (.iastore, 1) := by decide +kernel
theorem dX8_tightestLimit_21 : decode cX8_tightestLimit 21 = .ok (.aload_n 0, 1) := by decide +kernel
theorem dX8_tightestLimit_22 : decode cX8_tightestLimit 22 = .ok (.invokevirtual 144, 3) := by decide +kernel
theorem dX8_tightestLimit_25 : decode cX8_tightestLimit 25 = .ok (.istore_n 2, 1) := by decide +kernel
theorem dX8_tightestLimit_26 : decode cX8_tightestLimit 26 = .ok (.iload_n 2, 1) := by decide +kernel
theorem dX8_tightestLimit_27 : decode cX8_tightestLimit 27 = .ok (.iconst (-1), 1) := by decide +kernel
theorem dX8_tightestLimit_28 : decode cX8_tightestLimit 28 = .ok (.if_icmp .ne 7, 3) := by decide +kernel
theorem dX8_tightestLimit_31 : decode cX8_tightestLimit 31 = .ok (.iconst (-1), 1) := by decide +kernel
theorem dX8_tightestLimit_32 : decode cX8_tightestLimit 32 = .ok (.goto 4, 3) := by decide +kernel
theorem dX8_tightestLimit_35 : decode cX8_tightestLimit 35 = .ok (.iconst 1, 1) := by decide +kernel
theorem dX8_tightestLimit_36 : decode cX8_tightestLimit 36 = .ok (.istore_n 3, 1) := by decide +kernel
theorem dX8_tightestLimit_37 : decode cX8_tightestLimit 37 = .ok (.iload_n 2, 1) := by decide +kernel
theorem dX8_tightestLimit_38 : decode cX8_tightestLimit 38 = .ok (.iconst (-1), 1) := by decide +kernel
theorem dX8_tightestLimit_39 : decode cX8_tightestLimit 39 = .ok (.if_icmp .eq 7, 3) := by decide +kernel
theorem dX8_tightestLimit_42 : decode cX8_tightestLimit 42 = .ok (.iconst 1, 1) := by decide +kernel
theorem dX8_tightestLimit_43 : decode cX8_tightestLimit 43 = .ok (.goto 4, 3) := by decide +kernel
theorem dX8_tightestLimit_46 : decode cX8_tightestLimit 46 = .ok (.iconst 0, 1) := by decide +kernel
theorem dX8_tightestLimit_47 : decode cX8_tightestLimit 47 = .ok (.istore 4, 2) := by decide +kernel
theorem dX8_tightestLimit_49 : decode cX8_tightestLimit 49 = .ok (.iload 4, 2) := by decide +kernel
theorem dX8_tightestLimit_51 : decode cX8_tightestLimit 51 = .ok (.ifCond .eq 42, 3) := by decide +kernel
theorem dX8_tightestLimit_54 : decode cX8_tightestLimit 54 = .ok (.aload_n 0, 1) := by decide +kernel
theorem dX8_tightestLimit_55 : decode cX8_tightestLimit 55 = .ok (.getfield 7, 3) := by decide +kernel
theorem dX8_tightestLimit_58 : decode cX8_tightestLimit 58 = .ok (.bipush 81, 2) := by decide +kernel
theorem dX8_tightestLimit_60 : decode cX8_tightestLimit 60 = .ok (.iload_n 3, 1) := by decide +kernel
theorem dX8_tightestLimit_61 : decode cX8_tightestLimit 61 = .ok (.iastore, 1) := by decide +kernel
theorem dX8_tightestLimit_62 : decode cX8_tightestLimit 62 = .ok (.aload_n 0, 1) := by decide +kernel
theorem dX8_tightestLimit_63 : decode cX8_tightestLimit 63 = .ok (.invokevirtual 144, 3) := by decide +kernel
theorem dX8_tightestLimit_66 : decode cX8_tightestLimit 66 = .ok (.iload_n 2, 1) := by decide +kernel
theorem dX8_tightestLimit_67 : decode cX8_tightestLimit 67 = .ok (.if_icmp .eq 7, 3) := by decide +kernel
theorem dX8_tightestLimit_70 : decode cX8_tightestLimit 70 = .ok (.iconst 1, 1) := by decide +kernel
theorem dX8_tightestLimit_71 : decode cX8_tightestLimit 71 = .ok (.goto 4, 3) := by decide +kernel
theorem dX8_tightestLimit_74 : decode cX8_tightestLimit 74 = .ok (.iconst 0, 1) := by decide +kernel
theorem dX8_tightestLimit_75 : decode cX8_tightestLimit 75 = .ok (.istore 4, 2) := by decide +kernel
theorem dX8_tightestLimit_77 : decode cX8_tightestLimit 77 = .ok (.iload_n 3, 1) := by decide +kernel
theorem dX8_tightestLimit_78 : decode cX8_tightestLimit 78 = .ok (.iload 4, 2) := by decide +kernel
theorem dX8_tightestLimit_80 : decode cX8_tightestLimit 80 = .ok (.ifCond .eq 7, 3) := by decide +kernel
theorem dX8_tightestLimit_83 : decode cX8_tightestLimit 83 = .ok (.iconst 1, 1) := by decide +kernel
theorem dX8_tightestLimit_84 : decode cX8_tightestLimit 84 = .ok (.goto 4, 3) := by decide +kernel
theorem dX8_tightestLimit_87 : decode cX8_tightestLimit 87 = .ok (.iconst 0, 1) := by decide +kernel
theorem dX8_tightestLimit_88 : decode cX8_tightestLimit 88 = .ok (.iadd, 1) := by decide +kernel
theorem dX8_tightestLimit_89 : decode cX8_tightestLimit 89 = .ok (.istore_n 3, 1) := by decide +kernel
theorem dX8_tightestLimit_90 : decode cX8_tightestLimit 90 = .ok (.goto (-41), 3) := by decide +kernel
theorem dX8_tightestLimit_93 : decode cX8_tightestLimit 93 = .ok (.aload_n 0, 1) := by decide +kernel
theorem dX8_tightestLimit_94 : decode cX8_tightestLimit 94 = .ok (.getfield 7, 3) := by decide +kernel
theorem dX8_tightestLimit_97 : decode cX8_tightestLimit 97 = .ok (.bipush 81, 2) := by decide +kernel
theorem dX8_tightestLimit_99 : decode cX8_tightestLimit 99 = .ok (.iload_n 1, 1) := by decide +kernel
theorem dX8_tightestLimit_100 : decode cX8_tightestLimit 100 = .ok (.iastore, 1) := by decide +kernel
theorem dX8_tightestLimit_101 : decode cX8_tightestLimit 101 = .ok (.iload_n 3, 1) := by decide +kernel
theorem dX8_tightestLimit_102 : decode cX8_tightestLimit 102 = .ok (.ireturn, 1) := by decide +kernel
theorem dX8_layout_0 : decode cX8_layout 0 = .ok (.iload_n 1, 1) := by decide +kernel
theorem dX8_layout_1 : decode cX8_layout 1 = .ok (.iconst 0, 1) := by decide +kernel
theorem dX8_layout_2 : decode cX8_layout 2 = .ok (.iconst 4, 1) := by decide +kernel
theorem dX8_layout_3 : decode cX8_layout 3 = .ok (.invokestatic 53, 3) := by decide +kernel
theorem dX8_layout_6 : decode cX8_layout 6 = .ok (.ifCond .ne 6, 3) := by decide +kernel
theorem dX8_layout_9 : decode cX8_layout 9 = .ok (.bipush (-3), 2) := by decide +kernel
theorem dX8_layout_11 : decode cX8_layout 11 = .ok (.ireturn, 1) := by decide +kernel
theorem dX8_layout_12 : decode cX8_layout 12 = .ok (.aload_n 0, 1) := by decide +kernel
theorem dX8_layout_13 : decode cX8_layout 13 = .ok (.getfield 7, 3) := by decide +kernel
theorem dX8_layout_16 : decode cX8_layout 16 = .ok (.bipush 82, 2) := by decide +kernel
theorem dX8_layout_18 : decode cX8_layout 18 = .ok (.iaload, 1) := by decide +kernel
theorem dX8_layout_19 : decode cX8_layout 19 = .ok (.iconst 1, 1) := by decide +kernel
theorem dX8_layout_20 : decode cX8_layout 20 = .ok (.if_icmp .ne 15, 3) := by decide +kernel
theorem dX8_layout_23 : decode cX8_layout 23 = .ok (.aload_n 0, 1) := by decide +kernel
theorem dX8_layout_24 : decode cX8_layout 24 = .ok (.getfield 7, 3) := by decide +kernel
theorem dX8_layout_27 : decode cX8_layout 27 = .ok (.bipush 83, 2) := by decide +kernel
theorem dX8_layout_29 : decode cX8_layout 29 = .ok (.iload_n 1, 1) := by decide +kernel
theorem dX8_layout_30 : decode cX8_layout 30 = .ok (.iadd, 1) := by decide +kernel
theorem dX8_layout_31 : decode cX8_layout 31 = .ok (.iaload, 1) := by decide +kernel
theorem dX8_layout_32 : decode cX8_layout 32 = .ok (.goto 5, 3) := by decide +kernel
theorem dX8_layout_35 : decode cX8_layout 35 = .ok (.bipush (-4), 2) := by decide +kernel
theorem dX8_layout_37 : decode cX8_layout 37 = .ok (.ireturn, 1) := by decide +kernel
theorem dX8_line_0 : decode cX8_line 0 = .ok (.aload_n 0, 1) := by decide +kernel
theorem dX8_line_1 : decode cX8_line 1 = .ok (.getfield 7, 3) := by decide +kernel
theorem dX8_line_4 : decode cX8_line 4 = .ok (.bipush 82, 2) := by decide +kernel
theorem dX8_line_6 : decode cX8_line 6 = .ok (.iaload, 1) := by decide +kernel
theorem dX8_line_7 : decode cX8_line 7 = .ok (.ifCond .ne 6, 3) := by decide +kernel
theorem dX8_line_10 : decode cX8_line 10 = .ok (.bipush (-4), 2) := by decide +kernel
theorem dX8_line_12 : decode cX8_line 12 = .ok (.ireturn, 1) := by decide +kernel
theorem dX8_line_13 : decode cX8_line 13 = .ok (.iload_n 1, 1) := by decide +kernel
theorem dX8_line_14 : decode cX8_line 14 = .ok (.iconst 0, 1) := by decide +kernel
theorem dX8_line_15 : decode cX8_line 15 = .ok (.aload_n 0, 1) := by decide +kernel
theorem dX8_line_16 : decode cX8_line 16 = .ok (.getfield 7, 3) := by decide +kernel
theorem dX8_line_19 : decode cX8_line 19 = .ok (.bipush 84, 2) := by decide +kernel
theorem dX8_line_21 : decode cX8_line 21 = .ok (.iaload, 1) := by decide +kernel
theorem dX8_line_22 : decode cX8_line 22 = .ok (.iconst 1, 1) := by decide +kernel
theorem dX8_line_23 : decode cX8_line 23 = .ok (.isub, 1) := by decide +kernel
theorem dX8_line_24 : decode cX8_line 24 = .ok (.invokestatic 53, 3) := by decide +kernel
theorem dX8_line_27 : decode cX8_line 27 = .ok (.ifCond .ne 6, 3) := by decide +kernel
theorem dX8_line_30 : decode cX8_line 30 = .ok (.bipush (-2), 2) := by decide +kernel
theorem dX8_line_32 : decode cX8_line 32 = .ok (.ireturn, 1) := by decide +kernel
theorem dX8_line_33 : decode cX8_line 33 = .ok (.iload_n 2, 1) := by decide +kernel
theorem dX8_line_34 : decode cX8_line 34 = .ok (.iconst 0, 1) := by decide +kernel
theorem dX8_line_35 : decode cX8_line 35 = .ok (.bipush 6, 2) := by decide +kernel
theorem dX8_line_37 : decode cX8_line 37 = .ok (.invokestatic 53, 3) := by decide +kernel
theorem dX8_line_40 : decode cX8_line 40 = .ok (.ifCond .eq 20, 3) := by decide +kernel
theorem dX8_line_43 : decode cX8_line 43 = .ok (.aload_n 0, 1) := by decide +kernel
theorem dX8_line_44 : decode cX8_line 44 = .ok (.getfield 7, 3) := by decide +kernel
theorem dX8_line_47 : decode cX8_line 47 = .ok (.bipush 88, 2) := by decide +kernel
theorem dX8_line_49 : decode cX8_line 49 = .ok (.bipush 7, 2) := by decide +kernel
theorem dX8_line_51 : decode cX8_line 51 = .ok (.iload_n 1, 1) := by decide +kernel
theorem dX8_line_52 : decode cX8_line 52 = .ok (.imul, 1) := by decide +kernel
theorem dX8_line_53 : decode cX8_line 53 = .ok (.iadd, 1) := by decide +kernel
theorem dX8_line_54 : decode cX8_line 54 = .ok (.iload_n 2, 1) := by decide +kernel
theorem dX8_line_55 : decode cX8_line 55 = .ok (.iadd, 1) := by decide +kernel
theorem dX8_line_56 : decode cX8_line 56 = .ok (.iaload, 1) := by decide +kernel
theorem dX8_line_57 : decode cX8_line 57 = .ok (.goto 5, 3) := by decide +kernel
theorem dX8_line_60 : decode cX8_line 60 = .ok (.bipush (-3), 2) := by decide +kernel
theorem dX8_line_62 : decode cX8_line 62 = .ok (.ireturn, 1) := by decide +kernel
theorem dX8_placed_0 : decode cX8_placed 0 = .ok (.aload_n 0, 1) := by decide +kernel
theorem dX8_placed_1 : decode cX8_placed 1 = .ok (.getfield 7, 3) := by decide +kernel
theorem dX8_placed_4 : decode cX8_placed 4 = .ok (.bipush 82, 2) := by decide +kernel
theorem dX8_placed_6 : decode cX8_placed 6 = .ok (.iaload, 1) := by decide +kernel
theorem dX8_placed_7 : decode cX8_placed 7 = .ok (.ifCond .ne 6, 3) := by decide +kernel
theorem dX8_placed_10 : decode cX8_placed 10 = .ok (.bipush (-4), 2) := by decide +kernel
theorem dX8_placed_12 : decode cX8_placed 12 = .ok (.ireturn, 1) := by decide +kernel
theorem dX8_placed_13 : decode cX8_placed 13 = .ok (.iload_n 1, 1) := by decide +kernel
theorem dX8_placed_14 : decode cX8_placed 14 = .ok (.iconst 0, 1) := by decide +kernel
theorem dX8_placed_15 : decode cX8_placed 15 = .ok (.aload_n 0, 1) := by decide +kernel
theorem dX8_placed_16 : decode cX8_placed 16 = .ok (.getfield 7, 3) := by decide +kernel
theorem dX8_placed_19 : decode cX8_placed 19 = .ok (.sipush 256, 3) := by decide +kernel
theorem dX8_placed_22 : decode cX8_placed 22 = .ok (.iaload, 1) := by decide +kernel
theorem dX8_placed_23 : decode cX8_placed 23 = .ok (.iconst 1, 1) := by decide +kernel
theorem dX8_placed_24 : decode cX8_placed 24 = .ok (.isub, 1) := by decide +kernel
theorem dX8_placed_25 : decode cX8_placed 25 = .ok (.invokestatic 53, 3) := by decide +kernel
theorem dX8_placed_28 : decode cX8_placed 28 = .ok (.ifCond .ne 6, 3) := by decide +kernel
theorem dX8_placed_31 : decode cX8_placed 31 = .ok (.bipush (-2), 2) := by decide +kernel
theorem dX8_placed_33 : decode cX8_placed 33 = .ok (.ireturn, 1) := by decide +kernel
theorem dX8_placed_34 : decode cX8_placed 34 = .ok (.iload_n 2, 1) := by decide +kernel
theorem dX8_placed_35 : decode cX8_placed 35 = .ok (.iconst 0, 1) := by decide +kernel
theorem dX8_placed_36 : decode cX8_placed 36 = .ok (.iconst 4, 1) := by decide +kernel
theorem dX8_placed_37 : decode cX8_placed 37 = .ok (.invokestatic 53, 3) := by decide +kernel
theorem dX8_placed_40 : decode cX8_placed 40 = .ok (.ifCond .eq 20, 3) := by decide +kernel
theorem dX8_placed_43 : decode cX8_placed 43 = .ok (.aload_n 0, 1) := by decide +kernel
theorem dX8_placed_44 : decode cX8_placed 44 = .ok (.getfield 7, 3) := by decide +kernel
theorem dX8_placed_47 : decode cX8_placed 47 = .ok (.sipush 186, 3) := by decide +kernel
theorem dX8_placed_50 : decode cX8_placed 50 = .ok (.iconst 5, 1) := by decide +kernel
theorem dX8_placed_51 : decode cX8_placed 51 = .ok (.iload_n 1, 1) := by decide +kernel
theorem dX8_placed_52 : decode cX8_placed 52 = .ok (.imul, 1) := by decide +kernel
theorem dX8_placed_53 : decode cX8_placed 53 = .ok (.iadd, 1) := by decide +kernel
theorem dX8_placed_54 : decode cX8_placed 54 = .ok (.iload_n 2, 1) := by decide +kernel
theorem dX8_placed_55 : decode cX8_placed 55 = .ok (.iadd, 1) := by decide +kernel
theorem dX8_placed_56 : decode cX8_placed 56 = .ok (.iaload, 1) := by decide +kernel
theorem dX8_placed_57 : decode cX8_placed 57 = .ok (.goto 5, 3) := by decide +kernel
theorem dX8_placed_60 : decode cX8_placed 60 = .ok (.bipush (-3), 2) := by decide +kernel
theorem dX8_placed_62 : decode cX8_placed 62 = .ok (.ireturn, 1) := by decide +kernel
theorem dX8_type_0 : decode cX8_type 0 = .ok (.iload_n 1, 1) := by decide +kernel
theorem dX8_type_1 : decode cX8_type 1 = .ok (.iconst 0, 1) := by decide +kernel
theorem dX8_type_2 : decode cX8_type 2 = .ok (.sipush 255, 3) := by decide +kernel
theorem dX8_type_5 : decode cX8_type 5 = .ok (.invokestatic 53, 3) := by decide +kernel
theorem dX8_type_8 : decode cX8_type 8 = .ok (.ifCond .ne 6, 3) := by decide +kernel
theorem dX8_type_11 : decode cX8_type 11 = .ok (.bipush (-3), 2) := by decide +kernel
theorem dX8_type_13 : decode cX8_type 13 = .ok (.ireturn, 1) := by decide +kernel
theorem dX8_type_14 : decode cX8_type 14 = .ok (.aload_n 0, 1) := by decide +kernel
theorem dX8_type_15 : decode cX8_type 15 = .ok (.getfield 150, 3) := by decide +kernel
theorem dX8_type_18 : decode cX8_type 18 = .ok (.bipush 80, 2) := by decide +kernel
theorem dX8_type_20 : decode cX8_type 20 = .ok (.if_icmp .ne 6, 3) := by decide +kernel
theorem dX8_type_23 : decode cX8_type 23 = .ok (.bipush (-5), 2) := by decide +kernel
theorem dX8_type_25 : decode cX8_type 25 = .ok (.ireturn, 1) := by decide +kernel
theorem dX8_type_26 : decode cX8_type 26 = .ok (.aload_n 0, 1) := by decide +kernel
theorem dX8_type_27 : decode cX8_type 27 = .ok (.getfield 35, 3) := by decide +kernel
theorem dX8_type_30 : decode cX8_type 30 = .ok (.aload_n 0, 1) := by decide +kernel
theorem dX8_type_31 : decode cX8_type 31 = .ok (.getfield 150, 3) := by decide +kernel
theorem dX8_type_34 : decode cX8_type 34 = .ok (.iload_n 1, 1) := by decide +kernel
theorem dX8_type_35 : decode cX8_type 35 = .ok (.iastore, 1) := by decide +kernel
theorem dX8_type_36 : decode cX8_type 36 = .ok (.aload_n 0, 1) := by decide +kernel
theorem dX8_type_37 : decode cX8_type 37 = .ok (.dup, 1) := by decide +kernel
theorem dX8_type_38 : decode cX8_type 38 = .ok (.getfield 150, 3) := by decide +kernel
theorem dX8_type_41 : decode cX8_type 41 = .ok (.iconst 1, 1) := by decide +kernel
theorem dX8_type_42 : decode cX8_type 42 = .ok (.iadd, 1) := by decide +kernel
theorem dX8_type_43 : decode cX8_type 43 = .ok (.putfield 150, 3) := by decide +kernel
theorem dX8_type_46 : decode cX8_type 46 = .ok (.aload_n 0, 1) := by decide +kernel
theorem dX8_type_47 : decode cX8_type 47 = .ok (.getfield 150, 3) := by decide +kernel
theorem dX8_type_50 : decode cX8_type 50 = .ok (.ireturn, 1) := by decide +kernel
theorem dX8_clearText_0 : decode cX8_clearText 0 = .ok (.aload_n 0, 1) := by decide +kernel
theorem dX8_clearText_1 : decode cX8_clearText 1 = .ok (.getfield 150, 3) := by decide +kernel
theorem dX8_clearText_4 : decode cX8_clearText 4 = .ok (.istore_n 1, 1) := by decide +kernel
theorem dX8_clearText_5 : decode cX8_clearText 5 = .ok (.aload_n 0, 1) := by decide +kernel
theorem dX8_clearText_6 : decode cX8_clearText 6 = .ok (.iconst 0, 1) := by decide +kernel
theorem dX8_clearText_7 : decode cX8_clearText 7 = .ok (.putfield 150, 3) := by decide +kernel
theorem dX8_clearText_10 : decode cX8_clearText 10 = .ok (.iload_n 1, 1) := by decide +kernel
theorem dX8_clearText_11 : decode cX8_clearText 11 = .ok (.ireturn, 1) := by decide +kernel
theorem dX8_isLetter_0 : decode cX8_isLetter 0 = .ok (.aload_n 0, 1) := by decide +kernel
theorem dX8_isLetter_1 : decode cX8_isLetter 1 = .ok (.getfield 153, 3) := by decide +kernel
theorem dX8_isLetter_4 : decode cX8_isLetter 4 = .ok (.aload_n 0, 1) := by decide +kernel
theorem dX8_isLetter_5 : decode cX8_isLetter 5 = .ok (.getfield 150, 3) := by decide +kernel
theorem dX8_isLetter_8 : decode cX8_isLetter 8 = .ok (.if_icmp .ge 45, 3) := by decide +kernel
theorem dX8_isLetter_11 : decode cX8_isLetter 11 = .ok (.aload_n 0, 1) := by decide +kernel
theorem dX8_isLetter_12 : decode cX8_isLetter 12 = .ok (.getfield 35, 3) := by decide +kernel
theorem dX8_isLetter_15 : decode cX8_isLetter 15 = .ok (.aload_n 0, 1) := by decide +kernel
theorem dX8_isLetter_16 : decode cX8_isLetter 16 = .ok (.getfield 153, 3) := by decide +kernel
theorem dX8_isLetter_19 : decode cX8_isLetter 19 = .ok (.iaload, 1) := by decide +kernel
theorem dX8_isLetter_20 : decode cX8_isLetter 20 = .ok (.bipush 65, 2) := by decide +kernel
theorem dX8_isLetter_22 : decode cX8_isLetter 22 = .ok (.bipush 90, 2) := by decide +kernel
theorem dX8_isLetter_24 : decode cX8_isLetter 24 = .ok (.invokestatic 53, 3) := by decide +kernel
theorem dX8_isLetter_27 : decode cX8_isLetter 27 = .ok (.ifCond .ne 22, 3) := by decide +kernel
theorem dX8_isLetter_30 : decode cX8_isLetter 30 = .ok (.aload_n 0, 1) := by decide +kernel
theorem dX8_isLetter_31 : decode cX8_isLetter 31 = .ok (.getfield 35, 3) := by decide +kernel
theorem dX8_isLetter_34 : decode cX8_isLetter 34 = .ok (.aload_n 0, 1) := by decide +kernel
theorem dX8_isLetter_35 : decode cX8_isLetter 35 = .ok (.getfield 153, 3) := by decide +kernel
theorem dX8_isLetter_38 : decode cX8_isLetter 38 = .ok (.iaload, 1) := by decide +kernel
theorem dX8_isLetter_39 : decode cX8_isLetter 39 = .ok (.bipush 97, 2) := by decide +kernel
theorem dX8_isLetter_41 : decode cX8_isLetter 41 = .ok (.bipush 122, 2) := by decide +kernel
theorem dX8_isLetter_43 : decode cX8_isLetter 43 = .ok (.invokestatic 53, 3) := by decide +kernel
theorem dX8_isLetter_46 : decode cX8_isLetter 46 = .ok (.ifCond .eq 7, 3) := by decide +kernel
theorem dX8_isLetter_49 : decode cX8_isLetter 49 = .ok (.iconst 1, 1) := by decide +kernel
theorem dX8_isLetter_50 : decode cX8_isLetter 50 = .ok (.goto 4, 3) := by decide +kernel
theorem dX8_isLetter_53 : decode cX8_isLetter 53 = .ok (.iconst 0, 1) := by decide +kernel
theorem dX8_isLetter_54 : decode cX8_isLetter 54 = .ok (.ireturn, 1) := by decide +kernel
theorem dX8_isSign_0 : decode cX8_isSign 0 = .ok (.aload_n 0, 1) := by decide +kernel
theorem dX8_isSign_1 : decode cX8_isSign 1 = .ok (.getfield 153, 3) := by decide +kernel
theorem dX8_isSign_4 : decode cX8_isSign 4 = .ok (.aload_n 0, 1) := by decide +kernel
theorem dX8_isSign_5 : decode cX8_isSign 5 = .ok (.getfield 150, 3) := by decide +kernel
theorem dX8_isSign_8 : decode cX8_isSign 8 = .ok (.if_icmp .ge 20, 3) := by decide +kernel
theorem dX8_isSign_11 : decode cX8_isSign 11 = .ok (.aload_n 0, 1) := by decide +kernel
theorem dX8_isSign_12 : decode cX8_isSign 12 = .ok (.getfield 35, 3) := by decide +kernel
theorem dX8_isSign_15 : decode cX8_isSign 15 = .ok (.aload_n 0, 1) := by decide +kernel
theorem dX8_isSign_16 : decode cX8_isSign 16 = .ok (.getfield 153, 3) := by decide +kernel
theorem dX8_isSign_19 : decode cX8_isSign 19 = .ok (.iaload, 1) := by decide +kernel
theorem dX8_isSign_20 : decode cX8_isSign 20 = .ok (.iload_n 1, 1) := by decide +kernel
theorem dX8_isSign_21 : decode cX8_isSign 21 = .ok (.if_icmp .ne 7, 3) := by decide +kernel
theorem dX8_isSign_24 : decode cX8_isSign 24 = .ok (.iconst 1, 1) := by decide +kernel
theorem dX8_isSign_25 : decode cX8_isSign 25 = .ok (.goto 4, 3) := by decide +kernel
theorem dX8_isSign_28 : decode cX8_isSign 28 = .ok (.iconst 0, 1) := by decide +kernel
theorem dX8_isSign_29 : decode cX8_isSign 29 = .ok (.ireturn, 1) := by decide +kernel
theorem dX8_blanks_0 : decode cX8_blanks 0 = .ok (.aload_n 0, 1) := by decide +kernel
theorem dX8_blanks_1 : decode cX8_blanks 1 = .ok (.getfield 153, 3) := by decide +kernel
theorem dX8_blanks_4 : decode cX8_blanks 4 = .ok (.istore_n 1, 1) := by decide +kernel
theorem dX8_blanks_5 : decode cX8_blanks 5 = .ok (.aload_n 0, 1) := by decide +kernel
theorem dX8_blanks_6 : decode cX8_blanks 6 = .ok (.bipush 32, 2) := by decide +kernel
theorem dX8_blanks_8 : decode cX8_blanks 8 = .ok (.invokevirtual 156, 3) := by decide +kernel
theorem dX8_blanks_11 : decode cX8_blanks 11 = .ok (.ifCond .eq 16, 3) := by decide +kernel
theorem dX8_blanks_14 : decode cX8_blanks 14 = .ok (.aload_n 0, 1) := by decide +kernel
theorem dX8_blanks_15 : decode cX8_blanks 15 = .ok (.dup, 1) := by decide +kernel
theorem dX8_blanks_16 : decode cX8_blanks 16 = .ok (.getfield 153, 3) := by decide +kernel
theorem dX8_blanks_19 : decode cX8_blanks 19 = .ok (.iconst 1, 1) := by decide +kernel
theorem dX8_blanks_20 : decode cX8_blanks 20 = .ok (.iadd, 1) := by decide +kernel
theorem dX8_blanks_21 : decode cX8_blanks 21 = .ok (.putfield 153, 3) := by decide +kernel
theorem dX8_blanks_24 : decode cX8_blanks 24 = .ok (.goto (-19), 3) := by decide +kernel
theorem dX8_blanks_27 : decode cX8_blanks 27 = .ok (.aload_n 0, 1) := by decide +kernel
theorem dX8_blanks_28 : decode cX8_blanks 28 = .ok (.getfield 153, 3) := by decide +kernel
theorem dX8_blanks_31 : decode cX8_blanks 31 = .ok (.iload_n 1, 1) := by decide +kernel
theorem dX8_blanks_32 : decode cX8_blanks 32 = .ok (.if_icmp .le 7, 3) := by decide +kernel
theorem dX8_blanks_35 : decode cX8_blanks 35 = .ok (.iconst 1, 1) := by decide +kernel
theorem dX8_blanks_36 : decode cX8_blanks 36 = .ok (.goto 4, 3) := by decide +kernel
theorem dX8_blanks_39 : decode cX8_blanks 39 = .ok (.iconst 0, 1) := by decide +kernel
theorem dX8_blanks_40 : decode cX8_blanks 40 = .ok (.ireturn, 1) := by decide +kernel
theorem dX8_readsText_0 : decode cX8_readsText 0 = .ok (.aload_n 0, 1) := by decide +kernel
theorem dX8_readsText_1 : decode cX8_readsText 1 = .ok (.iconst 0, 1) := by decide +kernel
theorem dX8_readsText_2 : decode cX8_readsText 2 = .ok (.putfield 153, 3) := by decide +kernel
theorem dX8_readsText_5 : decode cX8_readsText 5 = .ok (.aload_n 0, 1) := by decide +kernel
theorem dX8_readsText_6 : decode cX8_readsText 6 = .ok (.iconst 0, 1) := by decide +kernel
theorem dX8_readsText_7 : decode cX8_readsText 7 = .ok (.putfield 159, 3) := by decide +kernel
theorem dX8_readsText_10 : decode cX8_readsText 10 = .ok (.aload_n 0, 1) := by decide +kernel
theorem dX8_readsText_11 : decode cX8_readsText 11 = .ok (.invokevirtual 162, 3) := by decide +kernel
theorem dX8_readsText_14 : decode cX8_readsText 14 = .ok (.istore_n 1, 1) := by decide +kernel
theorem dX8_readsText_15 : decode cX8_readsText 15 = .ok (.iconst 0, 1) := by decide +kernel
theorem dX8_readsText_16 : decode cX8_readsText 16 = .ok (.istore_n 2, 1) := by decide +kernel
theorem dX8_readsText_17 : decode cX8_readsText 17 = .ok (.aload_n 0, 1) := by decide +kernel
theorem dX8_readsText_18 : decode cX8_readsText 18 = .ok (.getfield 153, 3) := by decide +kernel
theorem dX8_readsText_21 : decode cX8_readsText 21 = .ok (.aload_n 0, 1) := by decide +kernel
theorem dX8_readsText_22 : decode cX8_readsText 22 = .ok (.getfield 150, 3) := by decide +kernel
theorem dX8_readsText_25 : decode cX8_readsText 25 = .ok (.if_icmp .ge 7, 3) := by decide +kernel
theorem dX8_readsText_28 : decode cX8_readsText 28 = .ok (.iconst 1, 1) := by decide +kernel
theorem dX8_readsText_29 : decode cX8_readsText 29 = .ok (.goto 4, 3) := by decide +kernel
theorem dX8_readsText_32 : decode cX8_readsText 32 = .ok (.iconst 0, 1) := by decide +kernel
theorem dX8_readsText_33 : decode cX8_readsText 33 = .ok (.istore_n 3, 1) := by decide +kernel
theorem dX8_readsText_34 : decode cX8_readsText 34 = .ok (.iload_n 3, 1) := by decide +kernel
theorem dX8_readsText_35 : decode cX8_readsText 35 = .ok (.ifCond .eq 236, 3) := by decide +kernel
theorem dX8_readsText_38 : decode cX8_readsText 38 = .ok (.aload_n 0, 1) := by decide +kernel
theorem dX8_readsText_39 : decode cX8_readsText 39 = .ok (.invokevirtual 166, 3) := by decide +kernel
theorem dX8_readsText_42 : decode cX8_readsText 42 = .ok (.ifCond .eq 12, 3) := by decide +kernel
theorem dX8_readsText_45 : decode cX8_readsText 45 = .ok (.aload_n 0, 1) := by decide +kernel
theorem dX8_readsText_46 : decode cX8_readsText 46 = .ok (.getfield 159, 3) := by decide +kernel
theorem dX8_readsText_49 : decode cX8_readsText 49 = .ok (.bipush 14, 2) := by decide +kernel
theorem dX8_readsText_51 : decode cX8_readsText 51 = .ok (.if_icmp .ne 5, 3) := by decide +kernel
theorem dX8_readsText_54 : decode cX8_readsText 54 = .ok (.iconst 0, 1) := by decide +kernel
theorem dX8_readsText_55 : decode cX8_readsText 55 = .ok (.ireturn, 1) := by decide +kernel
theorem dX8_readsText_56 : decode cX8_readsText 56 = .ok (.iconst 0, 1) := by decide +kernel
theorem dX8_readsText_57 : decode cX8_readsText 57 = .ok (.istore 4, 2) := by decide +kernel
theorem dX8_readsText_59 : decode cX8_readsText 59 = .ok (.aload_n 0, 1) := by decide +kernel
theorem dX8_readsText_60 : decode cX8_readsText 60 = .ok (.invokevirtual 166, 3) := by decide +kernel
theorem dX8_readsText_63 : decode cX8_readsText 63 = .ok (.ifCond .eq 26, 3) := by decide +kernel
theorem dX8_readsText_66 : decode cX8_readsText 66 = .ok (.iload 4, 2) := by decide +kernel
theorem dX8_readsText_68 : decode cX8_readsText 68 = .ok (.bipush 12, 2) := by decide +kernel
theorem dX8_readsText_70 : decode cX8_readsText 70 = .ok (.if_icmp .ge 19, 3) := by decide +kernel
theorem dX8_readsText_73 : decode cX8_readsText 73 = .ok (.aload_n 0, 1) := by decide +kernel
theorem dX8_readsText_74 : decode cX8_readsText 74 = .ok (.dup, 1) := by decide +kernel
theorem dX8_readsText_75 : decode cX8_readsText 75 = .ok (.getfield 153, 3) := by decide +kernel
theorem dX8_readsText_78 : decode cX8_readsText 78 = .ok (.iconst 1, 1) := by decide +kernel
theorem dX8_readsText_79 : decode cX8_readsText 79 = .ok (.iadd, 1) := by decide +kernel
theorem dX8_readsText_80 : decode cX8_readsText 80 = .ok (.putfield 153, 3) := by decide +kernel
theorem dX8_readsText_83 : decode cX8_readsText 83 = .ok (.iinc 4 1, 3) := by decide +kernel
theorem dX8_readsText_86 : decode cX8_readsText 86 = .ok (.goto (-27), 3) := by decide +kernel
theorem dX8_readsText_89 : decode cX8_readsText 89 = .ok (.iconst 1, 1) := by decide +kernel
theorem dX8_readsText_90 : decode cX8_readsText 90 = .ok (.istore 5, 2) := by decide +kernel
theorem dX8_readsText_92 : decode cX8_readsText 92 = .ok (.aload_n 0, 1) := by decide +kernel
theorem dX8_readsText_93 : decode cX8_readsText 93 = .ok (.bipush 33, 2) := by decide +kernel
theorem dX8_readsText_95 : decode cX8_readsText 95 = .ok (.invokevirtual 156, 3) := by decide +kernel
theorem dX8_readsText_98 : decode cX8_readsText 98 = .ok (.ifCond .eq 25, 3) := by decide +kernel
theorem dX8_readsText_101 : decode cX8_readsText 101 = .ok (.iload 5, 2) := by decide +kernel
theorem dX8_readsText_103 : decode cX8_readsText 103 = .ok (.iconst 3, 1) := by decide +kernel
theorem dX8_readsText_104 : decode cX8_readsText 104 = .ok (.if_icmp .ge 19, 3) := by decide +kernel
theorem dX8_readsText_107 : decode cX8_readsText 107 = .ok (.aload_n 0, 1) := by decide +kernel
theorem dX8_readsText_108 : decode cX8_readsText 108 = .ok (.dup, 1) := by decide +kernel
theorem dX8_readsText_109 : decode cX8_readsText 109 = .ok (.getfield 153, 3) := by decide +kernel
theorem dX8_readsText_112 : decode cX8_readsText 112 = .ok (.iconst 1, 1) := by decide +kernel
theorem dX8_readsText_113 : decode cX8_readsText 113 = .ok (.iadd, 1) := by decide +kernel
theorem dX8_readsText_114 : decode cX8_readsText 114 = .ok (.putfield 153, 3) := by decide +kernel
theorem dX8_readsText_117 : decode cX8_readsText 117 = .ok (.iinc 5 1, 3) := by decide +kernel
theorem dX8_readsText_120 : decode cX8_readsText 120 = .ok (.goto (-28), 3) := by decide +kernel
theorem dX8_readsText_123 : decode cX8_readsText 123 = .ok (.aload_n 0, 1) := by decide +kernel
theorem dX8_readsText_124 : decode cX8_readsText 124 = .ok (.getfield 38, 3) := by decide +kernel
theorem dX8_readsText_127 : decode cX8_readsText 127 = .ok (.iconst 3, 1) := by decide +kernel
theorem dX8_readsText_128 : decode cX8_readsText 128 = .ok (.aload_n 0, 1) := by decide +kernel
theorem dX8_readsText_129 : decode cX8_readsText 129 = .ok (.getfield 159, 3) := by decide +kernel
theorem dX8_readsText_132 : decode cX8_readsText 132 = .ok (.imul, 1) := by decide +kernel
theorem dX8_readsText_133 : decode cX8_readsText 133 = .ok (.iload 4, 2) := by decide +kernel
theorem dX8_readsText_135 : decode cX8_readsText 135 = .ok (.iastore, 1) := by decide +kernel
theorem dX8_readsText_136 : decode cX8_readsText 136 = .ok (.aload_n 0, 1) := by decide +kernel
theorem dX8_readsText_137 : decode cX8_readsText 137 = .ok (.getfield 38, 3) := by decide +kernel
theorem dX8_readsText_140 : decode cX8_readsText 140 = .ok (.iconst 3, 1) := by decide +kernel
theorem dX8_readsText_141 : decode cX8_readsText 141 = .ok (.aload_n 0, 1) := by decide +kernel
theorem dX8_readsText_142 : decode cX8_readsText 142 = .ok (.getfield 159, 3) := by decide +kernel
theorem dX8_readsText_145 : decode cX8_readsText 145 = .ok (.imul, 1) := by decide +kernel
theorem dX8_readsText_146 : decode cX8_readsText 146 = .ok (.iconst 1, 1) := by decide +kernel
theorem dX8_readsText_147 : decode cX8_readsText 147 = .ok (.iadd, 1) := by decide +kernel
theorem dX8_readsText_148 : decode cX8_readsText 148 = .ok (.iload 5, 2) := by decide +kernel
theorem dX8_readsText_150 : decode cX8_readsText 150 = .ok (.iastore, 1) := by decide +kernel
theorem dX8_readsText_151 : decode cX8_readsText 151 = .ok (.aload_n 0, 1) := by decide +kernel
theorem dX8_readsText_152 : decode cX8_readsText 152 = .ok (.getfield 38, 3) := by decide +kernel
theorem dX8_readsText_155 : decode cX8_readsText 155 = .ok (.iconst 3, 1) := by decide +kernel
theorem dX8_readsText_156 : decode cX8_readsText 156 = .ok (.aload_n 0, 1) := by decide +kernel
theorem dX8_readsText_157 : decode cX8_readsText 157 = .ok (.getfield 159, 3) := by decide +kernel
theorem dX8_readsText_160 : decode cX8_readsText 160 = .ok (.imul, 1) := by decide +kernel
theorem dX8_readsText_161 : decode cX8_readsText 161 = .ok (.iconst 2, 1) := by decide +kernel
theorem dX8_readsText_162 : decode cX8_readsText 162 = .ok (.iadd, 1) := by decide +kernel
theorem dX8_readsText_163 : decode cX8_readsText 163 = .ok (.iload_n 2, 1) := by decide +kernel
theorem dX8_readsText_164 : decode cX8_readsText 164 = .ok (.ifCond .eq 7, 3) := by decide +kernel
theorem dX8_readsText_167 : decode cX8_readsText 167 = .ok (.iconst 1, 1) := by decide +kernel
theorem dX8_readsText_168 : decode cX8_readsText 168 = .ok (.goto 4, 3) := by decide +kernel
theorem dX8_readsText_171 : decode cX8_readsText 171 = .ok (.iconst 0, 1) := by decide +kernel
theorem dX8_readsText_172 : decode cX8_readsText 172 = .ok (.iastore, 1) := by decide +kernel
theorem dX8_readsText_173 : decode cX8_readsText 173 = .ok (.aload_n 0, 1) := by decide +kernel
theorem dX8_readsText_174 : decode cX8_readsText 174 = .ok (.dup, 1) := by decide +kernel
theorem dX8_readsText_175 : decode cX8_readsText 175 = .ok (.getfield 159, 3) := by decide +kernel
theorem dX8_readsText_178 : decode cX8_readsText 178 = .ok (.iconst 1, 1) := by decide +kernel
theorem dX8_readsText_179 : decode cX8_readsText 179 = .ok (.iadd, 1) := by decide +kernel
theorem dX8_readsText_180 : decode cX8_readsText 180 = .ok (.putfield 159, 3) := by decide +kernel
theorem dX8_readsText_183 : decode cX8_readsText 183 = .ok (.aload_n 0, 1) := by decide +kernel
theorem dX8_readsText_184 : decode cX8_readsText 184 = .ok (.invokevirtual 162, 3) := by decide +kernel
theorem dX8_readsText_187 : decode cX8_readsText 187 = .ok (.istore 6, 2) := by decide +kernel
theorem dX8_readsText_189 : decode cX8_readsText 189 = .ok (.aload_n 0, 1) := by decide +kernel
theorem dX8_readsText_190 : decode cX8_readsText 190 = .ok (.bipush 47, 2) := by decide +kernel
theorem dX8_readsText_192 : decode cX8_readsText 192 = .ok (.invokevirtual 156, 3) := by decide +kernel
theorem dX8_readsText_195 : decode cX8_readsText 195 = .ok (.istore_n 2, 1) := by decide +kernel
theorem dX8_readsText_196 : decode cX8_readsText 196 = .ok (.aload_n 0, 1) := by decide +kernel
theorem dX8_readsText_197 : decode cX8_readsText 197 = .ok (.dup, 1) := by decide +kernel
theorem dX8_readsText_198 : decode cX8_readsText 198 = .ok (.getfield 153, 3) := by decide +kernel
theorem dX8_readsText_201 : decode cX8_readsText 201 = .ok (.iload_n 2, 1) := by decide +kernel
theorem dX8_readsText_202 : decode cX8_readsText 202 = .ok (.ifCond .eq 7, 3) := by decide +kernel
theorem dX8_readsText_205 : decode cX8_readsText 205 = .ok (.iconst 1, 1) := by decide +kernel
theorem dX8_readsText_206 : decode cX8_readsText 206 = .ok (.goto 4, 3) := by decide +kernel
theorem dX8_readsText_209 : decode cX8_readsText 209 = .ok (.iconst 0, 1) := by decide +kernel
theorem dX8_readsText_210 : decode cX8_readsText 210 = .ok (.iadd, 1) := by decide +kernel
theorem dX8_readsText_211 : decode cX8_readsText 211 = .ok (.putfield 153, 3) := by decide +kernel
theorem dX8_readsText_214 : decode cX8_readsText 214 = .ok (.aload_n 0, 1) := by decide +kernel
theorem dX8_readsText_215 : decode cX8_readsText 215 = .ok (.invokevirtual 162, 3) := by decide +kernel
theorem dX8_readsText_218 : decode cX8_readsText 218 = .ok (.istore_n 1, 1) := by decide +kernel
theorem dX8_readsText_219 : decode cX8_readsText 219 = .ok (.iload_n 2, 1) := by decide +kernel
theorem dX8_readsText_220 : decode cX8_readsText 220 = .ok (.ifCond .eq 16, 3) := by decide +kernel
theorem dX8_readsText_223 : decode cX8_readsText 223 = .ok (.aload_n 0, 1) := by decide +kernel
theorem dX8_readsText_224 : decode cX8_readsText 224 = .ok (.getfield 153, 3) := by decide +kernel
theorem dX8_readsText_227 : decode cX8_readsText 227 = .ok (.aload_n 0, 1) := by decide +kernel
theorem dX8_readsText_228 : decode cX8_readsText 228 = .ok (.getfield 150, 3) := by decide +kernel
theorem dX8_readsText_231 : decode cX8_readsText 231 = .ok (.if_icmp .ne 5, 3) := by decide +kernel
theorem dX8_readsText_234 : decode cX8_readsText 234 = .ok (.iconst 0, 1) := by decide +kernel
theorem dX8_readsText_235 : decode cX8_readsText 235 = .ok (.ireturn, 1) := by decide +kernel
theorem dX8_readsText_236 : decode cX8_readsText 236 = .ok (.aload_n 0, 1) := by decide +kernel
theorem dX8_readsText_237 : decode cX8_readsText 237 = .ok (.getfield 153, 3) := by decide +kernel
theorem dX8_readsText_240 : decode cX8_readsText 240 = .ok (.aload_n 0, 1) := by decide +kernel
theorem dX8_readsText_241 : decode cX8_readsText 241 = .ok (.getfield 150, 3) := by decide +kernel
theorem dX8_readsText_244 : decode cX8_readsText 244 = .ok (.if_icmp .ge 7, 3) := by decide +kernel
theorem dX8_readsText_247 : decode cX8_readsText 247 = .ok (.iconst 1, 1) := by decide +kernel
theorem dX8_readsText_248 : decode cX8_readsText 248 = .ok (.goto 4, 3) := by decide +kernel
theorem dX8_readsText_251 : decode cX8_readsText 251 = .ok (.iconst 0, 1) := by decide +kernel
theorem dX8_readsText_252 : decode cX8_readsText 252 = .ok (.istore_n 3, 1) := by decide +kernel
theorem dX8_readsText_253 : decode cX8_readsText 253 = .ok (.iload_n 3, 1) := by decide +kernel
theorem dX8_readsText_254 : decode cX8_readsText 254 = .ok (.ifCond .eq 14, 3) := by decide +kernel
theorem dX8_readsText_257 : decode cX8_readsText 257 = .ok (.iload 6, 2) := by decide +kernel
theorem dX8_readsText_259 : decode cX8_readsText 259 = .ok (.ifCond .ne 9, 3) := by decide +kernel
theorem dX8_readsText_262 : decode cX8_readsText 262 = .ok (.iload_n 2, 1) := by decide +kernel
theorem dX8_readsText_263 : decode cX8_readsText 263 = .ok (.ifCond .ne 5, 3) := by decide +kernel
theorem dX8_readsText_266 : decode cX8_readsText 266 = .ok (.iconst 0, 1) := by decide +kernel
theorem dX8_readsText_267 : decode cX8_readsText 267 = .ok (.ireturn, 1) := by decide +kernel
theorem dX8_readsText_268 : decode cX8_readsText 268 = .ok (.goto (-234), 3) := by decide +kernel
theorem dX8_readsText_271 : decode cX8_readsText 271 = .ok (.iconst 1, 1) := by decide +kernel
theorem dX8_readsText_272 : decode cX8_readsText 272 = .ok (.ireturn, 1) := by decide +kernel
theorem dX8_textFault_0 : decode cX8_textFault 0 = .ok (.aload_n 0, 1) := by decide +kernel
theorem dX8_textFault_1 : decode cX8_textFault 1 = .ok (.invokevirtual 169, 3) := by decide +kernel
theorem dX8_textFault_4 : decode cX8_textFault 4 = .ok (.ifCond .eq 7, 3) := by decide +kernel
theorem dX8_textFault_7 : decode cX8_textFault 7 = .ok (.iconst (-1), 1) := by decide +kernel
theorem dX8_textFault_8 : decode cX8_textFault 8 = .ok (.goto 7, 3) := by decide +kernel
theorem dX8_textFault_11 : decode cX8_textFault 11 = .ok (.aload_n 0, 1) := by decide +kernel
theorem dX8_textFault_12 : decode cX8_textFault 12 = .ok (.getfield 153, 3) := by decide +kernel
theorem dX8_textFault_15 : decode cX8_textFault 15 = .ok (.ireturn, 1) := by decide +kernel
theorem dX8_load_0 : decode cX8_load 0 = .ok (.aload_n 0, 1) := by decide +kernel
theorem dX8_load_1 : decode cX8_load 1 = .ok (.invokevirtual 169, 3) := by decide +kernel
theorem dX8_load_4 : decode cX8_load 4 = .ok (.ifCond .ne 6, 3) := by decide +kernel
theorem dX8_load_7 : decode cX8_load 7 = .ok (.bipush (-4), 2) := by decide +kernel
theorem dX8_load_9 : decode cX8_load 9 = .ok (.ireturn, 1) := by decide +kernel
theorem dX8_load_10 : decode cX8_load 10 = .ok (.aload_n 0, 1) := by decide +kernel
theorem dX8_load_11 : decode cX8_load 11 = .ok (.invokevirtual 68, 3) := by decide +kernel
theorem dX8_load_14 : decode cX8_load 14 = .ok (.aload_n 0, 1) := by decide +kernel
theorem dX8_load_15 : decode cX8_load 15 = .ok (.getfield 7, 3) := by decide +kernel
theorem dX8_load_18 : decode cX8_load 18 = .ok (.bipush 31, 2) := by decide +kernel
theorem dX8_load_20 : decode cX8_load 20 = .ok (.aload_n 0, 1) := by decide +kernel
theorem dX8_load_21 : decode cX8_load 21 = .ok (.getfield 159, 3) := by decide +kernel
theorem dX8_load_24 : decode cX8_load 24 = .ok (.iastore, 1) := by decide +kernel
theorem dX8_load_25 : decode cX8_load 25 = .ok (.iconst 0, 1) := by decide +kernel
theorem dX8_load_26 : decode cX8_load 26 = .ok (.istore_n 1, 1) := by decide +kernel
theorem dX8_load_27 : decode cX8_load 27 = .ok (.iload_n 1, 1) := by decide +kernel
theorem dX8_load_28 : decode cX8_load 28 = .ok (.iconst 3, 1) := by decide +kernel
theorem dX8_load_29 : decode cX8_load 29 = .ok (.aload_n 0, 1) := by decide +kernel
theorem dX8_load_30 : decode cX8_load 30 = .ok (.getfield 159, 3) := by decide +kernel
theorem dX8_load_33 : decode cX8_load 33 = .ok (.imul, 1) := by decide +kernel
theorem dX8_load_34 : decode cX8_load 34 = .ok (.if_icmp .ge 24, 3) := by decide +kernel
theorem dX8_load_37 : decode cX8_load 37 = .ok (.aload_n 0, 1) := by decide +kernel
theorem dX8_load_38 : decode cX8_load 38 = .ok (.getfield 7, 3) := by decide +kernel
theorem dX8_load_41 : decode cX8_load 41 = .ok (.bipush 32, 2) := by decide +kernel
theorem dX8_load_43 : decode cX8_load 43 = .ok (.iload_n 1, 1) := by decide +kernel
theorem dX8_load_44 : decode cX8_load 44 = .ok (.iadd, 1) := by decide +kernel
theorem dX8_load_45 : decode cX8_load 45 = .ok (.aload_n 0, 1) := by decide +kernel
theorem dX8_load_46 : decode cX8_load 46 = .ok (.getfield 38, 3) := by decide +kernel
theorem dX8_load_49 : decode cX8_load 49 = .ok (.iload_n 1, 1) := by decide +kernel
theorem dX8_load_50 : decode cX8_load 50 = .ok (.iaload, 1) := by decide +kernel
theorem dX8_load_51 : decode cX8_load 51 = .ok (.iastore, 1) := by decide +kernel
theorem dX8_load_52 : decode cX8_load 52 = .ok (.iinc 1 1, 3) := by decide +kernel
theorem dX8_load_55 : decode cX8_load 55 = .ok (.goto (-28), 3) := by decide +kernel
theorem dX8_load_58 : decode cX8_load 58 = .ok (.aload_n 0, 1) := by decide +kernel
theorem dX8_load_59 : decode cX8_load 59 = .ok (.getfield 159, 3) := by decide +kernel
theorem dX8_load_62 : decode cX8_load 62 = .ok (.ireturn, 1) := by decide +kernel
theorem dX8_undo_0 : decode cX8_undo 0 = .ok (.aload_n 0, 1) := by decide +kernel
theorem dX8_undo_1 : decode cX8_undo 1 = .ok (.getfield 41, 3) := by decide +kernel
theorem dX8_undo_4 : decode cX8_undo 4 = .ok (.ifCond .ne 6, 3) := by decide +kernel
theorem dX8_undo_7 : decode cX8_undo 7 = .ok (.bipush (-4), 2) := by decide +kernel
theorem dX8_undo_9 : decode cX8_undo 9 = .ok (.ireturn, 1) := by decide +kernel
theorem dX8_undo_10 : decode cX8_undo 10 = .ok (.aload_n 0, 1) := by decide +kernel
theorem dX8_undo_11 : decode cX8_undo 11 = .ok (.sipush 257, 3) := by decide +kernel
theorem dX8_undo_14 : decode cX8_undo 14 = .ok (.aload_n 0, 1) := by decide +kernel
theorem dX8_undo_15 : decode cX8_undo 15 = .ok (.getfield 41, 3) := by decide +kernel
theorem dX8_undo_18 : decode cX8_undo 18 = .ok (.imul, 1) := by decide +kernel
theorem dX8_undo_19 : decode cX8_undo 19 = .ok (.iconst 0, 1) := by decide +kernel
theorem dX8_undo_20 : decode cX8_undo 20 = .ok (.invokevirtual 45, 3) := by decide +kernel
theorem dX8_undo_23 : decode cX8_undo 23 = .ok (.aload_n 0, 1) := by decide +kernel
theorem dX8_undo_24 : decode cX8_undo 24 = .ok (.dup, 1) := by decide +kernel
theorem dX8_undo_25 : decode cX8_undo 25 = .ok (.getfield 41, 3) := by decide +kernel
theorem dX8_undo_28 : decode cX8_undo 28 = .ok (.iconst 1, 1) := by decide +kernel
theorem dX8_undo_29 : decode cX8_undo 29 = .ok (.isub, 1) := by decide +kernel
theorem dX8_undo_30 : decode cX8_undo 30 = .ok (.putfield 41, 3) := by decide +kernel
theorem dX8_undo_33 : decode cX8_undo 33 = .ok (.aload_n 0, 1) := by decide +kernel
theorem dX8_undo_34 : decode cX8_undo 34 = .ok (.getfield 41, 3) := by decide +kernel
theorem dX8_undo_37 : decode cX8_undo 37 = .ok (.ireturn, 1) := by decide +kernel
theorem dX8_note_0 : decode cX8_note 0 = .ok (.aload_n 0, 1) := by decide +kernel
theorem dX8_note_1 : decode cX8_note 1 = .ok (.ldc2_w 172, 3) := by decide +kernel
theorem dX8_note_4 : decode cX8_note 4 = .ok (.aload_n 0, 1) := by decide +kernel
theorem dX8_note_5 : decode cX8_note 5 = .ok (.getfield 174, 3) := by decide +kernel
theorem dX8_note_8 : decode cX8_note 8 = .ok (.lmul, 1) := by decide +kernel
theorem dX8_note_9 : decode cX8_note 9 = .ok (.lload_n 1, 1) := by decide +kernel
theorem dX8_note_10 : decode cX8_note 10 = .ok (.ladd, 1) := by decide +kernel
theorem dX8_note_11 : decode cX8_note 11 = .ok (.putfield 174, 3) := by decide +kernel
theorem dX8_note_14 : decode cX8_note 14 = .ok (.return_, 1) := by decide +kernel
theorem dX8_digest_0 : decode cX8_digest 0 = .ok (.aload_n 0, 1) := by decide +kernel
theorem dX8_digest_1 : decode cX8_digest 1 = .ok (.ldc2_w 178, 3) := by decide +kernel
theorem dX8_digest_4 : decode cX8_digest 4 = .ok (.putfield 174, 3) := by decide +kernel
theorem dX8_digest_7 : decode cX8_digest 7 = .ok (.iconst 0, 1) := by decide +kernel
theorem dX8_digest_8 : decode cX8_digest 8 = .ok (.istore_n 1, 1) := by decide +kernel
theorem dX8_digest_9 : decode cX8_digest 9 = .ok (.iload_n 1, 1) := by decide +kernel
theorem dX8_digest_10 : decode cX8_digest 10 = .ok (.bipush 12, 2) := by decide +kernel
theorem dX8_digest_12 : decode cX8_digest 12 = .ok (.if_icmp .ge 19, 3) := by decide +kernel
theorem dX8_digest_15 : decode cX8_digest 15 = .ok (.aload_n 0, 1) := by decide +kernel
theorem dX8_digest_16 : decode cX8_digest 16 = .ok (.aload_n 0, 1) := by decide +kernel
theorem dX8_digest_17 : decode cX8_digest 17 = .ok (.iload_n 1, 1) := by decide +kernel
theorem dX8_digest_18 : decode cX8_digest 18 = .ok (.invokevirtual 180, 3) := by decide +kernel
theorem dX8_digest_21 : decode cX8_digest 21 = .ok (.i2l, 1) := by decide +kernel
theorem dX8_digest_22 : decode cX8_digest 22 = .ok (.invokevirtual 183, 3) := by decide +kernel
theorem dX8_digest_25 : decode cX8_digest 25 = .ok (.iinc 1 1, 3) := by decide +kernel
theorem dX8_digest_28 : decode cX8_digest 28 = .ok (.goto (-19), 3) := by decide +kernel
theorem dX8_digest_31 : decode cX8_digest 31 = .ok (.aload_n 0, 1) := by decide +kernel
theorem dX8_digest_32 : decode cX8_digest 32 = .ok (.invokevirtual 83, 3) := by decide +kernel
theorem dX8_digest_35 : decode cX8_digest 35 = .ok (.iconst 0, 1) := by decide +kernel
theorem dX8_digest_36 : decode cX8_digest 36 = .ok (.istore_n 1, 1) := by decide +kernel
theorem dX8_digest_37 : decode cX8_digest 37 = .ok (.iload_n 1, 1) := by decide +kernel
theorem dX8_digest_38 : decode cX8_digest 38 = .ok (.bipush 36, 2) := by decide +kernel
theorem dX8_digest_40 : decode cX8_digest 40 = .ok (.if_icmp .ge 31, 3) := by decide +kernel
theorem dX8_digest_43 : decode cX8_digest 43 = .ok (.aload_n 0, 1) := by decide +kernel
theorem dX8_digest_44 : decode cX8_digest 44 = .ok (.aload_n 0, 1) := by decide +kernel
theorem dX8_digest_45 : decode cX8_digest 45 = .ok (.getfield 13, 3) := by decide +kernel
theorem dX8_digest_48 : decode cX8_digest 48 = .ok (.iload_n 1, 1) := by decide +kernel
theorem dX8_digest_49 : decode cX8_digest 49 = .ok (.iaload, 1) := by decide +kernel
theorem dX8_digest_50 : decode cX8_digest 50 = .ok (.i2l, 1) := by decide +kernel
theorem dX8_digest_51 : decode cX8_digest 51 = .ok (.invokevirtual 183, 3) := by decide +kernel
theorem dX8_digest_54 : decode cX8_digest 54 = .ok (.aload_n 0, 1) := by decide +kernel
theorem dX8_digest_55 : decode cX8_digest 55 = .ok (.aload_n 0, 1) := by decide +kernel
theorem dX8_digest_56 : decode cX8_digest 56 = .ok (.getfield 16, 3) := by decide +kernel
theorem dX8_digest_59 : decode cX8_digest 59 = .ok (.iload_n 1, 1) := by decide +kernel
theorem dX8_digest_60 : decode cX8_digest 60 = .ok (.iaload, 1) := by decide +kernel
theorem dX8_digest_61 : decode cX8_digest 61 = .ok (.i2l, 1) := by decide +kernel
theorem dX8_digest_62 : decode cX8_digest 62 = .ok (.invokevirtual 183, 3) := by decide +kernel
theorem dX8_digest_65 : decode cX8_digest 65 = .ok (.iinc 1 1, 3) := by decide +kernel
theorem dX8_digest_68 : decode cX8_digest 68 = .ok (.goto (-31), 3) := by decide +kernel
theorem dX8_digest_71 : decode cX8_digest 71 = .ok (.iconst 0, 1) := by decide +kernel
theorem dX8_digest_72 : decode cX8_digest 72 = .ok (.istore_n 1, 1) := by decide +kernel
theorem dX8_digest_73 : decode cX8_digest 73 = .ok (.iload_n 1, 1) := by decide +kernel
theorem dX8_digest_74 : decode cX8_digest 74 = .ok (.iconst 3, 1) := by decide +kernel
theorem dX8_digest_75 : decode cX8_digest 75 = .ok (.aload_n 0, 1) := by decide +kernel
theorem dX8_digest_76 : decode cX8_digest 76 = .ok (.getfield 7, 3) := by decide +kernel
theorem dX8_digest_79 : decode cX8_digest 79 = .ok (.bipush 31, 2) := by decide +kernel
theorem dX8_digest_81 : decode cX8_digest 81 = .ok (.iaload, 1) := by decide +kernel
theorem dX8_digest_82 : decode cX8_digest 82 = .ok (.imul, 1) := by decide +kernel
theorem dX8_digest_83 : decode cX8_digest 83 = .ok (.if_icmp .ge 23, 3) := by decide +kernel
theorem dX8_digest_86 : decode cX8_digest 86 = .ok (.aload_n 0, 1) := by decide +kernel
theorem dX8_digest_87 : decode cX8_digest 87 = .ok (.aload_n 0, 1) := by decide +kernel
theorem dX8_digest_88 : decode cX8_digest 88 = .ok (.getfield 7, 3) := by decide +kernel
theorem dX8_digest_91 : decode cX8_digest 91 = .ok (.bipush 32, 2) := by decide +kernel
theorem dX8_digest_93 : decode cX8_digest 93 = .ok (.iload_n 1, 1) := by decide +kernel
theorem dX8_digest_94 : decode cX8_digest 94 = .ok (.iadd, 1) := by decide +kernel
theorem dX8_digest_95 : decode cX8_digest 95 = .ok (.iaload, 1) := by decide +kernel
theorem dX8_digest_96 : decode cX8_digest 96 = .ok (.i2l, 1) := by decide +kernel
theorem dX8_digest_97 : decode cX8_digest 97 = .ok (.invokevirtual 183, 3) := by decide +kernel
theorem dX8_digest_100 : decode cX8_digest 100 = .ok (.iinc 1 1, 3) := by decide +kernel
theorem dX8_digest_103 : decode cX8_digest 103 = .ok (.goto (-30), 3) := by decide +kernel
theorem dX8_digest_106 : decode cX8_digest 106 = .ok (.iconst 0, 1) := by decide +kernel
theorem dX8_digest_107 : decode cX8_digest 107 = .ok (.istore_n 1, 1) := by decide +kernel
theorem dX8_digest_108 : decode cX8_digest 108 = .ok (.iload_n 1, 1) := by decide +kernel
theorem dX8_digest_109 : decode cX8_digest 109 = .ok (.iconst 5, 1) := by decide +kernel
theorem dX8_digest_110 : decode cX8_digest 110 = .ok (.if_icmp .ge 34, 3) := by decide +kernel
theorem dX8_digest_113 : decode cX8_digest 113 = .ok (.aload_n 0, 1) := by decide +kernel
theorem dX8_digest_114 : decode cX8_digest 114 = .ok (.getfield 7, 3) := by decide +kernel
theorem dX8_digest_117 : decode cX8_digest 117 = .ok (.bipush 82, 2) := by decide +kernel
theorem dX8_digest_119 : decode cX8_digest 119 = .ok (.iaload, 1) := by decide +kernel
theorem dX8_digest_120 : decode cX8_digest 120 = .ok (.iconst 1, 1) := by decide +kernel
theorem dX8_digest_121 : decode cX8_digest 121 = .ok (.if_icmp .ne 23, 3) := by decide +kernel
theorem dX8_digest_124 : decode cX8_digest 124 = .ok (.aload_n 0, 1) := by decide +kernel
theorem dX8_digest_125 : decode cX8_digest 125 = .ok (.aload_n 0, 1) := by decide +kernel
theorem dX8_digest_126 : decode cX8_digest 126 = .ok (.getfield 7, 3) := by decide +kernel
theorem dX8_digest_129 : decode cX8_digest 129 = .ok (.bipush 83, 2) := by decide +kernel
theorem dX8_digest_131 : decode cX8_digest 131 = .ok (.iload_n 1, 1) := by decide +kernel
theorem dX8_digest_132 : decode cX8_digest 132 = .ok (.iadd, 1) := by decide +kernel
theorem dX8_digest_133 : decode cX8_digest 133 = .ok (.iaload, 1) := by decide +kernel
theorem dX8_digest_134 : decode cX8_digest 134 = .ok (.i2l, 1) := by decide +kernel
theorem dX8_digest_135 : decode cX8_digest 135 = .ok (.invokevirtual 183, 3) := by decide +kernel
theorem dX8_digest_138 : decode cX8_digest 138 = .ok (.iinc 1 1, 3) := by decide +kernel
theorem dX8_digest_141 : decode cX8_digest 141 = .ok (.goto (-33), 3) := by decide +kernel
theorem dX8_digest_144 : decode cX8_digest 144 = .ok (.iconst 0, 1) := by decide +kernel
theorem dX8_digest_145 : decode cX8_digest 145 = .ok (.istore_n 1, 1) := by decide +kernel
theorem dX8_digest_146 : decode cX8_digest 146 = .ok (.aload_n 0, 1) := by decide +kernel
theorem dX8_digest_147 : decode cX8_digest 147 = .ok (.getfield 7, 3) := by decide +kernel
theorem dX8_digest_150 : decode cX8_digest 150 = .ok (.bipush 82, 2) := by decide +kernel
theorem dX8_digest_152 : decode cX8_digest 152 = .ok (.iaload, 1) := by decide +kernel
theorem dX8_digest_153 : decode cX8_digest 153 = .ok (.iconst 1, 1) := by decide +kernel
theorem dX8_digest_154 : decode cX8_digest 154 = .ok (.if_icmp .ne 37, 3) := by decide +kernel
theorem dX8_digest_157 : decode cX8_digest 157 = .ok (.iload_n 1, 1) := by decide +kernel
theorem dX8_digest_158 : decode cX8_digest 158 = .ok (.bipush 7, 2) := by decide +kernel
theorem dX8_digest_160 : decode cX8_digest 160 = .ok (.aload_n 0, 1) := by decide +kernel
theorem dX8_digest_161 : decode cX8_digest 161 = .ok (.getfield 7, 3) := by decide +kernel
theorem dX8_digest_164 : decode cX8_digest 164 = .ok (.bipush 84, 2) := by decide +kernel
theorem dX8_digest_166 : decode cX8_digest 166 = .ok (.iaload, 1) := by decide +kernel
theorem dX8_digest_167 : decode cX8_digest 167 = .ok (.imul, 1) := by decide +kernel
theorem dX8_digest_168 : decode cX8_digest 168 = .ok (.if_icmp .ge 23, 3) := by decide +kernel
theorem dX8_digest_171 : decode cX8_digest 171 = .ok (.aload_n 0, 1) := by decide +kernel
theorem dX8_digest_172 : decode cX8_digest 172 = .ok (.aload_n 0, 1) := by decide +kernel
theorem dX8_digest_173 : decode cX8_digest 173 = .ok (.getfield 7, 3) := by decide +kernel
theorem dX8_digest_176 : decode cX8_digest 176 = .ok (.bipush 88, 2) := by decide +kernel
theorem dX8_digest_178 : decode cX8_digest 178 = .ok (.iload_n 1, 1) := by decide +kernel
theorem dX8_digest_179 : decode cX8_digest 179 = .ok (.iadd, 1) := by decide +kernel
theorem dX8_digest_180 : decode cX8_digest 180 = .ok (.iaload, 1) := by decide +kernel
theorem dX8_digest_181 : decode cX8_digest 181 = .ok (.i2l, 1) := by decide +kernel
theorem dX8_digest_182 : decode cX8_digest 182 = .ok (.invokevirtual 183, 3) := by decide +kernel
theorem dX8_digest_185 : decode cX8_digest 185 = .ok (.iinc 1 1, 3) := by decide +kernel
theorem dX8_digest_188 : decode cX8_digest 188 = .ok (.goto (-42), 3) := by decide +kernel
theorem dX8_digest_191 : decode cX8_digest 191 = .ok (.iconst 0, 1) := by decide +kernel
theorem dX8_digest_192 : decode cX8_digest 192 = .ok (.istore_n 1, 1) := by decide +kernel
theorem dX8_digest_193 : decode cX8_digest 193 = .ok (.aload_n 0, 1) := by decide +kernel
theorem dX8_digest_194 : decode cX8_digest 194 = .ok (.getfield 7, 3) := by decide +kernel
theorem dX8_digest_197 : decode cX8_digest 197 = .ok (.bipush 82, 2) := by decide +kernel
theorem dX8_digest_199 : decode cX8_digest 199 = .ok (.iaload, 1) := by decide +kernel
theorem dX8_digest_200 : decode cX8_digest 200 = .ok (.iconst 1, 1) := by decide +kernel
theorem dX8_digest_201 : decode cX8_digest 201 = .ok (.if_icmp .ne 38, 3) := by decide +kernel
theorem dX8_digest_204 : decode cX8_digest 204 = .ok (.iload_n 1, 1) := by decide +kernel
theorem dX8_digest_205 : decode cX8_digest 205 = .ok (.iconst 5, 1) := by decide +kernel
theorem dX8_digest_206 : decode cX8_digest 206 = .ok (.aload_n 0, 1) := by decide +kernel
theorem dX8_digest_207 : decode cX8_digest 207 = .ok (.getfield 7, 3) := by decide +kernel
theorem dX8_digest_210 : decode cX8_digest 210 = .ok (.sipush 256, 3) := by decide +kernel
theorem dX8_digest_213 : decode cX8_digest 213 = .ok (.iaload, 1) := by decide +kernel
theorem dX8_digest_214 : decode cX8_digest 214 = .ok (.imul, 1) := by decide +kernel
theorem dX8_digest_215 : decode cX8_digest 215 = .ok (.if_icmp .ge 24, 3) := by decide +kernel
theorem dX8_digest_218 : decode cX8_digest 218 = .ok (.aload_n 0, 1) := by decide +kernel
theorem dX8_digest_219 : decode cX8_digest 219 = .ok (.aload_n 0, 1) := by decide +kernel
theorem dX8_digest_220 : decode cX8_digest 220 = .ok (.getfield 7, 3) := by decide +kernel
theorem dX8_digest_223 : decode cX8_digest 223 = .ok (.sipush 186, 3) := by decide +kernel
theorem dX8_digest_226 : decode cX8_digest 226 = .ok (.iload_n 1, 1) := by decide +kernel
theorem dX8_digest_227 : decode cX8_digest 227 = .ok (.iadd, 1) := by decide +kernel
theorem dX8_digest_228 : decode cX8_digest 228 = .ok (.iaload, 1) := by decide +kernel
theorem dX8_digest_229 : decode cX8_digest 229 = .ok (.i2l, 1) := by decide +kernel
theorem dX8_digest_230 : decode cX8_digest 230 = .ok (.invokevirtual 183, 3) := by decide +kernel
theorem dX8_digest_233 : decode cX8_digest 233 = .ok (.iinc 1 1, 3) := by decide +kernel
theorem dX8_digest_236 : decode cX8_digest 236 = .ok (.goto (-43), 3) := by decide +kernel
theorem dX8_digest_239 : decode cX8_digest 239 = .ok (.aload_n 0, 1) := by decide +kernel
theorem dX8_digest_240 : decode cX8_digest 240 = .ok (.getfield 174, 3) := by decide +kernel
theorem dX8_digest_243 : decode cX8_digest 243 = .ok (.lreturn, 1) := by decide +kernel
theorem dL_law_0 : decode cL_law 0 = .ok (.new 7, 3) := by decide +kernel
theorem dL_law_3 : decode cL_law 3 = .ok (.dup, 1) := by decide +kernel
theorem dL_law_4 : decode cL_law 4 = .ok (.invokespecial 9, 3) := by decide +kernel
theorem dL_law_7 : decode cL_law 7 = .ok (.astore_n 1, 1) := by decide +kernel
theorem dL_law_8 : decode cL_law 8 = .ok (.new 10, 3) := by decide +kernel
theorem dL_law_11 : decode cL_law 11 = .ok (.dup, 1) := by decide +kernel
theorem dL_law_12 : decode cL_law 12 = .ok (.invokespecial 12, 3) := by decide +kernel
theorem dL_law_15 : decode cL_law 15 = .ok (.astore_n 2, 1) := by decide +kernel
theorem dL_law_16 : decode cL_law 16 = .ok (.iconst 0, 1) := by decide +kernel
theorem dL_law_17 : decode cL_law 17 = .ok (.istore_n 3, 1) := by decide +kernel
theorem dL_law_18 : decode cL_law 18 = .ok (.iload_n 3, 1) := by decide +kernel
theorem dL_law_19 : decode cL_law 19 = .ok (.aload_n 0, 1) := by decide +kernel
theorem dL_law_20 : decode cL_law 20 = .ok (.arraylength, 1) := by decide +kernel
theorem dL_law_21 : decode cL_law 21 = .ok (.bipush 6, 2) := by decide +kernel
theorem dL_law_23 : decode cL_law 23 = .ok (.isub, 1) := by decide +kernel
theorem dL_law_24 : decode cL_law 24 = .ok (.if_icmp .gt 916, 3) := by decide +kernel
theorem dL_law_27 : decode cL_law 27 = .ok (.aload_n 0, 1) := by decide +kernel
theorem dL_law_28 : decode cL_law 28 = .ok (.iload_n 3, 1) := by decide +kernel
theorem dL_law_29 : decode cL_law 29 = .ok (.iaload, 1) := by decide +kernel
theorem dL_law_30 : decode cL_law 30 = .ok (.bipush 31, 2) := by decide +kernel
theorem dL_law_32 : decode cL_law 32 = .ok (.iand, 1) := by decide +kernel
theorem dL_law_33 : decode cL_law 33 = .ok (.tableswitch 901 0 26 #[123, 186, 229, 252, 285, 328, 361, 430, 443, 496, 549, 572, 605, 628, 641, 664, 687, 710, 723, 746, 779, 812, 835, 848, 861, 874, 887], 123) := by decide +kernel
theorem dL_law_156 : decode cL_law 156 = .ok (.aload_n 1, 1) := by decide +kernel
theorem dL_law_157 : decode cL_law 157 = .ok (.aload_n 0, 1) := by decide +kernel
theorem dL_law_158 : decode cL_law 158 = .ok (.iload_n 3, 1) := by decide +kernel
theorem dL_law_159 : decode cL_law 159 = .ok (.iconst 1, 1) := by decide +kernel
theorem dL_law_160 : decode cL_law 160 = .ok (.iadd, 1) := by decide +kernel
theorem dL_law_161 : decode cL_law 161 = .ok (.iaload, 1) := by decide +kernel
theorem dL_law_162 : decode cL_law 162 = .ok (.aload_n 0, 1) := by decide +kernel
theorem dL_law_163 : decode cL_law 163 = .ok (.iload_n 3, 1) := by decide +kernel
theorem dL_law_164 : decode cL_law 164 = .ok (.iconst 2, 1) := by decide +kernel
theorem dL_law_165 : decode cL_law 165 = .ok (.iadd, 1) := by decide +kernel
theorem dL_law_166 : decode cL_law 166 = .ok (.iaload, 1) := by decide +kernel
theorem dL_law_167 : decode cL_law 167 = .ok (.aload_n 0, 1) := by decide +kernel
theorem dL_law_168 : decode cL_law 168 = .ok (.iload_n 3, 1) := by decide +kernel
theorem dL_law_169 : decode cL_law 169 = .ok (.iconst 3, 1) := by decide +kernel
theorem dL_law_170 : decode cL_law 170 = .ok (.iadd, 1) := by decide +kernel
theorem dL_law_171 : decode cL_law 171 = .ok (.iaload, 1) := by decide +kernel
theorem dL_law_172 : decode cL_law 172 = .ok (.aload_n 0, 1) := by decide +kernel
theorem dL_law_173 : decode cL_law 173 = .ok (.iload_n 3, 1) := by decide +kernel
theorem dL_law_174 : decode cL_law 174 = .ok (.iconst 4, 1) := by decide +kernel
theorem dL_law_175 : decode cL_law 175 = .ok (.iadd, 1) := by decide +kernel
theorem dL_law_176 : decode cL_law 176 = .ok (.iaload, 1) := by decide +kernel
theorem dL_law_177 : decode cL_law 177 = .ok (.aload_n 0, 1) := by decide +kernel
theorem dL_law_178 : decode cL_law 178 = .ok (.iload_n 3, 1) := by decide +kernel
theorem dL_law_179 : decode cL_law 179 = .ok (.iconst 5, 1) := by decide +kernel
theorem dL_law_180 : decode cL_law 180 = .ok (.iadd, 1) := by decide +kernel
theorem dL_law_181 : decode cL_law 181 = .ok (.iaload, 1) := by decide +kernel
theorem dL_law_182 : decode cL_law 182 = .ok (.invokevirtual 13, 3) := by decide +kernel
theorem dL_law_185 : decode cL_law 185 = .ok (.aload_n 2, 1) := by decide +kernel
theorem dL_law_186 : decode cL_law 186 = .ok (.aload_n 0, 1) := by decide +kernel
theorem dL_law_187 : decode cL_law 187 = .ok (.iload_n 3, 1) := by decide +kernel
theorem dL_law_188 : decode cL_law 188 = .ok (.iconst 1, 1) := by decide +kernel
theorem dL_law_189 : decode cL_law 189 = .ok (.iadd, 1) := by decide +kernel
theorem dL_law_190 : decode cL_law 190 = .ok (.iaload, 1) := by decide +kernel
theorem dL_law_191 : decode cL_law 191 = .ok (.aload_n 0, 1) := by decide +kernel
theorem dL_law_192 : decode cL_law 192 = .ok (.iload_n 3, 1) := by decide +kernel
theorem dL_law_193 : decode cL_law 193 = .ok (.iconst 2, 1) := by decide +kernel
theorem dL_law_194 : decode cL_law 194 = .ok (.iadd, 1) := by decide +kernel
theorem dL_law_195 : decode cL_law 195 = .ok (.iaload, 1) := by decide +kernel
theorem dL_law_196 : decode cL_law 196 = .ok (.aload_n 0, 1) := by decide +kernel
theorem dL_law_197 : decode cL_law 197 = .ok (.iload_n 3, 1) := by decide +kernel
theorem dL_law_198 : decode cL_law 198 = .ok (.iconst 3, 1) := by decide +kernel
theorem dL_law_199 : decode cL_law 199 = .ok (.iadd, 1) := by decide +kernel
theorem dL_law_200 : decode cL_law 200 = .ok (.iaload, 1) := by decide +kernel
theorem dL_law_201 : decode cL_law 201 = .ok (.aload_n 0, 1) := by decide +kernel
theorem dL_law_202 : decode cL_law 202 = .ok (.iload_n 3, 1) := by decide +kernel
theorem dL_law_203 : decode cL_law 203 = .ok (.iconst 4, 1) := by decide +kernel
theorem dL_law_204 : decode cL_law 204 = .ok (.iadd, 1) := by decide +kernel
theorem dL_law_205 : decode cL_law 205 = .ok (.iaload, 1) := by decide +kernel
theorem dL_law_206 : decode cL_law 206 = .ok (.aload_n 0, 1) := by decide +kernel
theorem dL_law_207 : decode cL_law 207 = .ok (.iload_n 3, 1) := by decide +kernel
theorem dL_law_208 : decode cL_law 208 = .ok (.iconst 5, 1) := by decide +kernel
theorem dL_law_209 : decode cL_law 209 = .ok (.iadd, 1) := by decide +kernel
theorem dL_law_210 : decode cL_law 210 = .ok (.iaload, 1) := by decide +kernel
theorem dL_law_211 : decode cL_law 211 = .ok (.invokevirtual 17, 3) := by decide +kernel
theorem dL_law_214 : decode cL_law 214 = .ok (.if_icmp .eq 720, 3) := by decide +kernel
theorem dL_law_217 : decode cL_law 217 = .ok (.iconst 0, 1) := by decide +kernel
theorem dL_law_218 : decode cL_law 218 = .ok (.ireturn, 1) := by decide +kernel
theorem dL_law_219 : decode cL_law 219 = .ok (.aload_n 1, 1) := by decide +kernel
theorem dL_law_220 : decode cL_law 220 = .ok (.aload_n 0, 1) := by decide +kernel
theorem dL_law_221 : decode cL_law 221 = .ok (.iload_n 3, 1) := by decide +kernel
theorem dL_law_222 : decode cL_law 222 = .ok (.iconst 1, 1) := by decide +kernel
theorem dL_law_223 : decode cL_law 223 = .ok (.iadd, 1) := by decide +kernel
theorem dL_law_224 : decode cL_law 224 = .ok (.iaload, 1) := by decide +kernel
theorem dL_law_225 : decode cL_law 225 = .ok (.aload_n 0, 1) := by decide +kernel
theorem dL_law_226 : decode cL_law 226 = .ok (.iload_n 3, 1) := by decide +kernel
theorem dL_law_227 : decode cL_law 227 = .ok (.iconst 2, 1) := by decide +kernel
theorem dL_law_228 : decode cL_law 228 = .ok (.iadd, 1) := by decide +kernel
theorem dL_law_229 : decode cL_law 229 = .ok (.iaload, 1) := by decide +kernel
theorem dL_law_230 : decode cL_law 230 = .ok (.aload_n 0, 1) := by decide +kernel
theorem dL_law_231 : decode cL_law 231 = .ok (.iload_n 3, 1) := by decide +kernel
theorem dL_law_232 : decode cL_law 232 = .ok (.iconst 3, 1) := by decide +kernel
theorem dL_law_233 : decode cL_law 233 = .ok (.iadd, 1) := by decide +kernel
theorem dL_law_234 : decode cL_law 234 = .ok (.iaload, 1) := by decide +kernel
theorem dL_law_235 : decode cL_law 235 = .ok (.invokevirtual 18, 3) := by decide +kernel
theorem dL_law_238 : decode cL_law 238 = .ok (.aload_n 2, 1) := by decide +kernel
theorem dL_law_239 : decode cL_law 239 = .ok (.aload_n 0, 1) := by decide +kernel
theorem dL_law_240 : decode cL_law 240 = .ok (.iload_n 3, 1) := by decide +kernel
theorem dL_law_241 : decode cL_law 241 = .ok (.iconst 1, 1) := by decide +kernel
theorem dL_law_242 : decode cL_law 242 = .ok (.iadd, 1) := by decide +kernel
theorem dL_law_243 : decode cL_law 243 = .ok (.iaload, 1) := by decide +kernel
theorem dL_law_244 : decode cL_law 244 = .ok (.aload_n 0, 1) := by decide +kernel
theorem dL_law_245 : decode cL_law 245 = .ok (.iload_n 3, 1) := by decide +kernel
theorem dL_law_246 : decode cL_law 246 = .ok (.iconst 2, 1) := by decide +kernel
theorem dL_law_247 : decode cL_law 247 = .ok (.iadd, 1) := by decide +kernel
theorem dL_law_248 : decode cL_law 248 = .ok (.iaload, 1) := by decide +kernel
theorem dL_law_249 : decode cL_law 249 = .ok (.aload_n 0, 1) := by decide +kernel
theorem dL_law_250 : decode cL_law 250 = .ok (.iload_n 3, 1) := by decide +kernel
theorem dL_law_251 : decode cL_law 251 = .ok (.iconst 3, 1) := by decide +kernel
theorem dL_law_252 : decode cL_law 252 = .ok (.iadd, 1) := by decide +kernel
theorem dL_law_253 : decode cL_law 253 = .ok (.iaload, 1) := by decide +kernel
theorem dL_law_254 : decode cL_law 254 = .ok (.invokevirtual 22, 3) := by decide +kernel
theorem dL_law_257 : decode cL_law 257 = .ok (.if_icmp .eq 677, 3) := by decide +kernel
theorem dL_law_260 : decode cL_law 260 = .ok (.iconst 0, 1) := by decide +kernel
theorem dL_law_261 : decode cL_law 261 = .ok (.ireturn, 1) := by decide +kernel
theorem dL_law_262 : decode cL_law 262 = .ok (.aload_n 1, 1) := by decide +kernel
theorem dL_law_263 : decode cL_law 263 = .ok (.aload_n 0, 1) := by decide +kernel
theorem dL_law_264 : decode cL_law 264 = .ok (.iload_n 3, 1) := by decide +kernel
theorem dL_law_265 : decode cL_law 265 = .ok (.iconst 1, 1) := by decide +kernel
theorem dL_law_266 : decode cL_law 266 = .ok (.iadd, 1) := by decide +kernel
theorem dL_law_267 : decode cL_law 267 = .ok (.iaload, 1) := by decide +kernel
theorem dL_law_268 : decode cL_law 268 = .ok (.invokevirtual 23, 3) := by decide +kernel
theorem dL_law_271 : decode cL_law 271 = .ok (.aload_n 2, 1) := by decide +kernel
theorem dL_law_272 : decode cL_law 272 = .ok (.aload_n 0, 1) := by decide +kernel
theorem dL_law_273 : decode cL_law 273 = .ok (.iload_n 3, 1) := by decide +kernel
theorem dL_law_274 : decode cL_law 274 = .ok (.iconst 1, 1) := by decide +kernel
theorem dL_law_275 : decode cL_law 275 = .ok (.iadd, 1) := by decide +kernel
theorem dL_law_276 : decode cL_law 276 = .ok (.iaload, 1) := by decide +kernel
theorem dL_law_277 : decode cL_law 277 = .ok (.invokevirtual 27, 3) := by decide +kernel
theorem dL_law_280 : decode cL_law 280 = .ok (.if_icmp .eq 654, 3) := by decide +kernel
theorem dL_law_283 : decode cL_law 283 = .ok (.iconst 0, 1) := by decide +kernel
theorem dL_law_284 : decode cL_law 284 = .ok (.ireturn, 1) := by decide +kernel
theorem dL_law_285 : decode cL_law 285 = .ok (.aload_n 1, 1) := by decide +kernel
theorem dL_law_286 : decode cL_law 286 = .ok (.aload_n 0, 1) := by decide +kernel
theorem dL_law_287 : decode cL_law 287 = .ok (.iload_n 3, 1) := by decide +kernel
theorem dL_law_288 : decode cL_law 288 = .ok (.iconst 1, 1) := by decide +kernel
theorem dL_law_289 : decode cL_law 289 = .ok (.iadd, 1) := by decide +kernel
theorem dL_law_290 : decode cL_law 290 = .ok (.iaload, 1) := by decide +kernel
theorem dL_law_291 : decode cL_law 291 = .ok (.aload_n 0, 1) := by decide +kernel
theorem dL_law_292 : decode cL_law 292 = .ok (.iload_n 3, 1) := by decide +kernel
theorem dL_law_293 : decode cL_law 293 = .ok (.iconst 2, 1) := by decide +kernel
theorem dL_law_294 : decode cL_law 294 = .ok (.iadd, 1) := by decide +kernel
theorem dL_law_295 : decode cL_law 295 = .ok (.iaload, 1) := by decide +kernel
theorem dL_law_296 : decode cL_law 296 = .ok (.invokevirtual 28, 3) := by decide +kernel
theorem dL_law_299 : decode cL_law 299 = .ok (.aload_n 2, 1) := by decide +kernel
theorem dL_law_300 : decode cL_law 300 = .ok (.aload_n 0, 1) := by decide +kernel
theorem dL_law_301 : decode cL_law 301 = .ok (.iload_n 3, 1) := by decide +kernel
theorem dL_law_302 : decode cL_law 302 = .ok (.iconst 1, 1) := by decide +kernel
theorem dL_law_303 : decode cL_law 303 = .ok (.iadd, 1) := by decide +kernel
theorem dL_law_304 : decode cL_law 304 = .ok (.iaload, 1) := by decide +kernel
theorem dL_law_305 : decode cL_law 305 = .ok (.aload_n 0, 1) := by decide +kernel
theorem dL_law_306 : decode cL_law 306 = .ok (.iload_n 3, 1) := by decide +kernel
theorem dL_law_307 : decode cL_law 307 = .ok (.iconst 2, 1) := by decide +kernel
theorem dL_law_308 : decode cL_law 308 = .ok (.iadd, 1) := by decide +kernel
theorem dL_law_309 : decode cL_law 309 = .ok (.iaload, 1) := by decide +kernel
theorem dL_law_310 : decode cL_law 310 = .ok (.invokevirtual 32, 3) := by decide +kernel
theorem dL_law_313 : decode cL_law 313 = .ok (.if_icmp .eq 621, 3) := by decide +kernel
theorem dL_law_316 : decode cL_law 316 = .ok (.iconst 0, 1) := by decide +kernel
theorem dL_law_317 : decode cL_law 317 = .ok (.ireturn, 1) := by decide +kernel
theorem dL_law_318 : decode cL_law 318 = .ok (.aload_n 1, 1) := by decide +kernel
theorem dL_law_319 : decode cL_law 319 = .ok (.aload_n 0, 1) := by decide +kernel
theorem dL_law_320 : decode cL_law 320 = .ok (.iload_n 3, 1) := by decide +kernel
theorem dL_law_321 : decode cL_law 321 = .ok (.iconst 1, 1) := by decide +kernel
theorem dL_law_322 : decode cL_law 322 = .ok (.iadd, 1) := by decide +kernel
theorem dL_law_323 : decode cL_law 323 = .ok (.iaload, 1) := by decide +kernel
theorem dL_law_324 : decode cL_law 324 = .ok (.aload_n 0, 1) := by decide +kernel
theorem dL_law_325 : decode cL_law 325 = .ok (.iload_n 3, 1) := by decide +kernel
theorem dL_law_326 : decode cL_law 326 = .ok (.iconst 2, 1) := by decide +kernel
theorem dL_law_327 : decode cL_law 327 = .ok (.iadd, 1) := by decide +kernel
theorem dL_law_328 : decode cL_law 328 = .ok (.iaload, 1) := by decide +kernel
theorem dL_law_329 : decode cL_law 329 = .ok (.aload_n 0, 1) := by decide +kernel
theorem dL_law_330 : decode cL_law 330 = .ok (.iload_n 3, 1) := by decide +kernel
theorem dL_law_331 : decode cL_law 331 = .ok (.iconst 3, 1) := by decide +kernel
theorem dL_law_332 : decode cL_law 332 = .ok (.iadd, 1) := by decide +kernel
theorem dL_law_333 : decode cL_law 333 = .ok (.iaload, 1) := by decide +kernel
theorem dL_law_334 : decode cL_law 334 = .ok (.invokevirtual 33, 3) := by decide +kernel
theorem dL_law_337 : decode cL_law 337 = .ok (.aload_n 2, 1) := by decide +kernel
theorem dL_law_338 : decode cL_law 338 = .ok (.aload_n 0, 1) := by decide +kernel
theorem dL_law_339 : decode cL_law 339 = .ok (.iload_n 3, 1) := by decide +kernel
theorem dL_law_340 : decode cL_law 340 = .ok (.iconst 1, 1) := by decide +kernel
theorem dL_law_341 : decode cL_law 341 = .ok (.iadd, 1) := by decide +kernel
theorem dL_law_342 : decode cL_law 342 = .ok (.iaload, 1) := by decide +kernel
theorem dL_law_343 : decode cL_law 343 = .ok (.aload_n 0, 1) := by decide +kernel
theorem dL_law_344 : decode cL_law 344 = .ok (.iload_n 3, 1) := by decide +kernel
theorem dL_law_345 : decode cL_law 345 = .ok (.iconst 2, 1) := by decide +kernel
theorem dL_law_346 : decode cL_law 346 = .ok (.iadd, 1) := by decide +kernel
theorem dL_law_347 : decode cL_law 347 = .ok (.iaload, 1) := by decide +kernel
theorem dL_law_348 : decode cL_law 348 = .ok (.aload_n 0, 1) := by decide +kernel
theorem dL_law_349 : decode cL_law 349 = .ok (.iload_n 3, 1) := by decide +kernel
theorem dL_law_350 : decode cL_law 350 = .ok (.iconst 3, 1) := by decide +kernel
theorem dL_law_351 : decode cL_law 351 = .ok (.iadd, 1) := by decide +kernel
theorem dL_law_352 : decode cL_law 352 = .ok (.iaload, 1) := by decide +kernel
theorem dL_law_353 : decode cL_law 353 = .ok (.invokevirtual 36, 3) := by decide +kernel
theorem dL_law_356 : decode cL_law 356 = .ok (.if_icmp .eq 578, 3) := by decide +kernel
theorem dL_law_359 : decode cL_law 359 = .ok (.iconst 0, 1) := by decide +kernel
theorem dL_law_360 : decode cL_law 360 = .ok (.ireturn, 1) := by decide +kernel
theorem dL_law_361 : decode cL_law 361 = .ok (.aload_n 1, 1) := by decide +kernel
theorem dL_law_362 : decode cL_law 362 = .ok (.aload_n 0, 1) := by decide +kernel
theorem dL_law_363 : decode cL_law 363 = .ok (.iload_n 3, 1) := by decide +kernel
theorem dL_law_364 : decode cL_law 364 = .ok (.iconst 1, 1) := by decide +kernel
theorem dL_law_365 : decode cL_law 365 = .ok (.iadd, 1) := by decide +kernel
theorem dL_law_366 : decode cL_law 366 = .ok (.iaload, 1) := by decide +kernel
theorem dL_law_367 : decode cL_law 367 = .ok (.aload_n 0, 1) := by decide +kernel
theorem dL_law_368 : decode cL_law 368 = .ok (.iload_n 3, 1) := by decide +kernel
theorem dL_law_369 : decode cL_law 369 = .ok (.iconst 2, 1) := by decide +kernel
theorem dL_law_370 : decode cL_law 370 = .ok (.iadd, 1) := by decide +kernel
theorem dL_law_371 : decode cL_law 371 = .ok (.iaload, 1) := by decide +kernel
theorem dL_law_372 : decode cL_law 372 = .ok (.invokevirtual 37, 3) := by decide +kernel
theorem dL_law_375 : decode cL_law 375 = .ok (.aload_n 2, 1) := by decide +kernel
theorem dL_law_376 : decode cL_law 376 = .ok (.aload_n 0, 1) := by decide +kernel
theorem dL_law_377 : decode cL_law 377 = .ok (.iload_n 3, 1) := by decide +kernel
theorem dL_law_378 : decode cL_law 378 = .ok (.iconst 1, 1) := by decide +kernel
theorem dL_law_379 : decode cL_law 379 = .ok (.iadd, 1) := by decide +kernel
theorem dL_law_380 : decode cL_law 380 = .ok (.iaload, 1) := by decide +kernel
theorem dL_law_381 : decode cL_law 381 = .ok (.aload_n 0, 1) := by decide +kernel
theorem dL_law_382 : decode cL_law 382 = .ok (.iload_n 3, 1) := by decide +kernel
theorem dL_law_383 : decode cL_law 383 = .ok (.iconst 2, 1) := by decide +kernel
theorem dL_law_384 : decode cL_law 384 = .ok (.iadd, 1) := by decide +kernel
theorem dL_law_385 : decode cL_law 385 = .ok (.iaload, 1) := by decide +kernel
theorem dL_law_386 : decode cL_law 386 = .ok (.invokevirtual 40, 3) := by decide +kernel
theorem dL_law_389 : decode cL_law 389 = .ok (.if_icmp .eq 545, 3) := by decide +kernel
theorem dL_law_392 : decode cL_law 392 = .ok (.iconst 0, 1) := by decide +kernel
theorem dL_law_393 : decode cL_law 393 = .ok (.ireturn, 1) := by decide +kernel
theorem dL_law_394 : decode cL_law 394 = .ok (.aload_n 1, 1) := by decide +kernel
theorem dL_law_395 : decode cL_law 395 = .ok (.aload_n 0, 1) := by decide +kernel
theorem dL_law_396 : decode cL_law 396 = .ok (.iload_n 3, 1) := by decide +kernel
theorem dL_law_397 : decode cL_law 397 = .ok (.iconst 1, 1) := by decide +kernel
theorem dL_law_398 : decode cL_law 398 = .ok (.iadd, 1) := by decide +kernel
theorem dL_law_399 : decode cL_law 399 = .ok (.iaload, 1) := by decide +kernel
theorem dL_law_400 : decode cL_law 400 = .ok (.aload_n 0, 1) := by decide +kernel
theorem dL_law_401 : decode cL_law 401 = .ok (.iload_n 3, 1) := by decide +kernel
theorem dL_law_402 : decode cL_law 402 = .ok (.iconst 2, 1) := by decide +kernel
theorem dL_law_403 : decode cL_law 403 = .ok (.iadd, 1) := by decide +kernel
theorem dL_law_404 : decode cL_law 404 = .ok (.iaload, 1) := by decide +kernel
theorem dL_law_405 : decode cL_law 405 = .ok (.aload_n 0, 1) := by decide +kernel
theorem dL_law_406 : decode cL_law 406 = .ok (.iload_n 3, 1) := by decide +kernel
theorem dL_law_407 : decode cL_law 407 = .ok (.iconst 3, 1) := by decide +kernel
theorem dL_law_408 : decode cL_law 408 = .ok (.iadd, 1) := by decide +kernel
theorem dL_law_409 : decode cL_law 409 = .ok (.iaload, 1) := by decide +kernel
theorem dL_law_410 : decode cL_law 410 = .ok (.aload_n 0, 1) := by decide +kernel
theorem dL_law_411 : decode cL_law 411 = .ok (.iload_n 3, 1) := by decide +kernel
theorem dL_law_412 : decode cL_law 412 = .ok (.iconst 4, 1) := by decide +kernel
theorem dL_law_413 : decode cL_law 413 = .ok (.iadd, 1) := by decide +kernel
theorem dL_law_414 : decode cL_law 414 = .ok (.iaload, 1) := by decide +kernel
theorem dL_law_415 : decode cL_law 415 = .ok (.ifCond .eq 7, 3) := by decide +kernel
theorem dL_law_418 : decode cL_law 418 = .ok (.iconst 1, 1) := by decide +kernel
theorem dL_law_419 : decode cL_law 419 = .ok (.goto 4, 3) := by decide +kernel
theorem dL_law_422 : decode cL_law 422 = .ok (.iconst 0, 1) := by decide +kernel
theorem dL_law_423 : decode cL_law 423 = .ok (.invokevirtual 41, 3) := by decide +kernel
theorem dL_law_426 : decode cL_law 426 = .ok (.aload_n 2, 1) := by decide +kernel
theorem dL_law_427 : decode cL_law 427 = .ok (.aload_n 0, 1) := by decide +kernel
theorem dL_law_428 : decode cL_law 428 = .ok (.iload_n 3, 1) := by decide +kernel
theorem dL_law_429 : decode cL_law 429 = .ok (.iconst 1, 1) := by decide +kernel
theorem dL_law_430 : decode cL_law 430 = .ok (.iadd, 1) := by decide +kernel
theorem dL_law_431 : decode cL_law 431 = .ok (.iaload, 1) := by decide +kernel
theorem dL_law_432 : decode cL_law 432 = .ok (.aload_n 0, 1) := by decide +kernel
theorem dL_law_433 : decode cL_law 433 = .ok (.iload_n 3, 1) := by decide +kernel
theorem dL_law_434 : decode cL_law 434 = .ok (.iconst 2, 1) := by decide +kernel
theorem dL_law_435 : decode cL_law 435 = .ok (.iadd, 1) := by decide +kernel
theorem dL_law_436 : decode cL_law 436 = .ok (.iaload, 1) := by decide +kernel
theorem dL_law_437 : decode cL_law 437 = .ok (.aload_n 0, 1) := by decide +kernel
theorem dL_law_438 : decode cL_law 438 = .ok (.iload_n 3, 1) := by decide +kernel
theorem dL_law_439 : decode cL_law 439 = .ok (.iconst 3, 1) := by decide +kernel
theorem dL_law_440 : decode cL_law 440 = .ok (.iadd, 1) := by decide +kernel
theorem dL_law_441 : decode cL_law 441 = .ok (.iaload, 1) := by decide +kernel
theorem dL_law_442 : decode cL_law 442 = .ok (.aload_n 0, 1) := by decide +kernel
theorem dL_law_443 : decode cL_law 443 = .ok (.iload_n 3, 1) := by decide +kernel
theorem dL_law_444 : decode cL_law 444 = .ok (.iconst 4, 1) := by decide +kernel
theorem dL_law_445 : decode cL_law 445 = .ok (.iadd, 1) := by decide +kernel
theorem dL_law_446 : decode cL_law 446 = .ok (.iaload, 1) := by decide +kernel
theorem dL_law_447 : decode cL_law 447 = .ok (.ifCond .eq 7, 3) := by decide +kernel
theorem dL_law_450 : decode cL_law 450 = .ok (.iconst 1, 1) := by decide +kernel
theorem dL_law_451 : decode cL_law 451 = .ok (.goto 4, 3) := by decide +kernel
theorem dL_law_454 : decode cL_law 454 = .ok (.iconst 0, 1) := by decide +kernel
theorem dL_law_455 : decode cL_law 455 = .ok (.invokevirtual 45, 3) := by decide +kernel
theorem dL_law_458 : decode cL_law 458 = .ok (.if_icmp .eq 476, 3) := by decide +kernel
theorem dL_law_461 : decode cL_law 461 = .ok (.iconst 0, 1) := by decide +kernel
theorem dL_law_462 : decode cL_law 462 = .ok (.ireturn, 1) := by decide +kernel
theorem dL_law_463 : decode cL_law 463 = .ok (.aload_n 1, 1) := by decide +kernel
theorem dL_law_464 : decode cL_law 464 = .ok (.invokevirtual 46, 3) := by decide +kernel
theorem dL_law_467 : decode cL_law 467 = .ok (.aload_n 2, 1) := by decide +kernel
theorem dL_law_468 : decode cL_law 468 = .ok (.invokevirtual 50, 3) := by decide +kernel
theorem dL_law_471 : decode cL_law 471 = .ok (.if_icmp .eq 463, 3) := by decide +kernel
theorem dL_law_474 : decode cL_law 474 = .ok (.iconst 0, 1) := by decide +kernel
theorem dL_law_475 : decode cL_law 475 = .ok (.ireturn, 1) := by decide +kernel
theorem dL_law_476 : decode cL_law 476 = .ok (.aload_n 1, 1) := by decide +kernel
theorem dL_law_477 : decode cL_law 477 = .ok (.aload_n 0, 1) := by decide +kernel
theorem dL_law_478 : decode cL_law 478 = .ok (.iload_n 3, 1) := by decide +kernel
theorem dL_law_479 : decode cL_law 479 = .ok (.iconst 1, 1) := by decide +kernel
theorem dL_law_480 : decode cL_law 480 = .ok (.iadd, 1) := by decide +kernel
theorem dL_law_481 : decode cL_law 481 = .ok (.iaload, 1) := by decide +kernel
theorem dL_law_482 : decode cL_law 482 = .ok (.aload_n 0, 1) := by decide +kernel
theorem dL_law_483 : decode cL_law 483 = .ok (.iload_n 3, 1) := by decide +kernel
theorem dL_law_484 : decode cL_law 484 = .ok (.iconst 2, 1) := by decide +kernel
theorem dL_law_485 : decode cL_law 485 = .ok (.iadd, 1) := by decide +kernel
theorem dL_law_486 : decode cL_law 486 = .ok (.iaload, 1) := by decide +kernel
theorem dL_law_487 : decode cL_law 487 = .ok (.aload_n 0, 1) := by decide +kernel
theorem dL_law_488 : decode cL_law 488 = .ok (.iload_n 3, 1) := by decide +kernel
theorem dL_law_489 : decode cL_law 489 = .ok (.iconst 3, 1) := by decide +kernel
theorem dL_law_490 : decode cL_law 490 = .ok (.iadd, 1) := by decide +kernel
theorem dL_law_491 : decode cL_law 491 = .ok (.iaload, 1) := by decide +kernel
theorem dL_law_492 : decode cL_law 492 = .ok (.aload_n 0, 1) := by decide +kernel
theorem dL_law_493 : decode cL_law 493 = .ok (.iload_n 3, 1) := by decide +kernel
theorem dL_law_494 : decode cL_law 494 = .ok (.iconst 4, 1) := by decide +kernel
theorem dL_law_495 : decode cL_law 495 = .ok (.iadd, 1) := by decide +kernel
theorem dL_law_496 : decode cL_law 496 = .ok (.iaload, 1) := by decide +kernel
theorem dL_law_497 : decode cL_law 497 = .ok (.invokevirtual 51, 3) := by decide +kernel
theorem dL_law_500 : decode cL_law 500 = .ok (.aload_n 2, 1) := by decide +kernel
theorem dL_law_501 : decode cL_law 501 = .ok (.aload_n 0, 1) := by decide +kernel
theorem dL_law_502 : decode cL_law 502 = .ok (.iload_n 3, 1) := by decide +kernel
theorem dL_law_503 : decode cL_law 503 = .ok (.iconst 1, 1) := by decide +kernel
theorem dL_law_504 : decode cL_law 504 = .ok (.iadd, 1) := by decide +kernel
theorem dL_law_505 : decode cL_law 505 = .ok (.iaload, 1) := by decide +kernel
theorem dL_law_506 : decode cL_law 506 = .ok (.aload_n 0, 1) := by decide +kernel
theorem dL_law_507 : decode cL_law 507 = .ok (.iload_n 3, 1) := by decide +kernel
theorem dL_law_508 : decode cL_law 508 = .ok (.iconst 2, 1) := by decide +kernel
theorem dL_law_509 : decode cL_law 509 = .ok (.iadd, 1) := by decide +kernel
theorem dL_law_510 : decode cL_law 510 = .ok (.iaload, 1) := by decide +kernel
theorem dL_law_511 : decode cL_law 511 = .ok (.aload_n 0, 1) := by decide +kernel
theorem dL_law_512 : decode cL_law 512 = .ok (.iload_n 3, 1) := by decide +kernel
theorem dL_law_513 : decode cL_law 513 = .ok (.iconst 3, 1) := by decide +kernel
theorem dL_law_514 : decode cL_law 514 = .ok (.iadd, 1) := by decide +kernel
theorem dL_law_515 : decode cL_law 515 = .ok (.iaload, 1) := by decide +kernel
theorem dL_law_516 : decode cL_law 516 = .ok (.aload_n 0, 1) := by decide +kernel
theorem dL_law_517 : decode cL_law 517 = .ok (.iload_n 3, 1) := by decide +kernel
theorem dL_law_518 : decode cL_law 518 = .ok (.iconst 4, 1) := by decide +kernel
theorem dL_law_519 : decode cL_law 519 = .ok (.iadd, 1) := by decide +kernel
theorem dL_law_520 : decode cL_law 520 = .ok (.iaload, 1) := by decide +kernel
theorem dL_law_521 : decode cL_law 521 = .ok (.invokevirtual 55, 3) := by decide +kernel
theorem dL_law_524 : decode cL_law 524 = .ok (.if_icmp .eq 410, 3) := by decide +kernel
theorem dL_law_527 : decode cL_law 527 = .ok (.iconst 0, 1) := by decide +kernel
theorem dL_law_528 : decode cL_law 528 = .ok (.ireturn, 1) := by decide +kernel
theorem dL_law_529 : decode cL_law 529 = .ok (.aload_n 1, 1) := by decide +kernel
theorem dL_law_530 : decode cL_law 530 = .ok (.aload_n 0, 1) := by decide +kernel
theorem dL_law_531 : decode cL_law 531 = .ok (.iload_n 3, 1) := by decide +kernel
theorem dL_law_532 : decode cL_law 532 = .ok (.iconst 1, 1) := by decide +kernel
theorem dL_law_533 : decode cL_law 533 = .ok (.iadd, 1) := by decide +kernel
theorem dL_law_534 : decode cL_law 534 = .ok (.iaload, 1) := by decide +kernel
theorem dL_law_535 : decode cL_law 535 = .ok (.aload_n 0, 1) := by decide +kernel
theorem dL_law_536 : decode cL_law 536 = .ok (.iload_n 3, 1) := by decide +kernel
theorem dL_law_537 : decode cL_law 537 = .ok (.iconst 2, 1) := by decide +kernel
theorem dL_law_538 : decode cL_law 538 = .ok (.iadd, 1) := by decide +kernel
theorem dL_law_539 : decode cL_law 539 = .ok (.iaload, 1) := by decide +kernel
theorem dL_law_540 : decode cL_law 540 = .ok (.aload_n 0, 1) := by decide +kernel
theorem dL_law_541 : decode cL_law 541 = .ok (.iload_n 3, 1) := by decide +kernel
theorem dL_law_542 : decode cL_law 542 = .ok (.iconst 3, 1) := by decide +kernel
theorem dL_law_543 : decode cL_law 543 = .ok (.iadd, 1) := by decide +kernel
theorem dL_law_544 : decode cL_law 544 = .ok (.iaload, 1) := by decide +kernel
theorem dL_law_545 : decode cL_law 545 = .ok (.aload_n 0, 1) := by decide +kernel
theorem dL_law_546 : decode cL_law 546 = .ok (.iload_n 3, 1) := by decide +kernel
theorem dL_law_547 : decode cL_law 547 = .ok (.iconst 4, 1) := by decide +kernel
theorem dL_law_548 : decode cL_law 548 = .ok (.iadd, 1) := by decide +kernel
theorem dL_law_549 : decode cL_law 549 = .ok (.iaload, 1) := by decide +kernel
theorem dL_law_550 : decode cL_law 550 = .ok (.invokevirtual 56, 3) := by decide +kernel
theorem dL_law_553 : decode cL_law 553 = .ok (.aload_n 2, 1) := by decide +kernel
theorem dL_law_554 : decode cL_law 554 = .ok (.aload_n 0, 1) := by decide +kernel
theorem dL_law_555 : decode cL_law 555 = .ok (.iload_n 3, 1) := by decide +kernel
theorem dL_law_556 : decode cL_law 556 = .ok (.iconst 1, 1) := by decide +kernel
theorem dL_law_557 : decode cL_law 557 = .ok (.iadd, 1) := by decide +kernel
theorem dL_law_558 : decode cL_law 558 = .ok (.iaload, 1) := by decide +kernel
theorem dL_law_559 : decode cL_law 559 = .ok (.aload_n 0, 1) := by decide +kernel
theorem dL_law_560 : decode cL_law 560 = .ok (.iload_n 3, 1) := by decide +kernel
theorem dL_law_561 : decode cL_law 561 = .ok (.iconst 2, 1) := by decide +kernel
theorem dL_law_562 : decode cL_law 562 = .ok (.iadd, 1) := by decide +kernel
theorem dL_law_563 : decode cL_law 563 = .ok (.iaload, 1) := by decide +kernel
theorem dL_law_564 : decode cL_law 564 = .ok (.aload_n 0, 1) := by decide +kernel
theorem dL_law_565 : decode cL_law 565 = .ok (.iload_n 3, 1) := by decide +kernel
theorem dL_law_566 : decode cL_law 566 = .ok (.iconst 3, 1) := by decide +kernel
theorem dL_law_567 : decode cL_law 567 = .ok (.iadd, 1) := by decide +kernel
theorem dL_law_568 : decode cL_law 568 = .ok (.iaload, 1) := by decide +kernel
theorem dL_law_569 : decode cL_law 569 = .ok (.aload_n 0, 1) := by decide +kernel
theorem dL_law_570 : decode cL_law 570 = .ok (.iload_n 3, 1) := by decide +kernel
theorem dL_law_571 : decode cL_law 571 = .ok (.iconst 4, 1) := by decide +kernel
theorem dL_law_572 : decode cL_law 572 = .ok (.iadd, 1) := by decide +kernel
theorem dL_law_573 : decode cL_law 573 = .ok (.iaload, 1) := by decide +kernel
theorem dL_law_574 : decode cL_law 574 = .ok (.invokevirtual 59, 3) := by decide +kernel
theorem dL_law_577 : decode cL_law 577 = .ok (.if_icmp .eq 357, 3) := by decide +kernel
theorem dL_law_580 : decode cL_law 580 = .ok (.iconst 0, 1) := by decide +kernel
theorem dL_law_581 : decode cL_law 581 = .ok (.ireturn, 1) := by decide +kernel
theorem dL_law_582 : decode cL_law 582 = .ok (.aload_n 1, 1) := by decide +kernel
theorem dL_law_583 : decode cL_law 583 = .ok (.aload_n 0, 1) := by decide +kernel
theorem dL_law_584 : decode cL_law 584 = .ok (.iload_n 3, 1) := by decide +kernel
theorem dL_law_585 : decode cL_law 585 = .ok (.iconst 1, 1) := by decide +kernel
theorem dL_law_586 : decode cL_law 586 = .ok (.iadd, 1) := by decide +kernel
theorem dL_law_587 : decode cL_law 587 = .ok (.iaload, 1) := by decide +kernel
theorem dL_law_588 : decode cL_law 588 = .ok (.invokevirtual 60, 3) := by decide +kernel
theorem dL_law_591 : decode cL_law 591 = .ok (.aload_n 2, 1) := by decide +kernel
theorem dL_law_592 : decode cL_law 592 = .ok (.aload_n 0, 1) := by decide +kernel
theorem dL_law_593 : decode cL_law 593 = .ok (.iload_n 3, 1) := by decide +kernel
theorem dL_law_594 : decode cL_law 594 = .ok (.iconst 1, 1) := by decide +kernel
theorem dL_law_595 : decode cL_law 595 = .ok (.iadd, 1) := by decide +kernel
theorem dL_law_596 : decode cL_law 596 = .ok (.iaload, 1) := by decide +kernel
theorem dL_law_597 : decode cL_law 597 = .ok (.invokevirtual 63, 3) := by decide +kernel
theorem dL_law_600 : decode cL_law 600 = .ok (.if_icmp .eq 334, 3) := by decide +kernel
theorem dL_law_603 : decode cL_law 603 = .ok (.iconst 0, 1) := by decide +kernel
theorem dL_law_604 : decode cL_law 604 = .ok (.ireturn, 1) := by decide +kernel
theorem dL_law_605 : decode cL_law 605 = .ok (.aload_n 1, 1) := by decide +kernel
theorem dL_law_606 : decode cL_law 606 = .ok (.aload_n 0, 1) := by decide +kernel
theorem dL_law_607 : decode cL_law 607 = .ok (.iload_n 3, 1) := by decide +kernel
theorem dL_law_608 : decode cL_law 608 = .ok (.iconst 1, 1) := by decide +kernel
theorem dL_law_609 : decode cL_law 609 = .ok (.iadd, 1) := by decide +kernel
theorem dL_law_610 : decode cL_law 610 = .ok (.iaload, 1) := by decide +kernel
theorem dL_law_611 : decode cL_law 611 = .ok (.aload_n 0, 1) := by decide +kernel
theorem dL_law_612 : decode cL_law 612 = .ok (.iload_n 3, 1) := by decide +kernel
theorem dL_law_613 : decode cL_law 613 = .ok (.iconst 2, 1) := by decide +kernel
theorem dL_law_614 : decode cL_law 614 = .ok (.iadd, 1) := by decide +kernel
theorem dL_law_615 : decode cL_law 615 = .ok (.iaload, 1) := by decide +kernel
theorem dL_law_616 : decode cL_law 616 = .ok (.invokevirtual 64, 3) := by decide +kernel
theorem dL_law_619 : decode cL_law 619 = .ok (.aload_n 2, 1) := by decide +kernel
theorem dL_law_620 : decode cL_law 620 = .ok (.aload_n 0, 1) := by decide +kernel
theorem dL_law_621 : decode cL_law 621 = .ok (.iload_n 3, 1) := by decide +kernel
theorem dL_law_622 : decode cL_law 622 = .ok (.iconst 1, 1) := by decide +kernel
theorem dL_law_623 : decode cL_law 623 = .ok (.iadd, 1) := by decide +kernel
theorem dL_law_624 : decode cL_law 624 = .ok (.iaload, 1) := by decide +kernel
theorem dL_law_625 : decode cL_law 625 = .ok (.aload_n 0, 1) := by decide +kernel
theorem dL_law_626 : decode cL_law 626 = .ok (.iload_n 3, 1) := by decide +kernel
theorem dL_law_627 : decode cL_law 627 = .ok (.iconst 2, 1) := by decide +kernel
theorem dL_law_628 : decode cL_law 628 = .ok (.iadd, 1) := by decide +kernel
theorem dL_law_629 : decode cL_law 629 = .ok (.iaload, 1) := by decide +kernel
theorem dL_law_630 : decode cL_law 630 = .ok (.invokevirtual 67, 3) := by decide +kernel
theorem dL_law_633 : decode cL_law 633 = .ok (.if_icmp .eq 301, 3) := by decide +kernel
theorem dL_law_636 : decode cL_law 636 = .ok (.iconst 0, 1) := by decide +kernel
theorem dL_law_637 : decode cL_law 637 = .ok (.ireturn, 1) := by decide +kernel
theorem dL_law_638 : decode cL_law 638 = .ok (.aload_n 1, 1) := by decide +kernel
theorem dL_law_639 : decode cL_law 639 = .ok (.aload_n 0, 1) := by decide +kernel
theorem dL_law_640 : decode cL_law 640 = .ok (.iload_n 3, 1) := by decide +kernel
theorem dL_law_641 : decode cL_law 641 = .ok (.iconst 1, 1) := by decide +kernel
theorem dL_law_642 : decode cL_law 642 = .ok (.iadd, 1) := by decide +kernel
theorem dL_law_643 : decode cL_law 643 = .ok (.iaload, 1) := by decide +kernel
theorem dL_law_644 : decode cL_law 644 = .ok (.invokevirtual 68, 3) := by decide +kernel
theorem dL_law_647 : decode cL_law 647 = .ok (.aload_n 2, 1) := by decide +kernel
theorem dL_law_648 : decode cL_law 648 = .ok (.aload_n 0, 1) := by decide +kernel
theorem dL_law_649 : decode cL_law 649 = .ok (.iload_n 3, 1) := by decide +kernel
theorem dL_law_650 : decode cL_law 650 = .ok (.iconst 1, 1) := by decide +kernel
theorem dL_law_651 : decode cL_law 651 = .ok (.iadd, 1) := by decide +kernel
theorem dL_law_652 : decode cL_law 652 = .ok (.iaload, 1) := by decide +kernel
theorem dL_law_653 : decode cL_law 653 = .ok (.invokevirtual 71, 3) := by decide +kernel
theorem dL_law_656 : decode cL_law 656 = .ok (.if_icmp .eq 278, 3) := by decide +kernel
theorem dL_law_659 : decode cL_law 659 = .ok (.iconst 0, 1) := by decide +kernel
theorem dL_law_660 : decode cL_law 660 = .ok (.ireturn, 1) := by decide +kernel
theorem dL_law_661 : decode cL_law 661 = .ok (.aload_n 1, 1) := by decide +kernel
theorem dL_law_662 : decode cL_law 662 = .ok (.invokevirtual 72, 3) := by decide +kernel
theorem dL_law_665 : decode cL_law 665 = .ok (.aload_n 2, 1) := by decide +kernel
theorem dL_law_666 : decode cL_law 666 = .ok (.invokevirtual 75, 3) := by decide +kernel
theorem dL_law_669 : decode cL_law 669 = .ok (.if_icmp .eq 265, 3) := by decide +kernel
theorem dL_law_672 : decode cL_law 672 = .ok (.iconst 0, 1) := by decide +kernel
theorem dL_law_673 : decode cL_law 673 = .ok (.ireturn, 1) := by decide +kernel
theorem dL_law_674 : decode cL_law 674 = .ok (.aload_n 1, 1) := by decide +kernel
theorem dL_law_675 : decode cL_law 675 = .ok (.aload_n 0, 1) := by decide +kernel
theorem dL_law_676 : decode cL_law 676 = .ok (.iload_n 3, 1) := by decide +kernel
theorem dL_law_677 : decode cL_law 677 = .ok (.iconst 1, 1) := by decide +kernel
theorem dL_law_678 : decode cL_law 678 = .ok (.iadd, 1) := by decide +kernel
theorem dL_law_679 : decode cL_law 679 = .ok (.iaload, 1) := by decide +kernel
theorem dL_law_680 : decode cL_law 680 = .ok (.invokevirtual 76, 3) := by decide +kernel
theorem dL_law_683 : decode cL_law 683 = .ok (.aload_n 2, 1) := by decide +kernel
theorem dL_law_684 : decode cL_law 684 = .ok (.aload_n 0, 1) := by decide +kernel
theorem dL_law_685 : decode cL_law 685 = .ok (.iload_n 3, 1) := by decide +kernel
theorem dL_law_686 : decode cL_law 686 = .ok (.iconst 1, 1) := by decide +kernel
theorem dL_law_687 : decode cL_law 687 = .ok (.iadd, 1) := by decide +kernel
theorem dL_law_688 : decode cL_law 688 = .ok (.iaload, 1) := by decide +kernel
theorem dL_law_689 : decode cL_law 689 = .ok (.invokevirtual 79, 3) := by decide +kernel
theorem dL_law_692 : decode cL_law 692 = .ok (.if_icmp .eq 242, 3) := by decide +kernel
theorem dL_law_695 : decode cL_law 695 = .ok (.iconst 0, 1) := by decide +kernel
theorem dL_law_696 : decode cL_law 696 = .ok (.ireturn, 1) := by decide +kernel
theorem dL_law_697 : decode cL_law 697 = .ok (.aload_n 1, 1) := by decide +kernel
theorem dL_law_698 : decode cL_law 698 = .ok (.aload_n 0, 1) := by decide +kernel
theorem dL_law_699 : decode cL_law 699 = .ok (.iload_n 3, 1) := by decide +kernel
theorem dL_law_700 : decode cL_law 700 = .ok (.iconst 1, 1) := by decide +kernel
theorem dL_law_701 : decode cL_law 701 = .ok (.iadd, 1) := by decide +kernel
theorem dL_law_702 : decode cL_law 702 = .ok (.iaload, 1) := by decide +kernel
theorem dL_law_703 : decode cL_law 703 = .ok (.invokevirtual 80, 3) := by decide +kernel
theorem dL_law_706 : decode cL_law 706 = .ok (.aload_n 2, 1) := by decide +kernel
theorem dL_law_707 : decode cL_law 707 = .ok (.aload_n 0, 1) := by decide +kernel
theorem dL_law_708 : decode cL_law 708 = .ok (.iload_n 3, 1) := by decide +kernel
theorem dL_law_709 : decode cL_law 709 = .ok (.iconst 1, 1) := by decide +kernel
theorem dL_law_710 : decode cL_law 710 = .ok (.iadd, 1) := by decide +kernel
theorem dL_law_711 : decode cL_law 711 = .ok (.iaload, 1) := by decide +kernel
theorem dL_law_712 : decode cL_law 712 = .ok (.invokevirtual 83, 3) := by decide +kernel
theorem dL_law_715 : decode cL_law 715 = .ok (.if_icmp .eq 219, 3) := by decide +kernel
theorem dL_law_718 : decode cL_law 718 = .ok (.iconst 0, 1) := by decide +kernel
theorem dL_law_719 : decode cL_law 719 = .ok (.ireturn, 1) := by decide +kernel
theorem dL_law_720 : decode cL_law 720 = .ok (.aload_n 1, 1) := by decide +kernel
theorem dL_law_721 : decode cL_law 721 = .ok (.aload_n 0, 1) := by decide +kernel
theorem dL_law_722 : decode cL_law 722 = .ok (.iload_n 3, 1) := by decide +kernel
theorem dL_law_723 : decode cL_law 723 = .ok (.iconst 1, 1) := by decide +kernel
theorem dL_law_724 : decode cL_law 724 = .ok (.iadd, 1) := by decide +kernel
theorem dL_law_725 : decode cL_law 725 = .ok (.iaload, 1) := by decide +kernel
theorem dL_law_726 : decode cL_law 726 = .ok (.invokevirtual 84, 3) := by decide +kernel
theorem dL_law_729 : decode cL_law 729 = .ok (.aload_n 2, 1) := by decide +kernel
theorem dL_law_730 : decode cL_law 730 = .ok (.aload_n 0, 1) := by decide +kernel
theorem dL_law_731 : decode cL_law 731 = .ok (.iload_n 3, 1) := by decide +kernel
theorem dL_law_732 : decode cL_law 732 = .ok (.iconst 1, 1) := by decide +kernel
theorem dL_law_733 : decode cL_law 733 = .ok (.iadd, 1) := by decide +kernel
theorem dL_law_734 : decode cL_law 734 = .ok (.iaload, 1) := by decide +kernel
theorem dL_law_735 : decode cL_law 735 = .ok (.invokevirtual 87, 3) := by decide +kernel
theorem dL_law_738 : decode cL_law 738 = .ok (.if_icmp .eq 196, 3) := by decide +kernel
theorem dL_law_741 : decode cL_law 741 = .ok (.iconst 0, 1) := by decide +kernel
theorem dL_law_742 : decode cL_law 742 = .ok (.ireturn, 1) := by decide +kernel
theorem dL_law_743 : decode cL_law 743 = .ok (.aload_n 1, 1) := by decide +kernel
theorem dL_law_744 : decode cL_law 744 = .ok (.invokevirtual 88, 3) := by decide +kernel
theorem dL_law_747 : decode cL_law 747 = .ok (.aload_n 2, 1) := by decide +kernel
theorem dL_law_748 : decode cL_law 748 = .ok (.invokevirtual 91, 3) := by decide +kernel
theorem dL_law_751 : decode cL_law 751 = .ok (.if_icmp .eq 183, 3) := by decide +kernel
theorem dL_law_754 : decode cL_law 754 = .ok (.iconst 0, 1) := by decide +kernel
theorem dL_law_755 : decode cL_law 755 = .ok (.ireturn, 1) := by decide +kernel
theorem dL_law_756 : decode cL_law 756 = .ok (.aload_n 1, 1) := by decide +kernel
theorem dL_law_757 : decode cL_law 757 = .ok (.aload_n 0, 1) := by decide +kernel
theorem dL_law_758 : decode cL_law 758 = .ok (.iload_n 3, 1) := by decide +kernel
theorem dL_law_759 : decode cL_law 759 = .ok (.iconst 1, 1) := by decide +kernel
theorem dL_law_760 : decode cL_law 760 = .ok (.iadd, 1) := by decide +kernel
theorem dL_law_761 : decode cL_law 761 = .ok (.iaload, 1) := by decide +kernel
theorem dL_law_762 : decode cL_law 762 = .ok (.invokevirtual 92, 3) := by decide +kernel
theorem dL_law_765 : decode cL_law 765 = .ok (.aload_n 2, 1) := by decide +kernel
theorem dL_law_766 : decode cL_law 766 = .ok (.aload_n 0, 1) := by decide +kernel
theorem dL_law_767 : decode cL_law 767 = .ok (.iload_n 3, 1) := by decide +kernel
theorem dL_law_768 : decode cL_law 768 = .ok (.iconst 1, 1) := by decide +kernel
theorem dL_law_769 : decode cL_law 769 = .ok (.iadd, 1) := by decide +kernel
theorem dL_law_770 : decode cL_law 770 = .ok (.iaload, 1) := by decide +kernel
theorem dL_law_771 : decode cL_law 771 = .ok (.invokevirtual 95, 3) := by decide +kernel
theorem dL_law_774 : decode cL_law 774 = .ok (.if_icmp .eq 160, 3) := by decide +kernel
theorem dL_law_777 : decode cL_law 777 = .ok (.iconst 0, 1) := by decide +kernel
theorem dL_law_778 : decode cL_law 778 = .ok (.ireturn, 1) := by decide +kernel
theorem dL_law_779 : decode cL_law 779 = .ok (.aload_n 1, 1) := by decide +kernel
theorem dL_law_780 : decode cL_law 780 = .ok (.aload_n 0, 1) := by decide +kernel
theorem dL_law_781 : decode cL_law 781 = .ok (.iload_n 3, 1) := by decide +kernel
theorem dL_law_782 : decode cL_law 782 = .ok (.iconst 1, 1) := by decide +kernel
theorem dL_law_783 : decode cL_law 783 = .ok (.iadd, 1) := by decide +kernel
theorem dL_law_784 : decode cL_law 784 = .ok (.iaload, 1) := by decide +kernel
theorem dL_law_785 : decode cL_law 785 = .ok (.aload_n 0, 1) := by decide +kernel
theorem dL_law_786 : decode cL_law 786 = .ok (.iload_n 3, 1) := by decide +kernel
theorem dL_law_787 : decode cL_law 787 = .ok (.iconst 2, 1) := by decide +kernel
theorem dL_law_788 : decode cL_law 788 = .ok (.iadd, 1) := by decide +kernel
theorem dL_law_789 : decode cL_law 789 = .ok (.iaload, 1) := by decide +kernel
theorem dL_law_790 : decode cL_law 790 = .ok (.invokevirtual 96, 3) := by decide +kernel
theorem dL_law_793 : decode cL_law 793 = .ok (.aload_n 2, 1) := by decide +kernel
theorem dL_law_794 : decode cL_law 794 = .ok (.aload_n 0, 1) := by decide +kernel
theorem dL_law_795 : decode cL_law 795 = .ok (.iload_n 3, 1) := by decide +kernel
theorem dL_law_796 : decode cL_law 796 = .ok (.iconst 1, 1) := by decide +kernel
theorem dL_law_797 : decode cL_law 797 = .ok (.iadd, 1) := by decide +kernel
theorem dL_law_798 : decode cL_law 798 = .ok (.iaload, 1) := by decide +kernel
theorem dL_law_799 : decode cL_law 799 = .ok (.aload_n 0, 1) := by decide +kernel
theorem dL_law_800 : decode cL_law 800 = .ok (.iload_n 3, 1) := by decide +kernel
theorem dL_law_801 : decode cL_law 801 = .ok (.iconst 2, 1) := by decide +kernel
theorem dL_law_802 : decode cL_law 802 = .ok (.iadd, 1) := by decide +kernel
theorem dL_law_803 : decode cL_law 803 = .ok (.iaload, 1) := by decide +kernel
theorem dL_law_804 : decode cL_law 804 = .ok (.invokevirtual 99, 3) := by decide +kernel
theorem dL_law_807 : decode cL_law 807 = .ok (.if_icmp .eq 127, 3) := by decide +kernel
theorem dL_law_810 : decode cL_law 810 = .ok (.iconst 0, 1) := by decide +kernel
theorem dL_law_811 : decode cL_law 811 = .ok (.ireturn, 1) := by decide +kernel
theorem dL_law_812 : decode cL_law 812 = .ok (.aload_n 1, 1) := by decide +kernel
theorem dL_law_813 : decode cL_law 813 = .ok (.aload_n 0, 1) := by decide +kernel
theorem dL_law_814 : decode cL_law 814 = .ok (.iload_n 3, 1) := by decide +kernel
theorem dL_law_815 : decode cL_law 815 = .ok (.iconst 1, 1) := by decide +kernel
theorem dL_law_816 : decode cL_law 816 = .ok (.iadd, 1) := by decide +kernel
theorem dL_law_817 : decode cL_law 817 = .ok (.iaload, 1) := by decide +kernel
theorem dL_law_818 : decode cL_law 818 = .ok (.aload_n 0, 1) := by decide +kernel
theorem dL_law_819 : decode cL_law 819 = .ok (.iload_n 3, 1) := by decide +kernel
theorem dL_law_820 : decode cL_law 820 = .ok (.iconst 2, 1) := by decide +kernel
theorem dL_law_821 : decode cL_law 821 = .ok (.iadd, 1) := by decide +kernel
theorem dL_law_822 : decode cL_law 822 = .ok (.iaload, 1) := by decide +kernel
theorem dL_law_823 : decode cL_law 823 = .ok (.invokevirtual 100, 3) := by decide +kernel
theorem dL_law_826 : decode cL_law 826 = .ok (.aload_n 2, 1) := by decide +kernel
theorem dL_law_827 : decode cL_law 827 = .ok (.aload_n 0, 1) := by decide +kernel
theorem dL_law_828 : decode cL_law 828 = .ok (.iload_n 3, 1) := by decide +kernel
theorem dL_law_829 : decode cL_law 829 = .ok (.iconst 1, 1) := by decide +kernel
theorem dL_law_830 : decode cL_law 830 = .ok (.iadd, 1) := by decide +kernel
theorem dL_law_831 : decode cL_law 831 = .ok (.iaload, 1) := by decide +kernel
theorem dL_law_832 : decode cL_law 832 = .ok (.aload_n 0, 1) := by decide +kernel
theorem dL_law_833 : decode cL_law 833 = .ok (.iload_n 3, 1) := by decide +kernel
theorem dL_law_834 : decode cL_law 834 = .ok (.iconst 2, 1) := by decide +kernel
theorem dL_law_835 : decode cL_law 835 = .ok (.iadd, 1) := by decide +kernel
theorem dL_law_836 : decode cL_law 836 = .ok (.iaload, 1) := by decide +kernel
theorem dL_law_837 : decode cL_law 837 = .ok (.invokevirtual 103, 3) := by decide +kernel
theorem dL_law_840 : decode cL_law 840 = .ok (.if_icmp .eq 94, 3) := by decide +kernel
theorem dL_law_843 : decode cL_law 843 = .ok (.iconst 0, 1) := by decide +kernel
theorem dL_law_844 : decode cL_law 844 = .ok (.ireturn, 1) := by decide +kernel
theorem dL_law_845 : decode cL_law 845 = .ok (.aload_n 1, 1) := by decide +kernel
theorem dL_law_846 : decode cL_law 846 = .ok (.aload_n 0, 1) := by decide +kernel
theorem dL_law_847 : decode cL_law 847 = .ok (.iload_n 3, 1) := by decide +kernel
theorem dL_law_848 : decode cL_law 848 = .ok (.iconst 1, 1) := by decide +kernel
theorem dL_law_849 : decode cL_law 849 = .ok (.iadd, 1) := by decide +kernel
theorem dL_law_850 : decode cL_law 850 = .ok (.iaload, 1) := by decide +kernel
theorem dL_law_851 : decode cL_law 851 = .ok (.invokevirtual 104, 3) := by decide +kernel
theorem dL_law_854 : decode cL_law 854 = .ok (.aload_n 2, 1) := by decide +kernel
theorem dL_law_855 : decode cL_law 855 = .ok (.aload_n 0, 1) := by decide +kernel
theorem dL_law_856 : decode cL_law 856 = .ok (.iload_n 3, 1) := by decide +kernel
theorem dL_law_857 : decode cL_law 857 = .ok (.iconst 1, 1) := by decide +kernel
theorem dL_law_858 : decode cL_law 858 = .ok (.iadd, 1) := by decide +kernel
theorem dL_law_859 : decode cL_law 859 = .ok (.iaload, 1) := by decide +kernel
theorem dL_law_860 : decode cL_law 860 = .ok (.invokevirtual 107, 3) := by decide +kernel
theorem dL_law_863 : decode cL_law 863 = .ok (.if_icmp .eq 71, 3) := by decide +kernel
theorem dL_law_866 : decode cL_law 866 = .ok (.iconst 0, 1) := by decide +kernel
theorem dL_law_867 : decode cL_law 867 = .ok (.ireturn, 1) := by decide +kernel
theorem dL_law_868 : decode cL_law 868 = .ok (.aload_n 1, 1) := by decide +kernel
theorem dL_law_869 : decode cL_law 869 = .ok (.invokevirtual 108, 3) := by decide +kernel
theorem dL_law_872 : decode cL_law 872 = .ok (.aload_n 2, 1) := by decide +kernel
theorem dL_law_873 : decode cL_law 873 = .ok (.invokevirtual 111, 3) := by decide +kernel
theorem dL_law_876 : decode cL_law 876 = .ok (.if_icmp .eq 58, 3) := by decide +kernel
theorem dL_law_879 : decode cL_law 879 = .ok (.iconst 0, 1) := by decide +kernel
theorem dL_law_880 : decode cL_law 880 = .ok (.ireturn, 1) := by decide +kernel
theorem dL_law_881 : decode cL_law 881 = .ok (.aload_n 1, 1) := by decide +kernel
theorem dL_law_882 : decode cL_law 882 = .ok (.invokevirtual 112, 3) := by decide +kernel
theorem dL_law_885 : decode cL_law 885 = .ok (.aload_n 2, 1) := by decide +kernel
theorem dL_law_886 : decode cL_law 886 = .ok (.invokevirtual 115, 3) := by decide +kernel
theorem dL_law_889 : decode cL_law 889 = .ok (.if_icmp .eq 45, 3) := by decide +kernel
theorem dL_law_892 : decode cL_law 892 = .ok (.iconst 0, 1) := by decide +kernel
theorem dL_law_893 : decode cL_law 893 = .ok (.ireturn, 1) := by decide +kernel
theorem dL_law_894 : decode cL_law 894 = .ok (.aload_n 1, 1) := by decide +kernel
theorem dL_law_895 : decode cL_law 895 = .ok (.invokevirtual 116, 3) := by decide +kernel
theorem dL_law_898 : decode cL_law 898 = .ok (.aload_n 2, 1) := by decide +kernel
theorem dL_law_899 : decode cL_law 899 = .ok (.invokevirtual 119, 3) := by decide +kernel
theorem dL_law_902 : decode cL_law 902 = .ok (.if_icmp .eq 32, 3) := by decide +kernel
theorem dL_law_905 : decode cL_law 905 = .ok (.iconst 0, 1) := by decide +kernel
theorem dL_law_906 : decode cL_law 906 = .ok (.ireturn, 1) := by decide +kernel
theorem dL_law_907 : decode cL_law 907 = .ok (.aload_n 1, 1) := by decide +kernel
theorem dL_law_908 : decode cL_law 908 = .ok (.invokevirtual 120, 3) := by decide +kernel
theorem dL_law_911 : decode cL_law 911 = .ok (.aload_n 2, 1) := by decide +kernel
theorem dL_law_912 : decode cL_law 912 = .ok (.invokevirtual 123, 3) := by decide +kernel
theorem dL_law_915 : decode cL_law 915 = .ok (.if_icmp .eq 19, 3) := by decide +kernel
theorem dL_law_918 : decode cL_law 918 = .ok (.iconst 0, 1) := by decide +kernel
theorem dL_law_919 : decode cL_law 919 = .ok (.ireturn, 1) := by decide +kernel
theorem dL_law_920 : decode cL_law 920 = .ok (.aload_n 1, 1) := by decide +kernel
theorem dL_law_921 : decode cL_law 921 = .ok (.invokevirtual 124, 3) := by decide +kernel
theorem dL_law_924 : decode cL_law 924 = .ok (.aload_n 2, 1) := by decide +kernel
theorem dL_law_925 : decode cL_law 925 = .ok (.invokevirtual 128, 3) := by decide +kernel
theorem dL_law_928 : decode cL_law 928 = .ok (.lcmp, 1) := by decide +kernel
theorem dL_law_929 : decode cL_law 929 = .ok (.ifCond .eq 5, 3) := by decide +kernel
theorem dL_law_932 : decode cL_law 932 = .ok (.iconst 0, 1) := by decide +kernel
theorem dL_law_933 : decode cL_law 933 = .ok (.ireturn, 1) := by decide +kernel
theorem dL_law_934 : decode cL_law 934 = .ok (.iinc 3 6, 3) := by decide +kernel
theorem dL_law_937 : decode cL_law 937 = .ok (.goto (-919), 3) := by decide +kernel
theorem dL_law_940 : decode cL_law 940 = .ok (.iconst 1, 1) := by decide +kernel
theorem dL_law_941 : decode cL_law 941 = .ok (.ireturn, 1) := by decide +kernel

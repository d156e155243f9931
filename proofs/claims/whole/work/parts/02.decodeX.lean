theorem dX0_init_0 : decode cX0_init 0 = .ok (.aload_n 0, 1) := by decide +kernel
theorem dX0_init_1 : decode cX0_init 1 = .ok (.invokespecial 3, 3) := by decide +kernel
theorem dX0_init_4 : decode cX0_init 4 = .ok (.aload_n 0, 1) := by decide +kernel
theorem dX0_init_5 : decode cX0_init 5 = .ok (.sipush 1296, 3) := by decide +kernel
theorem dX0_init_8 : decode cX0_init 8 = .ok (.newarray .int, 2) := by decide +kernel
theorem dX0_init_10 : decode cX0_init 10 = .ok (.putfield 9, 3) := by decide +kernel
theorem dX0_init_13 : decode cX0_init 13 = .ok (.aload_n 0, 1) := by decide +kernel
theorem dX0_init_14 : decode cX0_init 14 = .ok (.sipush 1296, 3) := by decide +kernel
theorem dX0_init_17 : decode cX0_init 17 = .ok (.newarray .int, 2) := by decide +kernel
theorem dX0_init_19 : decode cX0_init 19 = .ok (.putfield 15, 3) := by decide +kernel
theorem dX0_init_22 : decode cX0_init 22 = .ok (.aload_n 0, 1) := by decide +kernel
theorem dX0_init_23 : decode cX0_init 23 = .ok (.bipush 37, 2) := by decide +kernel
theorem dX0_init_25 : decode cX0_init 25 = .ok (.newarray .int, 2) := by decide +kernel
theorem dX0_init_27 : decode cX0_init 27 = .ok (.putfield 18, 3) := by decide +kernel
theorem dX0_init_30 : decode cX0_init 30 = .ok (.return_, 1) := by decide +kernel
theorem dX0_learn_0 : decode cX0_learn 0 = .ok (.aload_n 0, 1) := by decide +kernel
theorem dX0_learn_1 : decode cX0_learn 1 = .ok (.getfield 18, 3) := by decide +kernel
theorem dX0_learn_4 : decode cX0_learn 4 = .ok (.iload_n 2, 1) := by decide +kernel
theorem dX0_learn_5 : decode cX0_learn 5 = .ok (.iaload, 1) := by decide +kernel
theorem dX0_learn_6 : decode cX0_learn 6 = .ok (.aload_n 1, 1) := by decide +kernel
theorem dX0_learn_7 : decode cX0_learn 7 = .ok (.getfield 21, 3) := by decide +kernel
theorem dX0_learn_10 : decode cX0_learn 10 = .ok (.if_icmp .ne 4, 3) := by decide +kernel
theorem dX0_learn_13 : decode cX0_learn 13 = .ok (.return_, 1) := by decide +kernel
theorem dX0_learn_14 : decode cX0_learn 14 = .ok (.iconst 0, 1) := by decide +kernel
theorem dX0_learn_15 : decode cX0_learn 15 = .ok (.istore_n 3, 1) := by decide +kernel
theorem dX0_learn_16 : decode cX0_learn 16 = .ok (.iload_n 3, 1) := by decide +kernel
theorem dX0_learn_17 : decode cX0_learn 17 = .ok (.iload_n 2, 1) := by decide +kernel
theorem dX0_learn_18 : decode cX0_learn 18 = .ok (.iadd, 1) := by decide +kernel
theorem dX0_learn_19 : decode cX0_learn 19 = .ok (.bipush 36, 2) := by decide +kernel
theorem dX0_learn_21 : decode cX0_learn 21 = .ok (.if_icmp .gt 27, 3) := by decide +kernel
theorem dX0_learn_24 : decode cX0_learn 24 = .ok (.aload_n 0, 1) := by decide +kernel
theorem dX0_learn_25 : decode cX0_learn 25 = .ok (.iload_n 3, 1) := by decide +kernel
theorem dX0_learn_26 : decode cX0_learn 26 = .ok (.bipush 36, 2) := by decide +kernel
theorem dX0_learn_28 : decode cX0_learn 28 = .ok (.imul, 1) := by decide +kernel
theorem dX0_learn_29 : decode cX0_learn 29 = .ok (.iload_n 2, 1) := by decide +kernel
theorem dX0_learn_30 : decode cX0_learn 30 = .ok (.iadd, 1) := by decide +kernel
theorem dX0_learn_31 : decode cX0_learn 31 = .ok (.iconst 1, 1) := by decide +kernel
theorem dX0_learn_32 : decode cX0_learn 32 = .ok (.isub, 1) := by decide +kernel
theorem dX0_learn_33 : decode cX0_learn 33 = .ok (.aload_n 1, 1) := by decide +kernel
theorem dX0_learn_34 : decode cX0_learn 34 = .ok (.iload_n 3, 1) := by decide +kernel
theorem dX0_learn_35 : decode cX0_learn 35 = .ok (.iload_n 2, 1) := by decide +kernel
theorem dX0_learn_36 : decode cX0_learn 36 = .ok (.invokevirtual 27, 3) := by decide +kernel
theorem dX0_learn_39 : decode cX0_learn 39 = .ok (.invokevirtual 31, 3) := by decide +kernel
theorem dX0_learn_42 : decode cX0_learn 42 = .ok (.iinc 3 1, 3) := by decide +kernel
theorem dX0_learn_45 : decode cX0_learn 45 = .ok (.goto (-29), 3) := by decide +kernel
theorem dX0_learn_48 : decode cX0_learn 48 = .ok (.aload_n 0, 1) := by decide +kernel
theorem dX0_learn_49 : decode cX0_learn 49 = .ok (.getfield 18, 3) := by decide +kernel
theorem dX0_learn_52 : decode cX0_learn 52 = .ok (.iload_n 2, 1) := by decide +kernel
theorem dX0_learn_53 : decode cX0_learn 53 = .ok (.aload_n 1, 1) := by decide +kernel
theorem dX0_learn_54 : decode cX0_learn 54 = .ok (.getfield 21, 3) := by decide +kernel
theorem dX0_learn_57 : decode cX0_learn 57 = .ok (.iastore, 1) := by decide +kernel
theorem dX0_learn_58 : decode cX0_learn 58 = .ok (.return_, 1) := by decide +kernel
theorem dX0_lengthOf_0 : decode cX0_lengthOf 0 = .ok (.aload_n 0, 1) := by decide +kernel
theorem dX0_lengthOf_1 : decode cX0_lengthOf 1 = .ok (.getfield 9, 3) := by decide +kernel
theorem dX0_lengthOf_4 : decode cX0_lengthOf 4 = .ok (.iload_n 1, 1) := by decide +kernel
theorem dX0_lengthOf_5 : decode cX0_lengthOf 5 = .ok (.bipush 36, 2) := by decide +kernel
theorem dX0_lengthOf_7 : decode cX0_lengthOf 7 = .ok (.imul, 1) := by decide +kernel
theorem dX0_lengthOf_8 : decode cX0_lengthOf 8 = .ok (.iload_n 2, 1) := by decide +kernel
theorem dX0_lengthOf_9 : decode cX0_lengthOf 9 = .ok (.iadd, 1) := by decide +kernel
theorem dX0_lengthOf_10 : decode cX0_lengthOf 10 = .ok (.iconst 1, 1) := by decide +kernel
theorem dX0_lengthOf_11 : decode cX0_lengthOf 11 = .ok (.isub, 1) := by decide +kernel
theorem dX0_lengthOf_12 : decode cX0_lengthOf 12 = .ok (.iaload, 1) := by decide +kernel
theorem dX0_lengthOf_13 : decode cX0_lengthOf 13 = .ok (.ireturn, 1) := by decide +kernel
theorem dX0_firstOf_0 : decode cX0_firstOf 0 = .ok (.aload_n 0, 1) := by decide +kernel
theorem dX0_firstOf_1 : decode cX0_firstOf 1 = .ok (.getfield 15, 3) := by decide +kernel
theorem dX0_firstOf_4 : decode cX0_firstOf 4 = .ok (.iload_n 1, 1) := by decide +kernel
theorem dX0_firstOf_5 : decode cX0_firstOf 5 = .ok (.bipush 36, 2) := by decide +kernel
theorem dX0_firstOf_7 : decode cX0_firstOf 7 = .ok (.imul, 1) := by decide +kernel
theorem dX0_firstOf_8 : decode cX0_firstOf 8 = .ok (.iload_n 2, 1) := by decide +kernel
theorem dX0_firstOf_9 : decode cX0_firstOf 9 = .ok (.iadd, 1) := by decide +kernel
theorem dX0_firstOf_10 : decode cX0_firstOf 10 = .ok (.iconst 1, 1) := by decide +kernel
theorem dX0_firstOf_11 : decode cX0_firstOf 11 = .ok (.isub, 1) := by decide +kernel
theorem dX0_firstOf_12 : decode cX0_firstOf 12 = .ok (.iaload, 1) := by decide +kernel
theorem dX0_firstOf_13 : decode cX0_firstOf 13 = .ok (.ireturn, 1) := by decide +kernel
theorem dX0_findSpan_0 : decode cX0_findSpan 0 = .ok (.iconst 0, 1) := by decide +kernel
theorem dX0_findSpan_1 : decode cX0_findSpan 1 = .ok (.istore 4, 2) := by decide +kernel
theorem dX0_findSpan_3 : decode cX0_findSpan 3 = .ok (.iconst (-1), 1) := by decide +kernel
theorem dX0_findSpan_4 : decode cX0_findSpan 4 = .ok (.istore 5, 2) := by decide +kernel
theorem dX0_findSpan_6 : decode cX0_findSpan 6 = .ok (.iconst 0, 1) := by decide +kernel
theorem dX0_findSpan_7 : decode cX0_findSpan 7 = .ok (.istore 6, 2) := by decide +kernel
theorem dX0_findSpan_9 : decode cX0_findSpan 9 = .ok (.iconst 0, 1) := by decide +kernel
theorem dX0_findSpan_10 : decode cX0_findSpan 10 = .ok (.istore 7, 2) := by decide +kernel
theorem dX0_findSpan_12 : decode cX0_findSpan 12 = .ok (.iload 7, 2) := by decide +kernel
theorem dX0_findSpan_14 : decode cX0_findSpan 14 = .ok (.bipush 48, 2) := by decide +kernel
theorem dX0_findSpan_16 : decode cX0_findSpan 16 = .ok (.if_icmp .ge 50, 3) := by decide +kernel
theorem dX0_findSpan_19 : decode cX0_findSpan 19 = .ok (.lload_n 2, 1) := by decide +kernel
theorem dX0_findSpan_20 : decode cX0_findSpan 20 = .ok (.iload 7, 2) := by decide +kernel
theorem dX0_findSpan_22 : decode cX0_findSpan 22 = .ok (.lshr, 1) := by decide +kernel
theorem dX0_findSpan_23 : decode cX0_findSpan 23 = .ok (.lconst 1, 1) := by decide +kernel
theorem dX0_findSpan_24 : decode cX0_findSpan 24 = .ok (.land, 1) := by decide +kernel
theorem dX0_findSpan_25 : decode cX0_findSpan 25 = .ok (.lconst 0, 1) := by decide +kernel
theorem dX0_findSpan_26 : decode cX0_findSpan 26 = .ok (.lcmp, 1) := by decide +kernel
theorem dX0_findSpan_27 : decode cX0_findSpan 27 = .ok (.ifCond .eq 10, 3) := by decide +kernel
theorem dX0_findSpan_30 : decode cX0_findSpan 30 = .ok (.iload 6, 2) := by decide +kernel
theorem dX0_findSpan_32 : decode cX0_findSpan 32 = .ok (.iconst 1, 1) := by decide +kernel
theorem dX0_findSpan_33 : decode cX0_findSpan 33 = .ok (.iadd, 1) := by decide +kernel
theorem dX0_findSpan_34 : decode cX0_findSpan 34 = .ok (.goto 4, 3) := by decide +kernel
theorem dX0_findSpan_37 : decode cX0_findSpan 37 = .ok (.iconst 0, 1) := by decide +kernel
theorem dX0_findSpan_38 : decode cX0_findSpan 38 = .ok (.istore 6, 2) := by decide +kernel
theorem dX0_findSpan_40 : decode cX0_findSpan 40 = .ok (.iload 6, 2) := by decide +kernel
theorem dX0_findSpan_42 : decode cX0_findSpan 42 = .ok (.iload 4, 2) := by decide +kernel
theorem dX0_findSpan_44 : decode cX0_findSpan 44 = .ok (.if_icmp .le 16, 3) := by decide +kernel
theorem dX0_findSpan_47 : decode cX0_findSpan 47 = .ok (.iload 6, 2) := by decide +kernel
theorem dX0_findSpan_49 : decode cX0_findSpan 49 = .ok (.istore 4, 2) := by decide +kernel
theorem dX0_findSpan_51 : decode cX0_findSpan 51 = .ok (.iload 7, 2) := by decide +kernel
theorem dX0_findSpan_53 : decode cX0_findSpan 53 = .ok (.iload 6, 2) := by decide +kernel
theorem dX0_findSpan_55 : decode cX0_findSpan 55 = .ok (.isub, 1) := by decide +kernel
theorem dX0_findSpan_56 : decode cX0_findSpan 56 = .ok (.iconst 1, 1) := by decide +kernel
theorem dX0_findSpan_57 : decode cX0_findSpan 57 = .ok (.iadd, 1) := by decide +kernel
theorem dX0_findSpan_58 : decode cX0_findSpan 58 = .ok (.istore 5, 2) := by decide +kernel
theorem dX0_findSpan_60 : decode cX0_findSpan 60 = .ok (.iinc 7 1, 3) := by decide +kernel
theorem dX0_findSpan_63 : decode cX0_findSpan 63 = .ok (.goto (-51), 3) := by decide +kernel
theorem dX0_findSpan_66 : decode cX0_findSpan 66 = .ok (.aload_n 0, 1) := by decide +kernel
theorem dX0_findSpan_67 : decode cX0_findSpan 67 = .ok (.getfield 9, 3) := by decide +kernel
theorem dX0_findSpan_70 : decode cX0_findSpan 70 = .ok (.iload_n 1, 1) := by decide +kernel
theorem dX0_findSpan_71 : decode cX0_findSpan 71 = .ok (.iload 4, 2) := by decide +kernel
theorem dX0_findSpan_73 : decode cX0_findSpan 73 = .ok (.iastore, 1) := by decide +kernel
theorem dX0_findSpan_74 : decode cX0_findSpan 74 = .ok (.aload_n 0, 1) := by decide +kernel
theorem dX0_findSpan_75 : decode cX0_findSpan 75 = .ok (.getfield 15, 3) := by decide +kernel
theorem dX0_findSpan_78 : decode cX0_findSpan 78 = .ok (.iload_n 1, 1) := by decide +kernel
theorem dX0_findSpan_79 : decode cX0_findSpan 79 = .ok (.iload 5, 2) := by decide +kernel
theorem dX0_findSpan_81 : decode cX0_findSpan 81 = .ok (.iastore, 1) := by decide +kernel
theorem dX0_findSpan_82 : decode cX0_findSpan 82 = .ok (.return_, 1) := by decide +kernel
theorem dX1_init_0 : decode cX1_init 0 = .ok (.aload_n 0, 1) := by decide +kernel
theorem dX1_init_1 : decode cX1_init 1 = .ok (.invokespecial 3, 3) := by decide +kernel
theorem dX1_init_4 : decode cX1_init 4 = .ok (.aload_n 0, 1) := by decide +kernel
theorem dX1_init_5 : decode cX1_init 5 = .ok (.iconst 0, 1) := by decide +kernel
theorem dX1_init_6 : decode cX1_init 6 = .ok (.putfield 9, 3) := by decide +kernel
theorem dX1_init_9 : decode cX1_init 9 = .ok (.aload_n 0, 1) := by decide +kernel
theorem dX1_init_10 : decode cX1_init 10 = .ok (.iconst 1, 1) := by decide +kernel
theorem dX1_init_11 : decode cX1_init 11 = .ok (.putfield 15, 3) := by decide +kernel
theorem dX1_init_14 : decode cX1_init 14 = .ok (.aload_n 0, 1) := by decide +kernel
theorem dX1_init_15 : decode cX1_init 15 = .ok (.bipush 30, 2) := by decide +kernel
theorem dX1_init_17 : decode cX1_init 17 = .ok (.newarray .int, 2) := by decide +kernel
theorem dX1_init_19 : decode cX1_init 19 = .ok (.putfield 18, 3) := by decide +kernel
theorem dX1_init_22 : decode cX1_init 22 = .ok (.aload_n 0, 1) := by decide +kernel
theorem dX1_init_23 : decode cX1_init 23 = .ok (.bipush 36, 2) := by decide +kernel
theorem dX1_init_25 : decode cX1_init 25 = .ok (.newarray .long, 2) := by decide +kernel
theorem dX1_init_27 : decode cX1_init 27 = .ok (.putfield 22, 3) := by decide +kernel
theorem dX1_init_30 : decode cX1_init 30 = .ok (.return_, 1) := by decide +kernel
theorem dX1_copyFrom_0 : decode cX1_copyFrom 0 = .ok (.aload_n 0, 1) := by decide +kernel
theorem dX1_copyFrom_1 : decode cX1_copyFrom 1 = .ok (.aload_n 1, 1) := by decide +kernel
theorem dX1_copyFrom_2 : decode cX1_copyFrom 2 = .ok (.getfield 9, 3) := by decide +kernel
theorem dX1_copyFrom_5 : decode cX1_copyFrom 5 = .ok (.putfield 9, 3) := by decide +kernel
theorem dX1_copyFrom_8 : decode cX1_copyFrom 8 = .ok (.aload_n 1, 1) := by decide +kernel
theorem dX1_copyFrom_9 : decode cX1_copyFrom 9 = .ok (.getfield 18, 3) := by decide +kernel
theorem dX1_copyFrom_12 : decode cX1_copyFrom 12 = .ok (.iconst 0, 1) := by decide +kernel
theorem dX1_copyFrom_13 : decode cX1_copyFrom 13 = .ok (.aload_n 0, 1) := by decide +kernel
theorem dX1_copyFrom_14 : decode cX1_copyFrom 14 = .ok (.getfield 18, 3) := by decide +kernel
theorem dX1_copyFrom_17 : decode cX1_copyFrom 17 = .ok (.iconst 0, 1) := by decide +kernel
theorem dX1_copyFrom_18 : decode cX1_copyFrom 18 = .ok (.aload_n 0, 1) := by decide +kernel
theorem dX1_copyFrom_19 : decode cX1_copyFrom 19 = .ok (.getfield 18, 3) := by decide +kernel
theorem dX1_copyFrom_22 : decode cX1_copyFrom 22 = .ok (.arraylength, 1) := by decide +kernel
theorem dX1_copyFrom_23 : decode cX1_copyFrom 23 = .ok (.invokestatic 26, 3) := by decide +kernel
theorem dX1_copyFrom_26 : decode cX1_copyFrom 26 = .ok (.aload_n 1, 1) := by decide +kernel
theorem dX1_copyFrom_27 : decode cX1_copyFrom 27 = .ok (.getfield 22, 3) := by decide +kernel
theorem dX1_copyFrom_30 : decode cX1_copyFrom 30 = .ok (.iconst 0, 1) := by decide +kernel
theorem dX1_copyFrom_31 : decode cX1_copyFrom 31 = .ok (.aload_n 0, 1) := by decide +kernel
theorem dX1_copyFrom_32 : decode cX1_copyFrom 32 = .ok (.getfield 22, 3) := by decide +kernel
theorem dX1_copyFrom_35 : decode cX1_copyFrom 35 = .ok (.iconst 0, 1) := by decide +kernel
theorem dX1_copyFrom_36 : decode cX1_copyFrom 36 = .ok (.aload_n 0, 1) := by decide +kernel
theorem dX1_copyFrom_37 : decode cX1_copyFrom 37 = .ok (.getfield 22, 3) := by decide +kernel
theorem dX1_copyFrom_40 : decode cX1_copyFrom 40 = .ok (.arraylength, 1) := by decide +kernel
theorem dX1_copyFrom_41 : decode cX1_copyFrom 41 = .ok (.invokestatic 26, 3) := by decide +kernel
theorem dX1_copyFrom_44 : decode cX1_copyFrom 44 = .ok (.aload_n 0, 1) := by decide +kernel
theorem dX1_copyFrom_45 : decode cX1_copyFrom 45 = .ok (.dup, 1) := by decide +kernel
theorem dX1_copyFrom_46 : decode cX1_copyFrom 46 = .ok (.getfield 15, 3) := by decide +kernel
theorem dX1_copyFrom_49 : decode cX1_copyFrom 49 = .ok (.iconst 1, 1) := by decide +kernel
theorem dX1_copyFrom_50 : decode cX1_copyFrom 50 = .ok (.iadd, 1) := by decide +kernel
theorem dX1_copyFrom_51 : decode cX1_copyFrom 51 = .ok (.putfield 15, 3) := by decide +kernel
theorem dX1_copyFrom_54 : decode cX1_copyFrom 54 = .ok (.return_, 1) := by decide +kernel
theorem dX1_append_0 : decode cX1_append 0 = .ok (.aload_n 0, 1) := by decide +kernel
theorem dX1_append_1 : decode cX1_append 1 = .ok (.getfield 9, 3) := by decide +kernel
theorem dX1_append_4 : decode cX1_append 4 = .ok (.iconst 5, 1) := by decide +kernel
theorem dX1_append_5 : decode cX1_append 5 = .ok (.imul, 1) := by decide +kernel
theorem dX1_append_6 : decode cX1_append 6 = .ok (.istore 6, 2) := by decide +kernel
theorem dX1_append_8 : decode cX1_append 8 = .ok (.aload_n 0, 1) := by decide +kernel
theorem dX1_append_9 : decode cX1_append 9 = .ok (.getfield 18, 3) := by decide +kernel
theorem dX1_append_12 : decode cX1_append 12 = .ok (.iload 6, 2) := by decide +kernel
theorem dX1_append_14 : decode cX1_append 14 = .ok (.iconst 0, 1) := by decide +kernel
theorem dX1_append_15 : decode cX1_append 15 = .ok (.iadd, 1) := by decide +kernel
theorem dX1_append_16 : decode cX1_append 16 = .ok (.iload_n 1, 1) := by decide +kernel
theorem dX1_append_17 : decode cX1_append 17 = .ok (.iastore, 1) := by decide +kernel
theorem dX1_append_18 : decode cX1_append 18 = .ok (.aload_n 0, 1) := by decide +kernel
theorem dX1_append_19 : decode cX1_append 19 = .ok (.getfield 18, 3) := by decide +kernel
theorem dX1_append_22 : decode cX1_append 22 = .ok (.iload 6, 2) := by decide +kernel
theorem dX1_append_24 : decode cX1_append 24 = .ok (.iconst 1, 1) := by decide +kernel
theorem dX1_append_25 : decode cX1_append 25 = .ok (.iadd, 1) := by decide +kernel
theorem dX1_append_26 : decode cX1_append 26 = .ok (.iload_n 2, 1) := by decide +kernel
theorem dX1_append_27 : decode cX1_append 27 = .ok (.iastore, 1) := by decide +kernel
theorem dX1_append_28 : decode cX1_append 28 = .ok (.aload_n 0, 1) := by decide +kernel
theorem dX1_append_29 : decode cX1_append 29 = .ok (.getfield 18, 3) := by decide +kernel
theorem dX1_append_32 : decode cX1_append 32 = .ok (.iload 6, 2) := by decide +kernel
theorem dX1_append_34 : decode cX1_append 34 = .ok (.iconst 2, 1) := by decide +kernel
theorem dX1_append_35 : decode cX1_append 35 = .ok (.iadd, 1) := by decide +kernel
theorem dX1_append_36 : decode cX1_append 36 = .ok (.iload_n 3, 1) := by decide +kernel
theorem dX1_append_37 : decode cX1_append 37 = .ok (.iastore, 1) := by decide +kernel
theorem dX1_append_38 : decode cX1_append 38 = .ok (.aload_n 0, 1) := by decide +kernel
theorem dX1_append_39 : decode cX1_append 39 = .ok (.getfield 18, 3) := by decide +kernel
theorem dX1_append_42 : decode cX1_append 42 = .ok (.iload 6, 2) := by decide +kernel
theorem dX1_append_44 : decode cX1_append 44 = .ok (.iconst 3, 1) := by decide +kernel
theorem dX1_append_45 : decode cX1_append 45 = .ok (.iadd, 1) := by decide +kernel
theorem dX1_append_46 : decode cX1_append 46 = .ok (.iload 4, 2) := by decide +kernel
theorem dX1_append_48 : decode cX1_append 48 = .ok (.iastore, 1) := by decide +kernel
theorem dX1_append_49 : decode cX1_append 49 = .ok (.aload_n 0, 1) := by decide +kernel
theorem dX1_append_50 : decode cX1_append 50 = .ok (.getfield 18, 3) := by decide +kernel
theorem dX1_append_53 : decode cX1_append 53 = .ok (.iload 6, 2) := by decide +kernel
theorem dX1_append_55 : decode cX1_append 55 = .ok (.iconst 4, 1) := by decide +kernel
theorem dX1_append_56 : decode cX1_append 56 = .ok (.iadd, 1) := by decide +kernel
theorem dX1_append_57 : decode cX1_append 57 = .ok (.iload 5, 2) := by decide +kernel
theorem dX1_append_59 : decode cX1_append 59 = .ok (.iastore, 1) := by decide +kernel
theorem dX1_append_60 : decode cX1_append 60 = .ok (.aload_n 0, 1) := by decide +kernel
theorem dX1_append_61 : decode cX1_append 61 = .ok (.dup, 1) := by decide +kernel
theorem dX1_append_62 : decode cX1_append 62 = .ok (.getfield 9, 3) := by decide +kernel
theorem dX1_append_65 : decode cX1_append 65 = .ok (.iconst 1, 1) := by decide +kernel
theorem dX1_append_66 : decode cX1_append 66 = .ok (.iadd, 1) := by decide +kernel
theorem dX1_append_67 : decode cX1_append 67 = .ok (.putfield 9, 3) := by decide +kernel
theorem dX1_append_70 : decode cX1_append 70 = .ok (.aload_n 0, 1) := by decide +kernel
theorem dX1_append_71 : decode cX1_append 71 = .ok (.iload 6, 2) := by decide +kernel
theorem dX1_append_73 : decode cX1_append 73 = .ok (.invokevirtual 32, 3) := by decide +kernel
theorem dX1_append_76 : decode cX1_append 76 = .ok (.return_, 1) := by decide +kernel
theorem dX1_canShift_0 : decode cX1_canShift 0 = .ok (.iload_n 1, 1) := by decide +kernel
theorem dX1_canShift_1 : decode cX1_canShift 1 = .ok (.iconst 5, 1) := by decide +kernel
theorem dX1_canShift_2 : decode cX1_canShift 2 = .ok (.imul, 1) := by decide +kernel
theorem dX1_canShift_3 : decode cX1_canShift 3 = .ok (.istore 4, 2) := by decide +kernel
theorem dX1_canShift_5 : decode cX1_canShift 5 = .ok (.aload_n 0, 1) := by decide +kernel
theorem dX1_canShift_6 : decode cX1_canShift 6 = .ok (.getfield 18, 3) := by decide +kernel
theorem dX1_canShift_9 : decode cX1_canShift 9 = .ok (.iload 4, 2) := by decide +kernel
theorem dX1_canShift_11 : decode cX1_canShift 11 = .ok (.iconst 1, 1) := by decide +kernel
theorem dX1_canShift_12 : decode cX1_canShift 12 = .ok (.iadd, 1) := by decide +kernel
theorem dX1_canShift_13 : decode cX1_canShift 13 = .ok (.iaload, 1) := by decide +kernel
theorem dX1_canShift_14 : decode cX1_canShift 14 = .ok (.iload_n 2, 1) := by decide +kernel
theorem dX1_canShift_15 : decode cX1_canShift 15 = .ok (.iadd, 1) := by decide +kernel
theorem dX1_canShift_16 : decode cX1_canShift 16 = .ok (.aload_n 0, 1) := by decide +kernel
theorem dX1_canShift_17 : decode cX1_canShift 17 = .ok (.getfield 18, 3) := by decide +kernel
theorem dX1_canShift_20 : decode cX1_canShift 20 = .ok (.iload 4, 2) := by decide +kernel
theorem dX1_canShift_22 : decode cX1_canShift 22 = .ok (.iconst 2, 1) := by decide +kernel
theorem dX1_canShift_23 : decode cX1_canShift 23 = .ok (.iadd, 1) := by decide +kernel
theorem dX1_canShift_24 : decode cX1_canShift 24 = .ok (.iaload, 1) := by decide +kernel
theorem dX1_canShift_25 : decode cX1_canShift 25 = .ok (.iload_n 3, 1) := by decide +kernel
theorem dX1_canShift_26 : decode cX1_canShift 26 = .ok (.iadd, 1) := by decide +kernel
theorem dX1_canShift_27 : decode cX1_canShift 27 = .ok (.aload_n 0, 1) := by decide +kernel
theorem dX1_canShift_28 : decode cX1_canShift 28 = .ok (.getfield 18, 3) := by decide +kernel
theorem dX1_canShift_31 : decode cX1_canShift 31 = .ok (.iload 4, 2) := by decide +kernel
theorem dX1_canShift_33 : decode cX1_canShift 33 = .ok (.iconst 3, 1) := by decide +kernel
theorem dX1_canShift_34 : decode cX1_canShift 34 = .ok (.iadd, 1) := by decide +kernel
theorem dX1_canShift_35 : decode cX1_canShift 35 = .ok (.iaload, 1) := by decide +kernel
theorem dX1_canShift_36 : decode cX1_canShift 36 = .ok (.iload_n 2, 1) := by decide +kernel
theorem dX1_canShift_37 : decode cX1_canShift 37 = .ok (.iadd, 1) := by decide +kernel
theorem dX1_canShift_38 : decode cX1_canShift 38 = .ok (.aload_n 0, 1) := by decide +kernel
theorem dX1_canShift_39 : decode cX1_canShift 39 = .ok (.getfield 18, 3) := by decide +kernel
theorem dX1_canShift_42 : decode cX1_canShift 42 = .ok (.iload 4, 2) := by decide +kernel
theorem dX1_canShift_44 : decode cX1_canShift 44 = .ok (.iconst 4, 1) := by decide +kernel
theorem dX1_canShift_45 : decode cX1_canShift 45 = .ok (.iadd, 1) := by decide +kernel
theorem dX1_canShift_46 : decode cX1_canShift 46 = .ok (.iaload, 1) := by decide +kernel
theorem dX1_canShift_47 : decode cX1_canShift 47 = .ok (.iload_n 3, 1) := by decide +kernel
theorem dX1_canShift_48 : decode cX1_canShift 48 = .ok (.iadd, 1) := by decide +kernel
theorem dX1_canShift_49 : decode cX1_canShift 49 = .ok (.invokestatic 36, 3) := by decide +kernel
theorem dX1_canShift_52 : decode cX1_canShift 52 = .ok (.ireturn, 1) := by decide +kernel
theorem dX1_shift_0 : decode cX1_shift 0 = .ok (.iload_n 1, 1) := by decide +kernel
theorem dX1_shift_1 : decode cX1_shift 1 = .ok (.iconst 5, 1) := by decide +kernel
theorem dX1_shift_2 : decode cX1_shift 2 = .ok (.imul, 1) := by decide +kernel
theorem dX1_shift_3 : decode cX1_shift 3 = .ok (.istore 4, 2) := by decide +kernel
theorem dX1_shift_5 : decode cX1_shift 5 = .ok (.aload_n 0, 1) := by decide +kernel
theorem dX1_shift_6 : decode cX1_shift 6 = .ok (.iload 4, 2) := by decide +kernel
theorem dX1_shift_8 : decode cX1_shift 8 = .ok (.invokevirtual 32, 3) := by decide +kernel
theorem dX1_shift_11 : decode cX1_shift 11 = .ok (.aload_n 0, 1) := by decide +kernel
theorem dX1_shift_12 : decode cX1_shift 12 = .ok (.getfield 18, 3) := by decide +kernel
theorem dX1_shift_15 : decode cX1_shift 15 = .ok (.iload 4, 2) := by decide +kernel
theorem dX1_shift_17 : decode cX1_shift 17 = .ok (.iconst 1, 1) := by decide +kernel
theorem dX1_shift_18 : decode cX1_shift 18 = .ok (.iadd, 1) := by decide +kernel
theorem dX1_shift_19 : decode cX1_shift 19 = .ok (.dup2, 1) := by decide +kernel
theorem dX1_shift_20 : decode cX1_shift 20 = .ok (.iaload, 1) := by decide +kernel
theorem dX1_shift_21 : decode cX1_shift 21 = .ok (.iload_n 2, 1) := by decide +kernel
theorem dX1_shift_22 : decode cX1_shift 22 = .ok (.iadd, 1) := by decide +kernel
theorem dX1_shift_23 : decode cX1_shift 23 = .ok (.iastore, 1) := by decide +kernel
theorem dX1_shift_24 : decode cX1_shift 24 = .ok (.aload_n 0, 1) := by decide +kernel
theorem dX1_shift_25 : decode cX1_shift 25 = .ok (.getfield 18, 3) := by decide +kernel
theorem dX1_shift_28 : decode cX1_shift 28 = .ok (.iload 4, 2) := by decide +kernel
theorem dX1_shift_30 : decode cX1_shift 30 = .ok (.iconst 2, 1) := by decide +kernel
theorem dX1_shift_31 : decode cX1_shift 31 = .ok (.iadd, 1) := by decide +kernel
theorem dX1_shift_32 : decode cX1_shift 32 = .ok (.dup2, 1) := by decide +kernel
theorem dX1_shift_33 : decode cX1_shift 33 = .ok (.iaload, 1) := by decide +kernel
theorem dX1_shift_34 : decode cX1_shift 34 = .ok (.iload_n 3, 1) := by decide +kernel
theorem dX1_shift_35 : decode cX1_shift 35 = .ok (.iadd, 1) := by decide +kernel
theorem dX1_shift_36 : decode cX1_shift 36 = .ok (.iastore, 1) := by decide +kernel
theorem dX1_shift_37 : decode cX1_shift 37 = .ok (.aload_n 0, 1) := by decide +kernel
theorem dX1_shift_38 : decode cX1_shift 38 = .ok (.getfield 18, 3) := by decide +kernel
theorem dX1_shift_41 : decode cX1_shift 41 = .ok (.iload 4, 2) := by decide +kernel
theorem dX1_shift_43 : decode cX1_shift 43 = .ok (.iconst 3, 1) := by decide +kernel
theorem dX1_shift_44 : decode cX1_shift 44 = .ok (.iadd, 1) := by decide +kernel
theorem dX1_shift_45 : decode cX1_shift 45 = .ok (.dup2, 1) := by decide +kernel
theorem dX1_shift_46 : decode cX1_shift 46 = .ok (.iaload, 1) := by decide +kernel
theorem dX1_shift_47 : decode cX1_shift 47 = .ok (.iload_n 2, 1) := by decide +kernel
theorem dX1_shift_48 : decode cX1_shift 48 = .ok (.iadd, 1) := by decide +kernel
theorem dX1_shift_49 : decode cX1_shift 49 = .ok (.iastore, 1) := by decide +kernel
theorem dX1_shift_50 : decode cX1_shift 50 = .ok (.aload_n 0, 1) := by decide +kernel
theorem dX1_shift_51 : decode cX1_shift 51 = .ok (.getfield 18, 3) := by decide +kernel
theorem dX1_shift_54 : decode cX1_shift 54 = .ok (.iload 4, 2) := by decide +kernel
theorem dX1_shift_56 : decode cX1_shift 56 = .ok (.iconst 4, 1) := by decide +kernel
theorem dX1_shift_57 : decode cX1_shift 57 = .ok (.iadd, 1) := by decide +kernel
theorem dX1_shift_58 : decode cX1_shift 58 = .ok (.dup2, 1) := by decide +kernel
theorem dX1_shift_59 : decode cX1_shift 59 = .ok (.iaload, 1) := by decide +kernel
theorem dX1_shift_60 : decode cX1_shift 60 = .ok (.iload_n 3, 1) := by decide +kernel
theorem dX1_shift_61 : decode cX1_shift 61 = .ok (.iadd, 1) := by decide +kernel
theorem dX1_shift_62 : decode cX1_shift 62 = .ok (.iastore, 1) := by decide +kernel
theorem dX1_shift_63 : decode cX1_shift 63 = .ok (.aload_n 0, 1) := by decide +kernel
theorem dX1_shift_64 : decode cX1_shift 64 = .ok (.iload 4, 2) := by decide +kernel
theorem dX1_shift_66 : decode cX1_shift 66 = .ok (.invokevirtual 32, 3) := by decide +kernel
theorem dX1_shift_69 : decode cX1_shift 69 = .ok (.return_, 1) := by decide +kernel
theorem dX1_drop_0 : decode cX1_drop 0 = .ok (.iload_n 1, 1) := by decide +kernel
theorem dX1_drop_1 : decode cX1_drop 1 = .ok (.iconst 5, 1) := by decide +kernel
theorem dX1_drop_2 : decode cX1_drop 2 = .ok (.imul, 1) := by decide +kernel
theorem dX1_drop_3 : decode cX1_drop 3 = .ok (.istore_n 2, 1) := by decide +kernel
theorem dX1_drop_4 : decode cX1_drop 4 = .ok (.aload_n 0, 1) := by decide +kernel
theorem dX1_drop_5 : decode cX1_drop 5 = .ok (.iload_n 2, 1) := by decide +kernel
theorem dX1_drop_6 : decode cX1_drop 6 = .ok (.invokevirtual 32, 3) := by decide +kernel
theorem dX1_drop_9 : decode cX1_drop 9 = .ok (.aload_n 0, 1) := by decide +kernel
theorem dX1_drop_10 : decode cX1_drop 10 = .ok (.dup, 1) := by decide +kernel
theorem dX1_drop_11 : decode cX1_drop 11 = .ok (.getfield 9, 3) := by decide +kernel
theorem dX1_drop_14 : decode cX1_drop 14 = .ok (.iconst 1, 1) := by decide +kernel
theorem dX1_drop_15 : decode cX1_drop 15 = .ok (.isub, 1) := by decide +kernel
theorem dX1_drop_16 : decode cX1_drop 16 = .ok (.putfield 9, 3) := by decide +kernel
theorem dX1_drop_19 : decode cX1_drop 19 = .ok (.aload_n 0, 1) := by decide +kernel
theorem dX1_drop_20 : decode cX1_drop 20 = .ok (.getfield 18, 3) := by decide +kernel
theorem dX1_drop_23 : decode cX1_drop 23 = .ok (.iload_n 2, 1) := by decide +kernel
theorem dX1_drop_24 : decode cX1_drop 24 = .ok (.iconst 5, 1) := by decide +kernel
theorem dX1_drop_25 : decode cX1_drop 25 = .ok (.iadd, 1) := by decide +kernel
theorem dX1_drop_26 : decode cX1_drop 26 = .ok (.aload_n 0, 1) := by decide +kernel
theorem dX1_drop_27 : decode cX1_drop 27 = .ok (.getfield 18, 3) := by decide +kernel
theorem dX1_drop_30 : decode cX1_drop 30 = .ok (.iload_n 2, 1) := by decide +kernel
theorem dX1_drop_31 : decode cX1_drop 31 = .ok (.aload_n 0, 1) := by decide +kernel
theorem dX1_drop_32 : decode cX1_drop 32 = .ok (.getfield 9, 3) := by decide +kernel
theorem dX1_drop_35 : decode cX1_drop 35 = .ok (.iconst 5, 1) := by decide +kernel
theorem dX1_drop_36 : decode cX1_drop 36 = .ok (.imul, 1) := by decide +kernel
theorem dX1_drop_37 : decode cX1_drop 37 = .ok (.iload_n 2, 1) := by decide +kernel
theorem dX1_drop_38 : decode cX1_drop 38 = .ok (.isub, 1) := by decide +kernel
theorem dX1_drop_39 : decode cX1_drop 39 = .ok (.invokestatic 26, 3) := by decide +kernel
theorem dX1_drop_42 : decode cX1_drop 42 = .ok (.return_, 1) := by decide +kernel
theorem dX1_isFreeAt_0 : decode cX1_isFreeAt 0 = .ok (.aload_n 0, 1) := by decide +kernel
theorem dX1_isFreeAt_1 : decode cX1_isFreeAt 1 = .ok (.getfield 22, 3) := by decide +kernel
theorem dX1_isFreeAt_4 : decode cX1_isFreeAt 4 = .ok (.iload_n 2, 1) := by decide +kernel
theorem dX1_isFreeAt_5 : decode cX1_isFreeAt 5 = .ok (.laload, 1) := by decide +kernel
theorem dX1_isFreeAt_6 : decode cX1_isFreeAt 6 = .ok (.iload_n 1, 1) := by decide +kernel
theorem dX1_isFreeAt_7 : decode cX1_isFreeAt 7 = .ok (.lshr, 1) := by decide +kernel
theorem dX1_isFreeAt_8 : decode cX1_isFreeAt 8 = .ok (.lconst 1, 1) := by decide +kernel
theorem dX1_isFreeAt_9 : decode cX1_isFreeAt 9 = .ok (.land, 1) := by decide +kernel
theorem dX1_isFreeAt_10 : decode cX1_isFreeAt 10 = .ok (.lconst 0, 1) := by decide +kernel
theorem dX1_isFreeAt_11 : decode cX1_isFreeAt 11 = .ok (.lcmp, 1) := by decide +kernel
theorem dX1_isFreeAt_12 : decode cX1_isFreeAt 12 = .ok (.ifCond .eq 7, 3) := by decide +kernel
theorem dX1_isFreeAt_15 : decode cX1_isFreeAt 15 = .ok (.iconst 1, 1) := by decide +kernel
theorem dX1_isFreeAt_16 : decode cX1_isFreeAt 16 = .ok (.goto 4, 3) := by decide +kernel
theorem dX1_isFreeAt_19 : decode cX1_isFreeAt 19 = .ok (.iconst 0, 1) := by decide +kernel
theorem dX1_isFreeAt_20 : decode cX1_isFreeAt 20 = .ok (.ireturn, 1) := by decide +kernel
theorem dX1_freeCells_0 : decode cX1_freeCells 0 = .ok (.iconst 0, 1) := by decide +kernel
theorem dX1_freeCells_1 : decode cX1_freeCells 1 = .ok (.istore_n 1, 1) := by decide +kernel
theorem dX1_freeCells_2 : decode cX1_freeCells 2 = .ok (.iconst 0, 1) := by decide +kernel
theorem dX1_freeCells_3 : decode cX1_freeCells 3 = .ok (.istore_n 2, 1) := by decide +kernel
theorem dX1_freeCells_4 : decode cX1_freeCells 4 = .ok (.iload_n 2, 1) := by decide +kernel
theorem dX1_freeCells_5 : decode cX1_freeCells 5 = .ok (.bipush 36, 2) := by decide +kernel
theorem dX1_freeCells_7 : decode cX1_freeCells 7 = .ok (.if_icmp .ge 21, 3) := by decide +kernel
theorem dX1_freeCells_10 : decode cX1_freeCells 10 = .ok (.iload_n 1, 1) := by decide +kernel
theorem dX1_freeCells_11 : decode cX1_freeCells 11 = .ok (.aload_n 0, 1) := by decide +kernel
theorem dX1_freeCells_12 : decode cX1_freeCells 12 = .ok (.getfield 22, 3) := by decide +kernel
theorem dX1_freeCells_15 : decode cX1_freeCells 15 = .ok (.iload_n 2, 1) := by decide +kernel
theorem dX1_freeCells_16 : decode cX1_freeCells 16 = .ok (.laload, 1) := by decide +kernel
theorem dX1_freeCells_17 : decode cX1_freeCells 17 = .ok (.invokestatic 40, 3) := by decide +kernel
theorem dX1_freeCells_20 : decode cX1_freeCells 20 = .ok (.iadd, 1) := by decide +kernel
theorem dX1_freeCells_21 : decode cX1_freeCells 21 = .ok (.istore_n 1, 1) := by decide +kernel
theorem dX1_freeCells_22 : decode cX1_freeCells 22 = .ok (.iinc 2 1, 3) := by decide +kernel
theorem dX1_freeCells_25 : decode cX1_freeCells 25 = .ok (.goto (-21), 3) := by decide +kernel
theorem dX1_freeCells_28 : decode cX1_freeCells 28 = .ok (.iload_n 1, 1) := by decide +kernel
theorem dX1_freeCells_29 : decode cX1_freeCells 29 = .ok (.ireturn, 1) := by decide +kernel
theorem dX1_freeColumns_0 : decode cX1_freeColumns 0 = .ok (.aload_n 0, 1) := by decide +kernel
theorem dX1_freeColumns_1 : decode cX1_freeColumns 1 = .ok (.getfield 22, 3) := by decide +kernel
theorem dX1_freeColumns_4 : decode cX1_freeColumns 4 = .ok (.iload_n 1, 1) := by decide +kernel
theorem dX1_freeColumns_5 : decode cX1_freeColumns 5 = .ok (.laload, 1) := by decide +kernel
theorem dX1_freeColumns_6 : decode cX1_freeColumns 6 = .ok (.lstore_n 3, 1) := by decide +kernel
theorem dX1_freeColumns_7 : decode cX1_freeColumns 7 = .ok (.iload_n 1, 1) := by decide +kernel
theorem dX1_freeColumns_8 : decode cX1_freeColumns 8 = .ok (.iconst 1, 1) := by decide +kernel
theorem dX1_freeColumns_9 : decode cX1_freeColumns 9 = .ok (.iadd, 1) := by decide +kernel
theorem dX1_freeColumns_10 : decode cX1_freeColumns 10 = .ok (.istore 5, 2) := by decide +kernel
theorem dX1_freeColumns_12 : decode cX1_freeColumns 12 = .ok (.iload 5, 2) := by decide +kernel
theorem dX1_freeColumns_14 : decode cX1_freeColumns 14 = .ok (.iload_n 1, 1) := by decide +kernel
theorem dX1_freeColumns_15 : decode cX1_freeColumns 15 = .ok (.iload_n 2, 1) := by decide +kernel
theorem dX1_freeColumns_16 : decode cX1_freeColumns 16 = .ok (.iadd, 1) := by decide +kernel
theorem dX1_freeColumns_17 : decode cX1_freeColumns 17 = .ok (.if_icmp .ge 19, 3) := by decide +kernel
theorem dX1_freeColumns_20 : decode cX1_freeColumns 20 = .ok (.lload_n 3, 1) := by decide +kernel
theorem dX1_freeColumns_21 : decode cX1_freeColumns 21 = .ok (.aload_n 0, 1) := by decide +kernel
theorem dX1_freeColumns_22 : decode cX1_freeColumns 22 = .ok (.getfield 22, 3) := by decide +kernel
theorem dX1_freeColumns_25 : decode cX1_freeColumns 25 = .ok (.iload 5, 2) := by decide +kernel
theorem dX1_freeColumns_27 : decode cX1_freeColumns 27 = .ok (.laload, 1) := by decide +kernel
theorem dX1_freeColumns_28 : decode cX1_freeColumns 28 = .ok (.land, 1) := by decide +kernel
theorem dX1_freeColumns_29 : decode cX1_freeColumns 29 = .ok (.lstore_n 3, 1) := by decide +kernel
theorem dX1_freeColumns_30 : decode cX1_freeColumns 30 = .ok (.iinc 5 1, 3) := by decide +kernel
theorem dX1_freeColumns_33 : decode cX1_freeColumns 33 = .ok (.goto (-21), 3) := by decide +kernel
theorem dX1_freeColumns_36 : decode cX1_freeColumns 36 = .ok (.lload_n 3, 1) := by decide +kernel
theorem dX1_freeColumns_37 : decode cX1_freeColumns 37 = .ok (.lreturn, 1) := by decide +kernel
theorem dX1_toggle_0 : decode cX1_toggle 0 = .ok (.aload_n 0, 1) := by decide +kernel
theorem dX1_toggle_1 : decode cX1_toggle 1 = .ok (.getfield 18, 3) := by decide +kernel
theorem dX1_toggle_4 : decode cX1_toggle 4 = .ok (.iload_n 1, 1) := by decide +kernel
theorem dX1_toggle_5 : decode cX1_toggle 5 = .ok (.iconst 2, 1) := by decide +kernel
theorem dX1_toggle_6 : decode cX1_toggle 6 = .ok (.iadd, 1) := by decide +kernel
theorem dX1_toggle_7 : decode cX1_toggle 7 = .ok (.iaload, 1) := by decide +kernel
theorem dX1_toggle_8 : decode cX1_toggle 8 = .ok (.istore_n 2, 1) := by decide +kernel
theorem dX1_toggle_9 : decode cX1_toggle 9 = .ok (.iload_n 2, 1) := by decide +kernel
theorem dX1_toggle_10 : decode cX1_toggle 10 = .ok (.aload_n 0, 1) := by decide +kernel
theorem dX1_toggle_11 : decode cX1_toggle 11 = .ok (.getfield 18, 3) := by decide +kernel
theorem dX1_toggle_14 : decode cX1_toggle 14 = .ok (.iload_n 1, 1) := by decide +kernel
theorem dX1_toggle_15 : decode cX1_toggle 15 = .ok (.iconst 4, 1) := by decide +kernel
theorem dX1_toggle_16 : decode cX1_toggle 16 = .ok (.iadd, 1) := by decide +kernel
theorem dX1_toggle_17 : decode cX1_toggle 17 = .ok (.iaload, 1) := by decide +kernel
theorem dX1_toggle_18 : decode cX1_toggle 18 = .ok (.if_icmp .gt 24, 3) := by decide +kernel
theorem dX1_toggle_21 : decode cX1_toggle 21 = .ok (.aload_n 0, 1) := by decide +kernel
theorem dX1_toggle_22 : decode cX1_toggle 22 = .ok (.getfield 22, 3) := by decide +kernel
theorem dX1_toggle_25 : decode cX1_toggle 25 = .ok (.iload_n 2, 1) := by decide +kernel
theorem dX1_toggle_26 : decode cX1_toggle 26 = .ok (.dup2, 1) := by decide +kernel
theorem dX1_toggle_27 : decode cX1_toggle 27 = .ok (.laload, 1) := by decide +kernel
theorem dX1_toggle_28 : decode cX1_toggle 28 = .ok (.aload_n 0, 1) := by decide +kernel
theorem dX1_toggle_29 : decode cX1_toggle 29 = .ok (.iload_n 1, 1) := by decide +kernel
theorem dX1_toggle_30 : decode cX1_toggle 30 = .ok (.iload_n 2, 1) := by decide +kernel
theorem dX1_toggle_31 : decode cX1_toggle 31 = .ok (.invokevirtual 46, 3) := by decide +kernel
theorem dX1_toggle_34 : decode cX1_toggle 34 = .ok (.lxor, 1) := by decide +kernel
theorem dX1_toggle_35 : decode cX1_toggle 35 = .ok (.lastore, 1) := by decide +kernel
theorem dX1_toggle_36 : decode cX1_toggle 36 = .ok (.iinc 2 1, 3) := by decide +kernel
theorem dX1_toggle_39 : decode cX1_toggle 39 = .ok (.goto (-30), 3) := by decide +kernel
theorem dX1_toggle_42 : decode cX1_toggle 42 = .ok (.aload_n 0, 1) := by decide +kernel
theorem dX1_toggle_43 : decode cX1_toggle 43 = .ok (.dup, 1) := by decide +kernel
theorem dX1_toggle_44 : decode cX1_toggle 44 = .ok (.getfield 15, 3) := by decide +kernel
theorem dX1_toggle_47 : decode cX1_toggle 47 = .ok (.iconst 1, 1) := by decide +kernel
theorem dX1_toggle_48 : decode cX1_toggle 48 = .ok (.iadd, 1) := by decide +kernel
theorem dX1_toggle_49 : decode cX1_toggle 49 = .ok (.putfield 15, 3) := by decide +kernel
theorem dX1_toggle_52 : decode cX1_toggle 52 = .ok (.return_, 1) := by decide +kernel
theorem dX1_columnsOf_0 : decode cX1_columnsOf 0 = .ok (.aload_n 0, 1) := by decide +kernel
theorem dX1_columnsOf_1 : decode cX1_columnsOf 1 = .ok (.getfield 18, 3) := by decide +kernel
theorem dX1_columnsOf_4 : decode cX1_columnsOf 4 = .ok (.iload_n 1, 1) := by decide +kernel
theorem dX1_columnsOf_5 : decode cX1_columnsOf 5 = .ok (.iconst 1, 1) := by decide +kernel
theorem dX1_columnsOf_6 : decode cX1_columnsOf 6 = .ok (.iadd, 1) := by decide +kernel
theorem dX1_columnsOf_7 : decode cX1_columnsOf 7 = .ok (.iaload, 1) := by decide +kernel
theorem dX1_columnsOf_8 : decode cX1_columnsOf 8 = .ok (.istore_n 3, 1) := by decide +kernel
theorem dX1_columnsOf_9 : decode cX1_columnsOf 9 = .ok (.aload_n 0, 1) := by decide +kernel
theorem dX1_columnsOf_10 : decode cX1_columnsOf 10 = .ok (.getfield 18, 3) := by decide +kernel
theorem dX1_columnsOf_13 : decode cX1_columnsOf 13 = .ok (.iload_n 1, 1) := by decide +kernel
theorem dX1_columnsOf_14 : decode cX1_columnsOf 14 = .ok (.iconst 3, 1) := by decide +kernel
theorem dX1_columnsOf_15 : decode cX1_columnsOf 15 = .ok (.iadd, 1) := by decide +kernel
theorem dX1_columnsOf_16 : decode cX1_columnsOf 16 = .ok (.iaload, 1) := by decide +kernel
theorem dX1_columnsOf_17 : decode cX1_columnsOf 17 = .ok (.istore 4, 2) := by decide +kernel
theorem dX1_columnsOf_19 : decode cX1_columnsOf 19 = .ok (.aload_n 0, 1) := by decide +kernel
theorem dX1_columnsOf_20 : decode cX1_columnsOf 20 = .ok (.getfield 18, 3) := by decide +kernel
theorem dX1_columnsOf_23 : decode cX1_columnsOf 23 = .ok (.iload_n 1, 1) := by decide +kernel
theorem dX1_columnsOf_24 : decode cX1_columnsOf 24 = .ok (.iconst 2, 1) := by decide +kernel
theorem dX1_columnsOf_25 : decode cX1_columnsOf 25 = .ok (.iadd, 1) := by decide +kernel
theorem dX1_columnsOf_26 : decode cX1_columnsOf 26 = .ok (.iaload, 1) := by decide +kernel
theorem dX1_columnsOf_27 : decode cX1_columnsOf 27 = .ok (.istore 5, 2) := by decide +kernel
theorem dX1_columnsOf_29 : decode cX1_columnsOf 29 = .ok (.aload_n 0, 1) := by decide +kernel
theorem dX1_columnsOf_30 : decode cX1_columnsOf 30 = .ok (.getfield 18, 3) := by decide +kernel
theorem dX1_columnsOf_33 : decode cX1_columnsOf 33 = .ok (.iload_n 1, 1) := by decide +kernel
theorem dX1_columnsOf_34 : decode cX1_columnsOf 34 = .ok (.iconst 4, 1) := by decide +kernel
theorem dX1_columnsOf_35 : decode cX1_columnsOf 35 = .ok (.iadd, 1) := by decide +kernel
theorem dX1_columnsOf_36 : decode cX1_columnsOf 36 = .ok (.iaload, 1) := by decide +kernel
theorem dX1_columnsOf_37 : decode cX1_columnsOf 37 = .ok (.istore 6, 2) := by decide +kernel
theorem dX1_columnsOf_39 : decode cX1_columnsOf 39 = .ok (.lconst 0, 1) := by decide +kernel
theorem dX1_columnsOf_40 : decode cX1_columnsOf 40 = .ok (.lstore 7, 2) := by decide +kernel
theorem dX1_columnsOf_42 : decode cX1_columnsOf 42 = .ok (.iload_n 3, 1) := by decide +kernel
theorem dX1_columnsOf_43 : decode cX1_columnsOf 43 = .ok (.istore 9, 2) := by decide +kernel
theorem dX1_columnsOf_45 : decode cX1_columnsOf 45 = .ok (.iload 9, 2) := by decide +kernel
theorem dX1_columnsOf_47 : decode cX1_columnsOf 47 = .ok (.iload 4, 2) := by decide +kernel
theorem dX1_columnsOf_49 : decode cX1_columnsOf 49 = .ok (.if_icmp .gt 83, 3) := by decide +kernel
theorem dX1_columnsOf_52 : decode cX1_columnsOf 52 = .ok (.iconst 2, 1) := by decide +kernel
theorem dX1_columnsOf_53 : decode cX1_columnsOf 53 = .ok (.iload 9, 2) := by decide +kernel
theorem dX1_columnsOf_55 : decode cX1_columnsOf 55 = .ok (.imul, 1) := by decide +kernel
theorem dX1_columnsOf_56 : decode cX1_columnsOf 56 = .ok (.iload_n 3, 1) := by decide +kernel
theorem dX1_columnsOf_57 : decode cX1_columnsOf 57 = .ok (.isub, 1) := by decide +kernel
theorem dX1_columnsOf_58 : decode cX1_columnsOf 58 = .ok (.iload 4, 2) := by decide +kernel
theorem dX1_columnsOf_60 : decode cX1_columnsOf 60 = .ok (.isub, 1) := by decide +kernel
theorem dX1_columnsOf_61 : decode cX1_columnsOf 61 = .ok (.invokestatic 50, 3) := by decide +kernel
theorem dX1_columnsOf_64 : decode cX1_columnsOf 64 = .ok (.istore 10, 2) := by decide +kernel
theorem dX1_columnsOf_66 : decode cX1_columnsOf 66 = .ok (.iconst 2, 1) := by decide +kernel
theorem dX1_columnsOf_67 : decode cX1_columnsOf 67 = .ok (.iload_n 2, 1) := by decide +kernel
theorem dX1_columnsOf_68 : decode cX1_columnsOf 68 = .ok (.imul, 1) := by decide +kernel
theorem dX1_columnsOf_69 : decode cX1_columnsOf 69 = .ok (.iload 5, 2) := by decide +kernel
theorem dX1_columnsOf_71 : decode cX1_columnsOf 71 = .ok (.isub, 1) := by decide +kernel
theorem dX1_columnsOf_72 : decode cX1_columnsOf 72 = .ok (.iload 6, 2) := by decide +kernel
theorem dX1_columnsOf_74 : decode cX1_columnsOf 74 = .ok (.isub, 1) := by decide +kernel
theorem dX1_columnsOf_75 : decode cX1_columnsOf 75 = .ok (.invokestatic 50, 3) := by decide +kernel
theorem dX1_columnsOf_78 : decode cX1_columnsOf 78 = .ok (.istore 11, 2) := by decide +kernel
theorem dX1_columnsOf_80 : decode cX1_columnsOf 80 = .ok (.aload_n 0, 1) := by decide +kernel
theorem dX1_columnsOf_81 : decode cX1_columnsOf 81 = .ok (.getfield 18, 3) := by decide +kernel
theorem dX1_columnsOf_84 : decode cX1_columnsOf 84 = .ok (.iload_n 1, 1) := by decide +kernel
theorem dX1_columnsOf_85 : decode cX1_columnsOf 85 = .ok (.iconst 0, 1) := by decide +kernel
theorem dX1_columnsOf_86 : decode cX1_columnsOf 86 = .ok (.iadd, 1) := by decide +kernel
theorem dX1_columnsOf_87 : decode cX1_columnsOf 87 = .ok (.iaload, 1) := by decide +kernel
theorem dX1_columnsOf_88 : decode cX1_columnsOf 88 = .ok (.iload 10, 2) := by decide +kernel
theorem dX1_columnsOf_90 : decode cX1_columnsOf 90 = .ok (.iload 11, 2) := by decide +kernel
theorem dX1_columnsOf_92 : decode cX1_columnsOf 92 = .ok (.iload 4, 2) := by decide +kernel
theorem dX1_columnsOf_94 : decode cX1_columnsOf 94 = .ok (.iload_n 3, 1) := by decide +kernel
theorem dX1_columnsOf_95 : decode cX1_columnsOf 95 = .ok (.isub, 1) := by decide +kernel
theorem dX1_columnsOf_96 : decode cX1_columnsOf 96 = .ok (.iconst 1, 1) := by decide +kernel
theorem dX1_columnsOf_97 : decode cX1_columnsOf 97 = .ok (.iadd, 1) := by decide +kernel
theorem dX1_columnsOf_98 : decode cX1_columnsOf 98 = .ok (.iload 6, 2) := by decide +kernel
theorem dX1_columnsOf_100 : decode cX1_columnsOf 100 = .ok (.iload 5, 2) := by decide +kernel
theorem dX1_columnsOf_102 : decode cX1_columnsOf 102 = .ok (.isub, 1) := by decide +kernel
theorem dX1_columnsOf_103 : decode cX1_columnsOf 103 = .ok (.iconst 1, 1) := by decide +kernel
theorem dX1_columnsOf_104 : decode cX1_columnsOf 104 = .ok (.iadd, 1) := by decide +kernel
theorem dX1_columnsOf_105 : decode cX1_columnsOf 105 = .ok (.iload_n 2, 1) := by decide +kernel
theorem dX1_columnsOf_106 : decode cX1_columnsOf 106 = .ok (.iload 5, 2) := by decide +kernel
theorem dX1_columnsOf_108 : decode cX1_columnsOf 108 = .ok (.isub, 1) := by decide +kernel
theorem dX1_columnsOf_109 : decode cX1_columnsOf 109 = .ok (.iconst 1, 1) := by decide +kernel
theorem dX1_columnsOf_110 : decode cX1_columnsOf 110 = .ok (.iadd, 1) := by decide +kernel
theorem dX1_columnsOf_111 : decode cX1_columnsOf 111 = .ok (.invokestatic 56, 3) := by decide +kernel
theorem dX1_columnsOf_114 : decode cX1_columnsOf 114 = .ok (.ifCond .eq 12, 3) := by decide +kernel
theorem dX1_columnsOf_117 : decode cX1_columnsOf 117 = .ok (.lload 7, 2) := by decide +kernel
theorem dX1_columnsOf_119 : decode cX1_columnsOf 119 = .ok (.lconst 1, 1) := by decide +kernel
theorem dX1_columnsOf_120 : decode cX1_columnsOf 120 = .ok (.iload 9, 2) := by decide +kernel
theorem dX1_columnsOf_122 : decode cX1_columnsOf 122 = .ok (.lshl, 1) := by decide +kernel
theorem dX1_columnsOf_123 : decode cX1_columnsOf 123 = .ok (.lor, 1) := by decide +kernel
theorem dX1_columnsOf_124 : decode cX1_columnsOf 124 = .ok (.lstore 7, 2) := by decide +kernel
theorem dX1_columnsOf_126 : decode cX1_columnsOf 126 = .ok (.iinc 9 1, 3) := by decide +kernel
theorem dX1_columnsOf_129 : decode cX1_columnsOf 129 = .ok (.goto (-84), 3) := by decide +kernel
theorem dX1_columnsOf_132 : decode cX1_columnsOf 132 = .ok (.lload 7, 2) := by decide +kernel
theorem dX1_columnsOf_134 : decode cX1_columnsOf 134 = .ok (.lreturn, 1) := by decide +kernel
theorem dX1_belongs_0 : decode cX1_belongs 0 = .ok (.iload_n 0, 1) := by decide +kernel
theorem dX1_belongs_1 : decode cX1_belongs 1 = .ok (.tableswitch 100 1 3 #[27, 48, 83], 27) := by decide +kernel
theorem dX1_belongs_28 : decode cX1_belongs 28 = .ok (.iload_n 1, 1) := by decide +kernel
theorem dX1_belongs_29 : decode cX1_belongs 29 = .ok (.iload 4, 2) := by decide +kernel
theorem dX1_belongs_31 : decode cX1_belongs 31 = .ok (.imul, 1) := by decide +kernel
theorem dX1_belongs_32 : decode cX1_belongs 32 = .ok (.iload_n 2, 1) := by decide +kernel
theorem dX1_belongs_33 : decode cX1_belongs 33 = .ok (.iload_n 3, 1) := by decide +kernel
theorem dX1_belongs_34 : decode cX1_belongs 34 = .ok (.imul, 1) := by decide +kernel
theorem dX1_belongs_35 : decode cX1_belongs 35 = .ok (.iadd, 1) := by decide +kernel
theorem dX1_belongs_36 : decode cX1_belongs 36 = .ok (.iload_n 3, 1) := by decide +kernel
theorem dX1_belongs_37 : decode cX1_belongs 37 = .ok (.iload 4, 2) := by decide +kernel
theorem dX1_belongs_39 : decode cX1_belongs 39 = .ok (.imul, 1) := by decide +kernel
theorem dX1_belongs_40 : decode cX1_belongs 40 = .ok (.if_icmp .gt 7, 3) := by decide +kernel
theorem dX1_belongs_43 : decode cX1_belongs 43 = .ok (.iconst 1, 1) := by decide +kernel
theorem dX1_belongs_44 : decode cX1_belongs 44 = .ok (.goto 4, 3) := by decide +kernel
theorem dX1_belongs_47 : decode cX1_belongs 47 = .ok (.iconst 0, 1) := by decide +kernel
theorem dX1_belongs_48 : decode cX1_belongs 48 = .ok (.ireturn, 1) := by decide +kernel
theorem dX1_belongs_49 : decode cX1_belongs 49 = .ok (.iload_n 1, 1) := by decide +kernel
theorem dX1_belongs_50 : decode cX1_belongs 50 = .ok (.iload_n 1, 1) := by decide +kernel
theorem dX1_belongs_51 : decode cX1_belongs 51 = .ok (.imul, 1) := by decide +kernel
theorem dX1_belongs_52 : decode cX1_belongs 52 = .ok (.iload 4, 2) := by decide +kernel
theorem dX1_belongs_54 : decode cX1_belongs 54 = .ok (.imul, 1) := by decide +kernel
theorem dX1_belongs_55 : decode cX1_belongs 55 = .ok (.iload 4, 2) := by decide +kernel
theorem dX1_belongs_57 : decode cX1_belongs 57 = .ok (.imul, 1) := by decide +kernel
theorem dX1_belongs_58 : decode cX1_belongs 58 = .ok (.iload_n 2, 1) := by decide +kernel
theorem dX1_belongs_59 : decode cX1_belongs 59 = .ok (.iload_n 2, 1) := by decide +kernel
theorem dX1_belongs_60 : decode cX1_belongs 60 = .ok (.imul, 1) := by decide +kernel
theorem dX1_belongs_61 : decode cX1_belongs 61 = .ok (.iload_n 3, 1) := by decide +kernel
theorem dX1_belongs_62 : decode cX1_belongs 62 = .ok (.imul, 1) := by decide +kernel
theorem dX1_belongs_63 : decode cX1_belongs 63 = .ok (.iload_n 3, 1) := by decide +kernel
theorem dX1_belongs_64 : decode cX1_belongs 64 = .ok (.imul, 1) := by decide +kernel
theorem dX1_belongs_65 : decode cX1_belongs 65 = .ok (.iadd, 1) := by decide +kernel
theorem dX1_belongs_66 : decode cX1_belongs 66 = .ok (.iload_n 3, 1) := by decide +kernel
theorem dX1_belongs_67 : decode cX1_belongs 67 = .ok (.iload_n 3, 1) := by decide +kernel
theorem dX1_belongs_68 : decode cX1_belongs 68 = .ok (.imul, 1) := by decide +kernel
theorem dX1_belongs_69 : decode cX1_belongs 69 = .ok (.iload 4, 2) := by decide +kernel
theorem dX1_belongs_71 : decode cX1_belongs 71 = .ok (.imul, 1) := by decide +kernel
theorem dX1_belongs_72 : decode cX1_belongs 72 = .ok (.iload 4, 2) := by decide +kernel
theorem dX1_belongs_74 : decode cX1_belongs 74 = .ok (.imul, 1) := by decide +kernel
theorem dX1_belongs_75 : decode cX1_belongs 75 = .ok (.if_icmp .gt 7, 3) := by decide +kernel
theorem dX1_belongs_78 : decode cX1_belongs 78 = .ok (.iconst 1, 1) := by decide +kernel
theorem dX1_belongs_79 : decode cX1_belongs 79 = .ok (.goto 4, 3) := by decide +kernel
theorem dX1_belongs_82 : decode cX1_belongs 82 = .ok (.iconst 0, 1) := by decide +kernel
theorem dX1_belongs_83 : decode cX1_belongs 83 = .ok (.ireturn, 1) := by decide +kernel
theorem dX1_belongs_84 : decode cX1_belongs 84 = .ok (.iload_n 1, 1) := by decide +kernel
theorem dX1_belongs_85 : decode cX1_belongs 85 = .ok (.iload 4, 2) := by decide +kernel
theorem dX1_belongs_87 : decode cX1_belongs 87 = .ok (.imul, 1) := by decide +kernel
theorem dX1_belongs_88 : decode cX1_belongs 88 = .ok (.iload_n 3, 1) := by decide +kernel
theorem dX1_belongs_89 : decode cX1_belongs 89 = .ok (.iload 5, 2) := by decide +kernel
theorem dX1_belongs_91 : decode cX1_belongs 91 = .ok (.imul, 1) := by decide +kernel
theorem dX1_belongs_92 : decode cX1_belongs 92 = .ok (.if_icmp .gt 7, 3) := by decide +kernel
theorem dX1_belongs_95 : decode cX1_belongs 95 = .ok (.iconst 1, 1) := by decide +kernel
theorem dX1_belongs_96 : decode cX1_belongs 96 = .ok (.goto 4, 3) := by decide +kernel
theorem dX1_belongs_99 : decode cX1_belongs 99 = .ok (.iconst 0, 1) := by decide +kernel
theorem dX1_belongs_100 : decode cX1_belongs 100 = .ok (.ireturn, 1) := by decide +kernel
theorem dX1_belongs_101 : decode cX1_belongs 101 = .ok (.iconst 1, 1) := by decide +kernel
theorem dX1_belongs_102 : decode cX1_belongs 102 = .ok (.ireturn, 1) := by decide +kernel
theorem dX2_init_0 : decode cX2_init 0 = .ok (.aload_n 0, 1) := by decide +kernel
theorem dX2_init_1 : decode cX2_init 1 = .ok (.invokespecial 3, 3) := by decide +kernel
theorem dX2_init_4 : decode cX2_init 4 = .ok (.aload_n 0, 1) := by decide +kernel
theorem dX2_init_5 : decode cX2_init 5 = .ok (.iconst 5, 1) := by decide +kernel
theorem dX2_init_6 : decode cX2_init 6 = .ok (.newarray .int, 2) := by decide +kernel
theorem dX2_init_8 : decode cX2_init 8 = .ok (.putfield 9, 3) := by decide +kernel
theorem dX2_init_11 : decode cX2_init 11 = .ok (.aload_n 0, 1) := by decide +kernel
theorem dX2_init_12 : decode cX2_init 12 = .ok (.bipush 98, 2) := by decide +kernel
theorem dX2_init_14 : decode cX2_init 14 = .ok (.newarray .int, 2) := by decide +kernel
theorem dX2_init_16 : decode cX2_init 16 = .ok (.putfield 15, 3) := by decide +kernel
theorem dX2_init_19 : decode cX2_init 19 = .ok (.aload_n 0, 1) := by decide +kernel
theorem dX2_init_20 : decode cX2_init 20 = .ok (.bipush 70, 2) := by decide +kernel
theorem dX2_init_22 : decode cX2_init 22 = .ok (.newarray .int, 2) := by decide +kernel
theorem dX2_init_24 : decode cX2_init 24 = .ok (.putfield 18, 3) := by decide +kernel
theorem dX2_init_27 : decode cX2_init 27 = .ok (.aload_n 0, 1) := by decide +kernel
theorem dX2_init_28 : decode cX2_init 28 = .ok (.iload_n 1, 1) := by decide +kernel
theorem dX2_init_29 : decode cX2_init 29 = .ok (.putfield 21, 3) := by decide +kernel
theorem dX2_init_32 : decode cX2_init 32 = .ok (.aload_n 0, 1) := by decide +kernel
theorem dX2_init_33 : decode cX2_init 33 = .ok (.iload_n 2, 1) := by decide +kernel
theorem dX2_init_34 : decode cX2_init 34 = .ok (.putfield 25, 3) := by decide +kernel
theorem dX2_init_37 : decode cX2_init 37 = .ok (.return_, 1) := by decide +kernel
theorem dX2_putTotals_0 : decode cX2_putTotals 0 = .ok (.aload_n 0, 1) := by decide +kernel
theorem dX2_putTotals_1 : decode cX2_putTotals 1 = .ok (.getfield 9, 3) := by decide +kernel
theorem dX2_putTotals_4 : decode cX2_putTotals 4 = .ok (.iconst 0, 1) := by decide +kernel
theorem dX2_putTotals_5 : decode cX2_putTotals 5 = .ok (.iload_n 1, 1) := by decide +kernel
theorem dX2_putTotals_6 : decode cX2_putTotals 6 = .ok (.iastore, 1) := by decide +kernel
theorem dX2_putTotals_7 : decode cX2_putTotals 7 = .ok (.aload_n 0, 1) := by decide +kernel
theorem dX2_putTotals_8 : decode cX2_putTotals 8 = .ok (.getfield 9, 3) := by decide +kernel
theorem dX2_putTotals_11 : decode cX2_putTotals 11 = .ok (.iconst 1, 1) := by decide +kernel
theorem dX2_putTotals_12 : decode cX2_putTotals 12 = .ok (.aload_n 0, 1) := by decide +kernel
theorem dX2_putTotals_13 : decode cX2_putTotals 13 = .ok (.getfield 21, 3) := by decide +kernel
theorem dX2_putTotals_16 : decode cX2_putTotals 16 = .ok (.iastore, 1) := by decide +kernel
theorem dX2_putTotals_17 : decode cX2_putTotals 17 = .ok (.aload_n 0, 1) := by decide +kernel
theorem dX2_putTotals_18 : decode cX2_putTotals 18 = .ok (.getfield 9, 3) := by decide +kernel
theorem dX2_putTotals_21 : decode cX2_putTotals 21 = .ok (.iconst 2, 1) := by decide +kernel
theorem dX2_putTotals_22 : decode cX2_putTotals 22 = .ok (.iload_n 2, 1) := by decide +kernel
theorem dX2_putTotals_23 : decode cX2_putTotals 23 = .ok (.iastore, 1) := by decide +kernel
theorem dX2_putTotals_24 : decode cX2_putTotals 24 = .ok (.aload_n 0, 1) := by decide +kernel
theorem dX2_putTotals_25 : decode cX2_putTotals 25 = .ok (.getfield 9, 3) := by decide +kernel
theorem dX2_putTotals_28 : decode cX2_putTotals 28 = .ok (.iconst 3, 1) := by decide +kernel
theorem dX2_putTotals_29 : decode cX2_putTotals 29 = .ok (.iload_n 3, 1) := by decide +kernel
theorem dX2_putTotals_30 : decode cX2_putTotals 30 = .ok (.iastore, 1) := by decide +kernel
theorem dX2_putTotals_31 : decode cX2_putTotals 31 = .ok (.aload_n 0, 1) := by decide +kernel
theorem dX2_putTotals_32 : decode cX2_putTotals 32 = .ok (.getfield 9, 3) := by decide +kernel
theorem dX2_putTotals_35 : decode cX2_putTotals 35 = .ok (.iconst 4, 1) := by decide +kernel
theorem dX2_putTotals_36 : decode cX2_putTotals 36 = .ok (.iload 4, 2) := by decide +kernel
theorem dX2_putTotals_38 : decode cX2_putTotals 38 = .ok (.iastore, 1) := by decide +kernel
theorem dX2_putTotals_39 : decode cX2_putTotals 39 = .ok (.return_, 1) := by decide +kernel
theorem dX3_init_0 : decode cX3_init 0 = .ok (.aload_n 0, 1) := by decide +kernel
theorem dX3_init_1 : decode cX3_init 1 = .ok (.invokespecial 3, 3) := by decide +kernel
theorem dX3_init_4 : decode cX3_init 4 = .ok (.aload_n 0, 1) := by decide +kernel
theorem dX3_init_5 : decode cX3_init 5 = .ok (.iconst 0, 1) := by decide +kernel
theorem dX3_init_6 : decode cX3_init 6 = .ok (.putfield 9, 3) := by decide +kernel
theorem dX3_init_9 : decode cX3_init 9 = .ok (.aload_n 0, 1) := by decide +kernel
theorem dX3_init_10 : decode cX3_init 10 = .ok (.bipush 14, 2) := by decide +kernel
theorem dX3_init_12 : decode cX3_init 12 = .ok (.newarray .int, 2) := by decide +kernel
theorem dX3_init_14 : decode cX3_init 14 = .ok (.putfield 15, 3) := by decide +kernel
theorem dX3_init_17 : decode cX3_init 17 = .ok (.aload_n 0, 1) := by decide +kernel
theorem dX3_init_18 : decode cX3_init 18 = .ok (.bipush 14, 2) := by decide +kernel
theorem dX3_init_20 : decode cX3_init 20 = .ok (.newarray .int, 2) := by decide +kernel
theorem dX3_init_22 : decode cX3_init 22 = .ok (.putfield 19, 3) := by decide +kernel
theorem dX3_init_25 : decode cX3_init 25 = .ok (.aload_n 0, 1) := by decide +kernel
theorem dX3_init_26 : decode cX3_init 26 = .ok (.bipush 14, 2) := by decide +kernel
theorem dX3_init_28 : decode cX3_init 28 = .ok (.newarray .int, 2) := by decide +kernel
theorem dX3_init_30 : decode cX3_init 30 = .ok (.putfield 22, 3) := by decide +kernel
theorem dX3_init_33 : decode cX3_init 33 = .ok (.aload_n 0, 1) := by decide +kernel
theorem dX3_init_34 : decode cX3_init 34 = .ok (.bipush 14, 2) := by decide +kernel
theorem dX3_init_36 : decode cX3_init 36 = .ok (.newarray .int, 2) := by decide +kernel
theorem dX3_init_38 : decode cX3_init 38 = .ok (.putfield 25, 3) := by decide +kernel
theorem dX3_init_41 : decode cX3_init 41 = .ok (.aload_n 0, 1) := by decide +kernel
theorem dX3_init_42 : decode cX3_init 42 = .ok (.sipush 196, 3) := by decide +kernel
theorem dX3_init_45 : decode cX3_init 45 = .ok (.newarray .int, 2) := by decide +kernel
theorem dX3_init_47 : decode cX3_init 47 = .ok (.putfield 28, 3) := by decide +kernel
theorem dX3_init_50 : decode cX3_init 50 = .ok (.aload_n 0, 1) := by decide +kernel
theorem dX3_init_51 : decode cX3_init 51 = .ok (.sipush 196, 3) := by decide +kernel
theorem dX3_init_54 : decode cX3_init 54 = .ok (.newarray .int, 2) := by decide +kernel
theorem dX3_init_56 : decode cX3_init 56 = .ok (.putfield 31, 3) := by decide +kernel
theorem dX3_init_59 : decode cX3_init 59 = .ok (.return_, 1) := by decide +kernel
theorem dX3_measure_0 : decode cX3_measure 0 = .ok (.aload_n 0, 1) := by decide +kernel
theorem dX3_measure_1 : decode cX3_measure 1 = .ok (.aload_n 1, 1) := by decide +kernel
theorem dX3_measure_2 : decode cX3_measure 2 = .ok (.getfield 34, 3) := by decide +kernel
theorem dX3_measure_5 : decode cX3_measure 5 = .ok (.putfield 9, 3) := by decide +kernel
theorem dX3_measure_8 : decode cX3_measure 8 = .ok (.iconst 0, 1) := by decide +kernel
theorem dX3_measure_9 : decode cX3_measure 9 = .ok (.istore 4, 2) := by decide +kernel
theorem dX3_measure_11 : decode cX3_measure 11 = .ok (.iload 4, 2) := by decide +kernel
theorem dX3_measure_13 : decode cX3_measure 13 = .ok (.aload_n 0, 1) := by decide +kernel
theorem dX3_measure_14 : decode cX3_measure 14 = .ok (.getfield 9, 3) := by decide +kernel
theorem dX3_measure_17 : decode cX3_measure 17 = .ok (.if_icmp .ge 111, 3) := by decide +kernel
theorem dX3_measure_20 : decode cX3_measure 20 = .ok (.aload_n 1, 1) := by decide +kernel
theorem dX3_measure_21 : decode cX3_measure 21 = .ok (.iload 4, 2) := by decide +kernel
theorem dX3_measure_23 : decode cX3_measure 23 = .ok (.iconst 1, 1) := by decide +kernel
theorem dX3_measure_24 : decode cX3_measure 24 = .ok (.invokevirtual 37, 3) := by decide +kernel
theorem dX3_measure_27 : decode cX3_measure 27 = .ok (.istore 5, 2) := by decide +kernel
theorem dX3_measure_29 : decode cX3_measure 29 = .ok (.aload_n 0, 1) := by decide +kernel
theorem dX3_measure_30 : decode cX3_measure 30 = .ok (.getfield 15, 3) := by decide +kernel
theorem dX3_measure_33 : decode cX3_measure 33 = .ok (.iload 4, 2) := by decide +kernel
theorem dX3_measure_35 : decode cX3_measure 35 = .ok (.iload_n 2, 1) := by decide +kernel
theorem dX3_measure_36 : decode cX3_measure 36 = .ok (.iload 5, 2) := by decide +kernel
theorem dX3_measure_38 : decode cX3_measure 38 = .ok (.iconst 1, 1) := by decide +kernel
theorem dX3_measure_39 : decode cX3_measure 39 = .ok (.isub, 1) := by decide +kernel
theorem dX3_measure_40 : decode cX3_measure 40 = .ok (.iload_n 3, 1) := by decide +kernel
theorem dX3_measure_41 : decode cX3_measure 41 = .ok (.imul, 1) := by decide +kernel
theorem dX3_measure_42 : decode cX3_measure 42 = .ok (.iadd, 1) := by decide +kernel
theorem dX3_measure_43 : decode cX3_measure 43 = .ok (.iastore, 1) := by decide +kernel
theorem dX3_measure_44 : decode cX3_measure 44 = .ok (.aload_n 0, 1) := by decide +kernel
theorem dX3_measure_45 : decode cX3_measure 45 = .ok (.getfield 15, 3) := by decide +kernel
theorem dX3_measure_48 : decode cX3_measure 48 = .ok (.iload 4, 2) := by decide +kernel
theorem dX3_measure_50 : decode cX3_measure 50 = .ok (.iaload, 1) := by decide +kernel
theorem dX3_measure_51 : decode cX3_measure 51 = .ok (.aload_n 1, 1) := by decide +kernel
theorem dX3_measure_52 : decode cX3_measure 52 = .ok (.getfield 41, 3) := by decide +kernel
theorem dX3_measure_55 : decode cX3_measure 55 = .ok (.iconst 0, 1) := by decide +kernel
theorem dX3_measure_56 : decode cX3_measure 56 = .ok (.iload 5, 2) := by decide +kernel
theorem dX3_measure_58 : decode cX3_measure 58 = .ok (.iadd, 1) := by decide +kernel
theorem dX3_measure_59 : decode cX3_measure 59 = .ok (.iaload, 1) := by decide +kernel
theorem dX3_measure_60 : decode cX3_measure 60 = .ok (.if_icmp .ge 5, 3) := by decide +kernel
theorem dX3_measure_63 : decode cX3_measure 63 = .ok (.iconst 0, 1) := by decide +kernel
theorem dX3_measure_64 : decode cX3_measure 64 = .ok (.ireturn, 1) := by decide +kernel
theorem dX3_measure_65 : decode cX3_measure 65 = .ok (.aload_n 0, 1) := by decide +kernel
theorem dX3_measure_66 : decode cX3_measure 66 = .ok (.getfield 19, 3) := by decide +kernel
theorem dX3_measure_69 : decode cX3_measure 69 = .ok (.iload 4, 2) := by decide +kernel
theorem dX3_measure_71 : decode cX3_measure 71 = .ok (.aload_n 1, 1) := by decide +kernel
theorem dX3_measure_72 : decode cX3_measure 72 = .ok (.iload 4, 2) := by decide +kernel
theorem dX3_measure_74 : decode cX3_measure 74 = .ok (.iconst 0, 1) := by decide +kernel
theorem dX3_measure_75 : decode cX3_measure 75 = .ok (.invokevirtual 37, 3) := by decide +kernel
theorem dX3_measure_78 : decode cX3_measure 78 = .ok (.aload_n 0, 1) := by decide +kernel
theorem dX3_measure_79 : decode cX3_measure 79 = .ok (.getfield 15, 3) := by decide +kernel
theorem dX3_measure_82 : decode cX3_measure 82 = .ok (.iload 4, 2) := by decide +kernel
theorem dX3_measure_84 : decode cX3_measure 84 = .ok (.iaload, 1) := by decide +kernel
theorem dX3_measure_85 : decode cX3_measure 85 = .ok (.imul, 1) := by decide +kernel
theorem dX3_measure_86 : decode cX3_measure 86 = .ok (.iastore, 1) := by decide +kernel
theorem dX3_measure_87 : decode cX3_measure 87 = .ok (.aload_n 0, 1) := by decide +kernel
theorem dX3_measure_88 : decode cX3_measure 88 = .ok (.getfield 22, 3) := by decide +kernel
theorem dX3_measure_91 : decode cX3_measure 91 = .ok (.iload 4, 2) := by decide +kernel
theorem dX3_measure_93 : decode cX3_measure 93 = .ok (.iload 4, 2) := by decide +kernel
theorem dX3_measure_95 : decode cX3_measure 95 = .ok (.ifCond .ne 7, 3) := by decide +kernel
theorem dX3_measure_98 : decode cX3_measure 98 = .ok (.iconst 0, 1) := by decide +kernel
theorem dX3_measure_99 : decode cX3_measure 99 = .ok (.goto 22, 3) := by decide +kernel
theorem dX3_measure_102 : decode cX3_measure 102 = .ok (.aload_n 0, 1) := by decide +kernel
theorem dX3_measure_103 : decode cX3_measure 103 = .ok (.getfield 15, 3) := by decide +kernel
theorem dX3_measure_106 : decode cX3_measure 106 = .ok (.iload 4, 2) := by decide +kernel
theorem dX3_measure_108 : decode cX3_measure 108 = .ok (.iconst 1, 1) := by decide +kernel
theorem dX3_measure_109 : decode cX3_measure 109 = .ok (.isub, 1) := by decide +kernel
theorem dX3_measure_110 : decode cX3_measure 110 = .ok (.iaload, 1) := by decide +kernel
theorem dX3_measure_111 : decode cX3_measure 111 = .ok (.aload_n 0, 1) := by decide +kernel
theorem dX3_measure_112 : decode cX3_measure 112 = .ok (.getfield 15, 3) := by decide +kernel
theorem dX3_measure_115 : decode cX3_measure 115 = .ok (.iload 4, 2) := by decide +kernel
theorem dX3_measure_117 : decode cX3_measure 117 = .ok (.iaload, 1) := by decide +kernel
theorem dX3_measure_118 : decode cX3_measure 118 = .ok (.invokestatic 44, 3) := by decide +kernel
theorem dX3_measure_121 : decode cX3_measure 121 = .ok (.iastore, 1) := by decide +kernel
theorem dX3_measure_122 : decode cX3_measure 122 = .ok (.iinc 4 1, 3) := by decide +kernel
theorem dX3_measure_125 : decode cX3_measure 125 = .ok (.goto (-114), 3) := by decide +kernel
theorem dX3_measure_128 : decode cX3_measure 128 = .ok (.aload_n 0, 1) := by decide +kernel
theorem dX3_measure_129 : decode cX3_measure 129 = .ok (.aload_n 1, 1) := by decide +kernel
theorem dX3_measure_130 : decode cX3_measure 130 = .ok (.invokevirtual 49, 3) := by decide +kernel
theorem dX3_measure_133 : decode cX3_measure 133 = .ok (.aload_n 0, 1) := by decide +kernel
theorem dX3_measure_134 : decode cX3_measure 134 = .ok (.invokevirtual 53, 3) := by decide +kernel
theorem dX3_measure_137 : decode cX3_measure 137 = .ok (.aload_n 0, 1) := by decide +kernel
theorem dX3_measure_138 : decode cX3_measure 138 = .ok (.getfield 9, 3) := by decide +kernel
theorem dX3_measure_141 : decode cX3_measure 141 = .ok (.ifCond .le 7, 3) := by decide +kernel
theorem dX3_measure_144 : decode cX3_measure 144 = .ok (.iconst 1, 1) := by decide +kernel
theorem dX3_measure_145 : decode cX3_measure 145 = .ok (.goto 4, 3) := by decide +kernel
theorem dX3_measure_148 : decode cX3_measure 148 = .ok (.iconst 0, 1) := by decide +kernel
theorem dX3_measure_149 : decode cX3_measure 149 = .ok (.ireturn, 1) := by decide +kernel
theorem dX3_widthOf_0 : decode cX3_widthOf 0 = .ok (.aload_n 0, 1) := by decide +kernel
theorem dX3_widthOf_1 : decode cX3_widthOf 1 = .ok (.getfield 28, 3) := by decide +kernel
theorem dX3_widthOf_4 : decode cX3_widthOf 4 = .ok (.iload_n 1, 1) := by decide +kernel
theorem dX3_widthOf_5 : decode cX3_widthOf 5 = .ok (.bipush 14, 2) := by decide +kernel
theorem dX3_widthOf_7 : decode cX3_widthOf 7 = .ok (.imul, 1) := by decide +kernel
theorem dX3_widthOf_8 : decode cX3_widthOf 8 = .ok (.iload_n 2, 1) := by decide +kernel
theorem dX3_widthOf_9 : decode cX3_widthOf 9 = .ok (.iadd, 1) := by decide +kernel
theorem dX3_widthOf_10 : decode cX3_widthOf 10 = .ok (.iconst 1, 1) := by decide +kernel
theorem dX3_widthOf_11 : decode cX3_widthOf 11 = .ok (.isub, 1) := by decide +kernel
theorem dX3_widthOf_12 : decode cX3_widthOf 12 = .ok (.iaload, 1) := by decide +kernel
theorem dX3_widthOf_13 : decode cX3_widthOf 13 = .ok (.ireturn, 1) := by decide +kernel
theorem dX3_heightOf_0 : decode cX3_heightOf 0 = .ok (.aload_n 0, 1) := by decide +kernel
theorem dX3_heightOf_1 : decode cX3_heightOf 1 = .ok (.getfield 31, 3) := by decide +kernel
theorem dX3_heightOf_4 : decode cX3_heightOf 4 = .ok (.iload_n 1, 1) := by decide +kernel
theorem dX3_heightOf_5 : decode cX3_heightOf 5 = .ok (.bipush 14, 2) := by decide +kernel
theorem dX3_heightOf_7 : decode cX3_heightOf 7 = .ok (.imul, 1) := by decide +kernel
theorem dX3_heightOf_8 : decode cX3_heightOf 8 = .ok (.iload_n 2, 1) := by decide +kernel
theorem dX3_heightOf_9 : decode cX3_heightOf 9 = .ok (.iadd, 1) := by decide +kernel
theorem dX3_heightOf_10 : decode cX3_heightOf 10 = .ok (.iconst 1, 1) := by decide +kernel
theorem dX3_heightOf_11 : decode cX3_heightOf 11 = .ok (.isub, 1) := by decide +kernel
theorem dX3_heightOf_12 : decode cX3_heightOf 12 = .ok (.iaload, 1) := by decide +kernel
theorem dX3_heightOf_13 : decode cX3_heightOf 13 = .ok (.ireturn, 1) := by decide +kernel
theorem dX3_findLastEnds_0 : decode cX3_findLastEnds 0 = .ok (.aload_n 0, 1) := by decide +kernel
theorem dX3_findLastEnds_1 : decode cX3_findLastEnds 1 = .ok (.getfield 9, 3) := by decide +kernel
theorem dX3_findLastEnds_4 : decode cX3_findLastEnds 4 = .ok (.istore_n 2, 1) := by decide +kernel
theorem dX3_findLastEnds_5 : decode cX3_findLastEnds 5 = .ok (.aload_n 0, 1) := by decide +kernel
theorem dX3_findLastEnds_6 : decode cX3_findLastEnds 6 = .ok (.getfield 9, 3) := by decide +kernel
theorem dX3_findLastEnds_9 : decode cX3_findLastEnds 9 = .ok (.iconst 1, 1) := by decide +kernel
theorem dX3_findLastEnds_10 : decode cX3_findLastEnds 10 = .ok (.isub, 1) := by decide +kernel
theorem dX3_findLastEnds_11 : decode cX3_findLastEnds 11 = .ok (.istore_n 3, 1) := by decide +kernel
theorem dX3_findLastEnds_12 : decode cX3_findLastEnds 12 = .ok (.iload_n 3, 1) := by decide +kernel
theorem dX3_findLastEnds_13 : decode cX3_findLastEnds 13 = .ok (.ifCond .lt 27, 3) := by decide +kernel
theorem dX3_findLastEnds_16 : decode cX3_findLastEnds 16 = .ok (.aload_n 0, 1) := by decide +kernel
theorem dX3_findLastEnds_17 : decode cX3_findLastEnds 17 = .ok (.getfield 25, 3) := by decide +kernel
theorem dX3_findLastEnds_20 : decode cX3_findLastEnds 20 = .ok (.iload_n 3, 1) := by decide +kernel
theorem dX3_findLastEnds_21 : decode cX3_findLastEnds 21 = .ok (.iload_n 2, 1) := by decide +kernel
theorem dX3_findLastEnds_22 : decode cX3_findLastEnds 22 = .ok (.iastore, 1) := by decide +kernel
theorem dX3_findLastEnds_23 : decode cX3_findLastEnds 23 = .ok (.aload_n 1, 1) := by decide +kernel
theorem dX3_findLastEnds_24 : decode cX3_findLastEnds 24 = .ok (.iload_n 3, 1) := by decide +kernel
theorem dX3_findLastEnds_25 : decode cX3_findLastEnds 25 = .ok (.iconst 2, 1) := by decide +kernel
theorem dX3_findLastEnds_26 : decode cX3_findLastEnds 26 = .ok (.invokevirtual 37, 3) := by decide +kernel
theorem dX3_findLastEnds_29 : decode cX3_findLastEnds 29 = .ok (.ifCond .eq 5, 3) := by decide +kernel
theorem dX3_findLastEnds_32 : decode cX3_findLastEnds 32 = .ok (.iload_n 3, 1) := by decide +kernel
theorem dX3_findLastEnds_33 : decode cX3_findLastEnds 33 = .ok (.istore_n 2, 1) := by decide +kernel
theorem dX3_findLastEnds_34 : decode cX3_findLastEnds 34 = .ok (.iinc 3 (-1), 3) := by decide +kernel
theorem dX3_findLastEnds_37 : decode cX3_findLastEnds 37 = .ok (.goto (-25), 3) := by decide +kernel
theorem dX3_findLastEnds_40 : decode cX3_findLastEnds 40 = .ok (.return_, 1) := by decide +kernel
theorem dX3_measureLines_0 : decode cX3_measureLines 0 = .ok (.iconst 0, 1) := by decide +kernel
theorem dX3_measureLines_1 : decode cX3_measureLines 1 = .ok (.istore_n 1, 1) := by decide +kernel
theorem dX3_measureLines_2 : decode cX3_measureLines 2 = .ok (.iload_n 1, 1) := by decide +kernel
theorem dX3_measureLines_3 : decode cX3_measureLines 3 = .ok (.aload_n 0, 1) := by decide +kernel
theorem dX3_measureLines_4 : decode cX3_measureLines 4 = .ok (.getfield 9, 3) := by decide +kernel
theorem dX3_measureLines_7 : decode cX3_measureLines 7 = .ok (.if_icmp .ge 103, 3) := by decide +kernel
theorem dX3_measureLines_10 : decode cX3_measureLines 10 = .ok (.aload_n 0, 1) := by decide +kernel
theorem dX3_measureLines_11 : decode cX3_measureLines 11 = .ok (.getfield 19, 3) := by decide +kernel
theorem dX3_measureLines_14 : decode cX3_measureLines 14 = .ok (.iload_n 1, 1) := by decide +kernel
theorem dX3_measureLines_15 : decode cX3_measureLines 15 = .ok (.iaload, 1) := by decide +kernel
theorem dX3_measureLines_16 : decode cX3_measureLines 16 = .ok (.istore_n 2, 1) := by decide +kernel
theorem dX3_measureLines_17 : decode cX3_measureLines 17 = .ok (.aload_n 0, 1) := by decide +kernel
theorem dX3_measureLines_18 : decode cX3_measureLines 18 = .ok (.getfield 15, 3) := by decide +kernel
theorem dX3_measureLines_21 : decode cX3_measureLines 21 = .ok (.iload_n 1, 1) := by decide +kernel
theorem dX3_measureLines_22 : decode cX3_measureLines 22 = .ok (.iaload, 1) := by decide +kernel
theorem dX3_measureLines_23 : decode cX3_measureLines 23 = .ok (.istore_n 3, 1) := by decide +kernel
theorem dX3_measureLines_24 : decode cX3_measureLines 24 = .ok (.iload_n 1, 1) := by decide +kernel
theorem dX3_measureLines_25 : decode cX3_measureLines 25 = .ok (.istore 4, 2) := by decide +kernel
theorem dX3_measureLines_27 : decode cX3_measureLines 27 = .ok (.iload 4, 2) := by decide +kernel
theorem dX3_measureLines_29 : decode cX3_measureLines 29 = .ok (.aload_n 0, 1) := by decide +kernel
theorem dX3_measureLines_30 : decode cX3_measureLines 30 = .ok (.getfield 9, 3) := by decide +kernel
theorem dX3_measureLines_33 : decode cX3_measureLines 33 = .ok (.if_icmp .ge 71, 3) := by decide +kernel
theorem dX3_measureLines_36 : decode cX3_measureLines 36 = .ok (.iload 4, 2) := by decide +kernel
theorem dX3_measureLines_38 : decode cX3_measureLines 38 = .ok (.iload_n 1, 1) := by decide +kernel
theorem dX3_measureLines_39 : decode cX3_measureLines 39 = .ok (.if_icmp .le 33, 3) := by decide +kernel
theorem dX3_measureLines_42 : decode cX3_measureLines 42 = .ok (.iload_n 2, 1) := by decide +kernel
theorem dX3_measureLines_43 : decode cX3_measureLines 43 = .ok (.aload_n 0, 1) := by decide +kernel
theorem dX3_measureLines_44 : decode cX3_measureLines 44 = .ok (.getfield 22, 3) := by decide +kernel
theorem dX3_measureLines_47 : decode cX3_measureLines 47 = .ok (.iload 4, 2) := by decide +kernel
theorem dX3_measureLines_49 : decode cX3_measureLines 49 = .ok (.iaload, 1) := by decide +kernel
theorem dX3_measureLines_50 : decode cX3_measureLines 50 = .ok (.aload_n 0, 1) := by decide +kernel
theorem dX3_measureLines_51 : decode cX3_measureLines 51 = .ok (.getfield 19, 3) := by decide +kernel
theorem dX3_measureLines_54 : decode cX3_measureLines 54 = .ok (.iload 4, 2) := by decide +kernel
theorem dX3_measureLines_56 : decode cX3_measureLines 56 = .ok (.iaload, 1) := by decide +kernel
theorem dX3_measureLines_57 : decode cX3_measureLines 57 = .ok (.iadd, 1) := by decide +kernel
theorem dX3_measureLines_58 : decode cX3_measureLines 58 = .ok (.iadd, 1) := by decide +kernel
theorem dX3_measureLines_59 : decode cX3_measureLines 59 = .ok (.istore_n 2, 1) := by decide +kernel
theorem dX3_measureLines_60 : decode cX3_measureLines 60 = .ok (.iload_n 3, 1) := by decide +kernel
theorem dX3_measureLines_61 : decode cX3_measureLines 61 = .ok (.aload_n 0, 1) := by decide +kernel
theorem dX3_measureLines_62 : decode cX3_measureLines 62 = .ok (.getfield 15, 3) := by decide +kernel
theorem dX3_measureLines_65 : decode cX3_measureLines 65 = .ok (.iload 4, 2) := by decide +kernel
theorem dX3_measureLines_67 : decode cX3_measureLines 67 = .ok (.iaload, 1) := by decide +kernel
theorem dX3_measureLines_68 : decode cX3_measureLines 68 = .ok (.invokestatic 56, 3) := by decide +kernel
theorem dX3_measureLines_71 : decode cX3_measureLines 71 = .ok (.istore_n 3, 1) := by decide +kernel
theorem dX3_measureLines_72 : decode cX3_measureLines 72 = .ok (.aload_n 0, 1) := by decide +kernel
theorem dX3_measureLines_73 : decode cX3_measureLines 73 = .ok (.getfield 28, 3) := by decide +kernel
theorem dX3_measureLines_76 : decode cX3_measureLines 76 = .ok (.iload_n 1, 1) := by decide +kernel
theorem dX3_measureLines_77 : decode cX3_measureLines 77 = .ok (.bipush 14, 2) := by decide +kernel
theorem dX3_measureLines_79 : decode cX3_measureLines 79 = .ok (.imul, 1) := by decide +kernel
theorem dX3_measureLines_80 : decode cX3_measureLines 80 = .ok (.iload 4, 2) := by decide +kernel
theorem dX3_measureLines_82 : decode cX3_measureLines 82 = .ok (.iadd, 1) := by decide +kernel
theorem dX3_measureLines_83 : decode cX3_measureLines 83 = .ok (.iload_n 2, 1) := by decide +kernel
theorem dX3_measureLines_84 : decode cX3_measureLines 84 = .ok (.iastore, 1) := by decide +kernel
theorem dX3_measureLines_85 : decode cX3_measureLines 85 = .ok (.aload_n 0, 1) := by decide +kernel
theorem dX3_measureLines_86 : decode cX3_measureLines 86 = .ok (.getfield 31, 3) := by decide +kernel
theorem dX3_measureLines_89 : decode cX3_measureLines 89 = .ok (.iload_n 1, 1) := by decide +kernel
theorem dX3_measureLines_90 : decode cX3_measureLines 90 = .ok (.bipush 14, 2) := by decide +kernel
theorem dX3_measureLines_92 : decode cX3_measureLines 92 = .ok (.imul, 1) := by decide +kernel
theorem dX3_measureLines_93 : decode cX3_measureLines 93 = .ok (.iload 4, 2) := by decide +kernel
theorem dX3_measureLines_95 : decode cX3_measureLines 95 = .ok (.iadd, 1) := by decide +kernel
theorem dX3_measureLines_96 : decode cX3_measureLines 96 = .ok (.iload_n 3, 1) := by decide +kernel
theorem dX3_measureLines_97 : decode cX3_measureLines 97 = .ok (.iastore, 1) := by decide +kernel
theorem dX3_measureLines_98 : decode cX3_measureLines 98 = .ok (.iinc 4 1, 3) := by decide +kernel
theorem dX3_measureLines_101 : decode cX3_measureLines 101 = .ok (.goto (-74), 3) := by decide +kernel
theorem dX3_measureLines_104 : decode cX3_measureLines 104 = .ok (.iinc 1 1, 3) := by decide +kernel
theorem dX3_measureLines_107 : decode cX3_measureLines 107 = .ok (.goto (-105), 3) := by decide +kernel
theorem dX3_measureLines_110 : decode cX3_measureLines 110 = .ok (.return_, 1) := by decide +kernel
theorem dX4_init_0 : decode cX4_init 0 = .ok (.aload_n 0, 1) := by decide +kernel
theorem dX4_init_1 : decode cX4_init 1 = .ok (.invokespecial 3, 3) := by decide +kernel
theorem dX4_init_4 : decode cX4_init 4 = .ok (.aload_n 0, 1) := by decide +kernel
theorem dX4_init_5 : decode cX4_init 5 = .ok (.new 9, 3) := by decide +kernel
theorem dX4_init_8 : decode cX4_init 8 = .ok (.dup, 1) := by decide +kernel
theorem dX4_init_9 : decode cX4_init 9 = .ok (.invokespecial 11, 3) := by decide +kernel
theorem dX4_init_12 : decode cX4_init 12 = .ok (.putfield 12, 3) := by decide +kernel
theorem dX4_init_15 : decode cX4_init 15 = .ok (.aload_n 0, 1) := by decide +kernel
theorem dX4_init_16 : decode cX4_init 16 = .ok (.new 18, 3) := by decide +kernel
theorem dX4_init_19 : decode cX4_init 19 = .ok (.dup, 1) := by decide +kernel
theorem dX4_init_20 : decode cX4_init 20 = .ok (.invokespecial 20, 3) := by decide +kernel
theorem dX4_init_23 : decode cX4_init 23 = .ok (.putfield 21, 3) := by decide +kernel
theorem dX4_init_26 : decode cX4_init 26 = .ok (.aload_n 0, 1) := by decide +kernel
theorem dX4_init_27 : decode cX4_init 27 = .ok (.sipush 504, 3) := by decide +kernel
theorem dX4_init_30 : decode cX4_init 30 = .ok (.newarray .int, 2) := by decide +kernel
theorem dX4_init_32 : decode cX4_init 32 = .ok (.putfield 25, 3) := by decide +kernel
theorem dX4_init_35 : decode cX4_init 35 = .ok (.aload_n 0, 1) := by decide +kernel
theorem dX4_init_36 : decode cX4_init 36 = .ok (.bipush 15, 2) := by decide +kernel
theorem dX4_init_38 : decode cX4_init 38 = .ok (.newarray .int, 2) := by decide +kernel
theorem dX4_init_40 : decode cX4_init 40 = .ok (.putfield 29, 3) := by decide +kernel
theorem dX4_init_43 : decode cX4_init 43 = .ok (.aload_n 0, 1) := by decide +kernel
theorem dX4_init_44 : decode cX4_init 44 = .ok (.bipush 14, 2) := by decide +kernel
theorem dX4_init_46 : decode cX4_init 46 = .ok (.newarray .int, 2) := by decide +kernel
theorem dX4_init_48 : decode cX4_init 48 = .ok (.putfield 32, 3) := by decide +kernel
theorem dX4_init_51 : decode cX4_init 51 = .ok (.aload_n 0, 1) := by decide +kernel
theorem dX4_init_52 : decode cX4_init 52 = .ok (.bipush 14, 2) := by decide +kernel
theorem dX4_init_54 : decode cX4_init 54 = .ok (.newarray .int, 2) := by decide +kernel
theorem dX4_init_56 : decode cX4_init 56 = .ok (.putfield 35, 3) := by decide +kernel
theorem dX4_init_59 : decode cX4_init 59 = .ok (.aload_n 0, 1) := by decide +kernel
theorem dX4_init_60 : decode cX4_init 60 = .ok (.bipush 14, 2) := by decide +kernel
theorem dX4_init_62 : decode cX4_init 62 = .ok (.newarray .int, 2) := by decide +kernel
theorem dX4_init_64 : decode cX4_init 64 = .ok (.putfield 38, 3) := by decide +kernel
theorem dX4_init_67 : decode cX4_init 67 = .ok (.aload_n 0, 1) := by decide +kernel
theorem dX4_init_68 : decode cX4_init 68 = .ok (.bipush 14, 2) := by decide +kernel
theorem dX4_init_70 : decode cX4_init 70 = .ok (.newarray .int, 2) := by decide +kernel
theorem dX4_init_72 : decode cX4_init 72 = .ok (.putfield 41, 3) := by decide +kernel
theorem dX4_init_75 : decode cX4_init 75 = .ok (.aload_n 0, 1) := by decide +kernel
theorem dX4_init_76 : decode cX4_init 76 = .ok (.bipush 15, 2) := by decide +kernel
theorem dX4_init_78 : decode cX4_init 78 = .ok (.newarray .int, 2) := by decide +kernel
theorem dX4_init_80 : decode cX4_init 80 = .ok (.putfield 44, 3) := by decide +kernel
theorem dX4_init_83 : decode cX4_init 83 = .ok (.return_, 1) := by decide +kernel
theorem dX4_hasLayout_0 : decode cX4_hasLayout 0 = .ok (.aload_n 0, 1) := by decide +kernel
theorem dX4_hasLayout_1 : decode cX4_hasLayout 1 = .ok (.aload_n 1, 1) := by decide +kernel
theorem dX4_hasLayout_2 : decode cX4_hasLayout 2 = .ok (.iload_n 2, 1) := by decide +kernel
theorem dX4_hasLayout_3 : decode cX4_hasLayout 3 = .ok (.iload_n 3, 1) := by decide +kernel
theorem dX4_hasLayout_4 : decode cX4_hasLayout 4 = .ok (.iload 4, 2) := by decide +kernel
theorem dX4_hasLayout_6 : decode cX4_hasLayout 6 = .ok (.invokevirtual 47, 3) := by decide +kernel
theorem dX4_hasLayout_9 : decode cX4_hasLayout 9 = .ok (.ifCond .ne 5, 3) := by decide +kernel
theorem dX4_hasLayout_12 : decode cX4_hasLayout 12 = .ok (.iconst 0, 1) := by decide +kernel
theorem dX4_hasLayout_13 : decode cX4_hasLayout 13 = .ok (.ireturn, 1) := by decide +kernel
theorem dX4_hasLayout_14 : decode cX4_hasLayout 14 = .ok (.aload_n 0, 1) := by decide +kernel
theorem dX4_hasLayout_15 : decode cX4_hasLayout 15 = .ok (.iconst 1, 1) := by decide +kernel
theorem dX4_hasLayout_16 : decode cX4_hasLayout 16 = .ok (.iconst 0, 1) := by decide +kernel
theorem dX4_hasLayout_17 : decode cX4_hasLayout 17 = .ok (.invokevirtual 51, 3) := by decide +kernel
theorem dX4_hasLayout_20 : decode cX4_hasLayout 20 = .ok (.aload_n 0, 1) := by decide +kernel
theorem dX4_hasLayout_21 : decode cX4_hasLayout 21 = .ok (.getfield 55, 3) := by decide +kernel
theorem dX4_hasLayout_24 : decode cX4_hasLayout 24 = .ok (.ifCond .le 7, 3) := by decide +kernel
theorem dX4_hasLayout_27 : decode cX4_hasLayout 27 = .ok (.iconst 1, 1) := by decide +kernel
theorem dX4_hasLayout_28 : decode cX4_hasLayout 28 = .ok (.goto 4, 3) := by decide +kernel
theorem dX4_hasLayout_31 : decode cX4_hasLayout 31 = .ok (.iconst 0, 1) := by decide +kernel
theorem dX4_hasLayout_32 : decode cX4_hasLayout 32 = .ok (.ireturn, 1) := by decide +kernel
theorem dX4_countLayouts_0 : decode cX4_countLayouts 0 = .ok (.aload_n 0, 1) := by decide +kernel
theorem dX4_countLayouts_1 : decode cX4_countLayouts 1 = .ok (.aload_n 1, 1) := by decide +kernel
theorem dX4_countLayouts_2 : decode cX4_countLayouts 2 = .ok (.iload_n 2, 1) := by decide +kernel
theorem dX4_countLayouts_3 : decode cX4_countLayouts 3 = .ok (.aload_n 1, 1) := by decide +kernel
theorem dX4_countLayouts_4 : decode cX4_countLayouts 4 = .ok (.getfield 59, 3) := by decide +kernel
theorem dX4_countLayouts_7 : decode cX4_countLayouts 7 = .ok (.iconst 0, 1) := by decide +kernel
theorem dX4_countLayouts_8 : decode cX4_countLayouts 8 = .ok (.iaload, 1) := by decide +kernel
theorem dX4_countLayouts_9 : decode cX4_countLayouts 9 = .ok (.aload_n 1, 1) := by decide +kernel
theorem dX4_countLayouts_10 : decode cX4_countLayouts 10 = .ok (.getfield 59, 3) := by decide +kernel
theorem dX4_countLayouts_13 : decode cX4_countLayouts 13 = .ok (.bipush 7, 2) := by decide +kernel
theorem dX4_countLayouts_15 : decode cX4_countLayouts 15 = .ok (.iaload, 1) := by decide +kernel
theorem dX4_countLayouts_16 : decode cX4_countLayouts 16 = .ok (.invokevirtual 47, 3) := by decide +kernel
theorem dX4_countLayouts_19 : decode cX4_countLayouts 19 = .ok (.ifCond .ne 5, 3) := by decide +kernel
theorem dX4_countLayouts_22 : decode cX4_countLayouts 22 = .ok (.iconst 0, 1) := by decide +kernel
theorem dX4_countLayouts_23 : decode cX4_countLayouts 23 = .ok (.ireturn, 1) := by decide +kernel
theorem dX4_countLayouts_24 : decode cX4_countLayouts 24 = .ok (.aload_n 0, 1) := by decide +kernel
theorem dX4_countLayouts_25 : decode cX4_countLayouts 25 = .ok (.ldc 66, 2) := by decide +kernel
theorem dX4_countLayouts_27 : decode cX4_countLayouts 27 = .ok (.iconst 0, 1) := by decide +kernel
theorem dX4_countLayouts_28 : decode cX4_countLayouts 28 = .ok (.invokevirtual 51, 3) := by decide +kernel
theorem dX4_countLayouts_31 : decode cX4_countLayouts 31 = .ok (.aload_n 0, 1) := by decide +kernel
theorem dX4_countLayouts_32 : decode cX4_countLayouts 32 = .ok (.getfield 55, 3) := by decide +kernel
theorem dX4_countLayouts_35 : decode cX4_countLayouts 35 = .ok (.ireturn, 1) := by decide +kernel
theorem dX4_findBest_0 : decode cX4_findBest 0 = .ok (.aload_n 0, 1) := by decide +kernel
theorem dX4_findBest_1 : decode cX4_findBest 1 = .ok (.aload_n 1, 1) := by decide +kernel
theorem dX4_findBest_2 : decode cX4_findBest 2 = .ok (.iload_n 2, 1) := by decide +kernel
theorem dX4_findBest_3 : decode cX4_findBest 3 = .ok (.aload_n 1, 1) := by decide +kernel
theorem dX4_findBest_4 : decode cX4_findBest 4 = .ok (.getfield 59, 3) := by decide +kernel
theorem dX4_findBest_7 : decode cX4_findBest 7 = .ok (.iconst 0, 1) := by decide +kernel
theorem dX4_findBest_8 : decode cX4_findBest 8 = .ok (.iaload, 1) := by decide +kernel
theorem dX4_findBest_9 : decode cX4_findBest 9 = .ok (.aload_n 1, 1) := by decide +kernel
theorem dX4_findBest_10 : decode cX4_findBest 10 = .ok (.getfield 59, 3) := by decide +kernel
theorem dX4_findBest_13 : decode cX4_findBest 13 = .ok (.bipush 7, 2) := by decide +kernel
theorem dX4_findBest_15 : decode cX4_findBest 15 = .ok (.iaload, 1) := by decide +kernel
theorem dX4_findBest_16 : decode cX4_findBest 16 = .ok (.invokevirtual 47, 3) := by decide +kernel
theorem dX4_findBest_19 : decode cX4_findBest 19 = .ok (.ifCond .ne 5, 3) := by decide +kernel
theorem dX4_findBest_22 : decode cX4_findBest 22 = .ok (.iconst (-1), 1) := by decide +kernel
theorem dX4_findBest_23 : decode cX4_findBest 23 = .ok (.ireturn, 1) := by decide +kernel
theorem dX4_findBest_24 : decode cX4_findBest 24 = .ok (.aload_n 0, 1) := by decide +kernel
theorem dX4_findBest_25 : decode cX4_findBest 25 = .ok (.ldc 66, 2) := by decide +kernel
theorem dX4_findBest_27 : decode cX4_findBest 27 = .ok (.iconst 1, 1) := by decide +kernel
theorem dX4_findBest_28 : decode cX4_findBest 28 = .ok (.invokevirtual 51, 3) := by decide +kernel
theorem dX4_findBest_31 : decode cX4_findBest 31 = .ok (.aload_n 0, 1) := by decide +kernel
theorem dX4_findBest_32 : decode cX4_findBest 32 = .ok (.getfield 55, 3) := by decide +kernel
theorem dX4_findBest_35 : decode cX4_findBest 35 = .ok (.ifCond .le 10, 3) := by decide +kernel
theorem dX4_findBest_38 : decode cX4_findBest 38 = .ok (.aload_n 0, 1) := by decide +kernel
theorem dX4_findBest_39 : decode cX4_findBest 39 = .ok (.getfield 67, 3) := by decide +kernel
theorem dX4_findBest_42 : decode cX4_findBest 42 = .ok (.goto 4, 3) := by decide +kernel
theorem dX4_findBest_45 : decode cX4_findBest 45 = .ok (.iconst (-1), 1) := by decide +kernel
theorem dX4_findBest_46 : decode cX4_findBest 46 = .ok (.ireturn, 1) := by decide +kernel
theorem dX4_prepare_0 : decode cX4_prepare 0 = .ok (.aload_n 0, 1) := by decide +kernel
theorem dX4_prepare_1 : decode cX4_prepare 1 = .ok (.getfield 21, 3) := by decide +kernel
theorem dX4_prepare_4 : decode cX4_prepare 4 = .ok (.aload_n 1, 1) := by decide +kernel
theorem dX4_prepare_5 : decode cX4_prepare 5 = .ok (.iload_n 2, 1) := by decide +kernel
theorem dX4_prepare_6 : decode cX4_prepare 6 = .ok (.iload_n 3, 1) := by decide +kernel
theorem dX4_prepare_7 : decode cX4_prepare 7 = .ok (.invokevirtual 70, 3) := by decide +kernel
theorem dX4_prepare_10 : decode cX4_prepare 10 = .ok (.ifCond .ne 5, 3) := by decide +kernel
theorem dX4_prepare_13 : decode cX4_prepare 13 = .ok (.iconst 0, 1) := by decide +kernel
theorem dX4_prepare_14 : decode cX4_prepare 14 = .ok (.ireturn, 1) := by decide +kernel
theorem dX4_prepare_15 : decode cX4_prepare 15 = .ok (.aload_n 0, 1) := by decide +kernel
theorem dX4_prepare_16 : decode cX4_prepare 16 = .ok (.aload_n 1, 1) := by decide +kernel
theorem dX4_prepare_17 : decode cX4_prepare 17 = .ok (.getfield 59, 3) := by decide +kernel
theorem dX4_prepare_20 : decode cX4_prepare 20 = .ok (.iconst 4, 1) := by decide +kernel
theorem dX4_prepare_21 : decode cX4_prepare 21 = .ok (.iaload, 1) := by decide +kernel
theorem dX4_prepare_22 : decode cX4_prepare 22 = .ok (.putfield 74, 3) := by decide +kernel
theorem dX4_prepare_25 : decode cX4_prepare 25 = .ok (.aload_n 0, 1) := by decide +kernel
theorem dX4_prepare_26 : decode cX4_prepare 26 = .ok (.aload_n 1, 1) := by decide +kernel
theorem dX4_prepare_27 : decode cX4_prepare 27 = .ok (.getfield 59, 3) := by decide +kernel
theorem dX4_prepare_30 : decode cX4_prepare 30 = .ok (.iconst 5, 1) := by decide +kernel
theorem dX4_prepare_31 : decode cX4_prepare 31 = .ok (.iaload, 1) := by decide +kernel
theorem dX4_prepare_32 : decode cX4_prepare 32 = .ok (.putfield 77, 3) := by decide +kernel
theorem dX4_prepare_35 : decode cX4_prepare 35 = .ok (.aload_n 0, 1) := by decide +kernel
theorem dX4_prepare_36 : decode cX4_prepare 36 = .ok (.aload_n 1, 1) := by decide +kernel
theorem dX4_prepare_37 : decode cX4_prepare 37 = .ok (.getfield 59, 3) := by decide +kernel
theorem dX4_prepare_40 : decode cX4_prepare 40 = .ok (.bipush 6, 2) := by decide +kernel
theorem dX4_prepare_42 : decode cX4_prepare 42 = .ok (.iaload, 1) := by decide +kernel
theorem dX4_prepare_43 : decode cX4_prepare 43 = .ok (.putfield 80, 3) := by decide +kernel
theorem dX4_prepare_46 : decode cX4_prepare 46 = .ok (.aload_n 0, 1) := by decide +kernel
theorem dX4_prepare_47 : decode cX4_prepare 47 = .ok (.iload 4, 2) := by decide +kernel
theorem dX4_prepare_49 : decode cX4_prepare 49 = .ok (.putfield 83, 3) := by decide +kernel
theorem dX4_prepare_52 : decode cX4_prepare 52 = .ok (.iconst 0, 1) := by decide +kernel
theorem dX4_prepare_53 : decode cX4_prepare 53 = .ok (.istore 5, 2) := by decide +kernel
theorem dX4_prepare_55 : decode cX4_prepare 55 = .ok (.iload 5, 2) := by decide +kernel
theorem dX4_prepare_57 : decode cX4_prepare 57 = .ok (.aload_n 0, 1) := by decide +kernel
theorem dX4_prepare_58 : decode cX4_prepare 58 = .ok (.getfield 21, 3) := by decide +kernel
theorem dX4_prepare_61 : decode cX4_prepare 61 = .ok (.getfield 86, 3) := by decide +kernel
theorem dX4_prepare_64 : decode cX4_prepare 64 = .ok (.if_icmp .ge 30, 3) := by decide +kernel
theorem dX4_prepare_67 : decode cX4_prepare 67 = .ok (.aload_n 0, 1) := by decide +kernel
theorem dX4_prepare_68 : decode cX4_prepare 68 = .ok (.getfield 12, 3) := by decide +kernel
theorem dX4_prepare_71 : decode cX4_prepare 71 = .ok (.aload_n 1, 1) := by decide +kernel
theorem dX4_prepare_72 : decode cX4_prepare 72 = .ok (.getfield 89, 3) := by decide +kernel
theorem dX4_prepare_75 : decode cX4_prepare 75 = .ok (.aload_n 0, 1) := by decide +kernel
theorem dX4_prepare_76 : decode cX4_prepare 76 = .ok (.getfield 21, 3) := by decide +kernel
theorem dX4_prepare_79 : decode cX4_prepare 79 = .ok (.getfield 93, 3) := by decide +kernel
theorem dX4_prepare_82 : decode cX4_prepare 82 = .ok (.iload 5, 2) := by decide +kernel
theorem dX4_prepare_84 : decode cX4_prepare 84 = .ok (.iaload, 1) := by decide +kernel
theorem dX4_prepare_85 : decode cX4_prepare 85 = .ok (.invokevirtual 96, 3) := by decide +kernel
theorem dX4_prepare_88 : decode cX4_prepare 88 = .ok (.iinc 5 1, 3) := by decide +kernel
theorem dX4_prepare_91 : decode cX4_prepare 91 = .ok (.goto (-36), 3) := by decide +kernel
theorem dX4_prepare_94 : decode cX4_prepare 94 = .ok (.aload_n 0, 1) := by decide +kernel
theorem dX4_prepare_95 : decode cX4_prepare 95 = .ok (.invokevirtual 100, 3) := by decide +kernel
theorem dX4_prepare_98 : decode cX4_prepare 98 = .ok (.iconst 1, 1) := by decide +kernel
theorem dX4_prepare_99 : decode cX4_prepare 99 = .ok (.ireturn, 1) := by decide +kernel
theorem dX4_run_0 : decode cX4_run 0 = .ok (.aload_n 0, 1) := by decide +kernel
theorem dX4_run_1 : decode cX4_run 1 = .ok (.iconst 0, 1) := by decide +kernel
theorem dX4_run_2 : decode cX4_run 2 = .ok (.putfield 55, 3) := by decide +kernel
theorem dX4_run_5 : decode cX4_run 5 = .ok (.aload_n 0, 1) := by decide +kernel
theorem dX4_run_6 : decode cX4_run 6 = .ok (.iload_n 1, 1) := by decide +kernel
theorem dX4_run_7 : decode cX4_run 7 = .ok (.putfield 103, 3) := by decide +kernel
theorem dX4_run_10 : decode cX4_run 10 = .ok (.aload_n 0, 1) := by decide +kernel
theorem dX4_run_11 : decode cX4_run 11 = .ok (.iload_n 2, 1) := by decide +kernel
theorem dX4_run_12 : decode cX4_run 12 = .ok (.putfield 106, 3) := by decide +kernel
theorem dX4_run_15 : decode cX4_run 15 = .ok (.aload_n 0, 1) := by decide +kernel
theorem dX4_run_16 : decode cX4_run 16 = .ok (.getfield 29, 3) := by decide +kernel
theorem dX4_run_19 : decode cX4_run 19 = .ok (.iconst 0, 1) := by decide +kernel
theorem dX4_run_20 : decode cX4_run 20 = .ok (.iconst 0, 1) := by decide +kernel
theorem dX4_run_21 : decode cX4_run 21 = .ok (.iastore, 1) := by decide +kernel
theorem dX4_run_22 : decode cX4_run 22 = .ok (.aload_n 0, 1) := by decide +kernel
theorem dX4_run_23 : decode cX4_run 23 = .ok (.iconst 0, 1) := by decide +kernel
theorem dX4_run_24 : decode cX4_run 24 = .ok (.aload_n 0, 1) := by decide +kernel
theorem dX4_run_25 : decode cX4_run 25 = .ok (.getfield 74, 3) := by decide +kernel
theorem dX4_run_28 : decode cX4_run 28 = .ok (.invokevirtual 110, 3) := by decide +kernel
theorem dX4_run_31 : decode cX4_run 31 = .ok (.iconst (-1), 1) := by decide +kernel
theorem dX4_run_32 : decode cX4_run 32 = .ok (.if_icmp .eq 13, 3) := by decide +kernel
theorem dX4_run_35 : decode cX4_run 35 = .ok (.aload_n 0, 1) := by decide +kernel
theorem dX4_run_36 : decode cX4_run 36 = .ok (.iconst 0, 1) := by decide +kernel
theorem dX4_run_37 : decode cX4_run 37 = .ok (.aload_n 0, 1) := by decide +kernel
theorem dX4_run_38 : decode cX4_run 38 = .ok (.getfield 74, 3) := by decide +kernel
theorem dX4_run_41 : decode cX4_run 41 = .ok (.iconst 0, 1) := by decide +kernel
theorem dX4_run_42 : decode cX4_run 42 = .ok (.invokevirtual 114, 3) := by decide +kernel
theorem dX4_run_45 : decode cX4_run 45 = .ok (.return_, 1) := by decide +kernel
theorem dX4_findLeastCosts_0 : decode cX4_findLeastCosts 0 = .ok (.aload_n 0, 1) := by decide +kernel
theorem dX4_findLeastCosts_1 : decode cX4_findLeastCosts 1 = .ok (.getfield 21, 3) := by decide +kernel
theorem dX4_findLeastCosts_4 : decode cX4_findLeastCosts 4 = .ok (.getfield 86, 3) := by decide +kernel
theorem dX4_findLeastCosts_7 : decode cX4_findLeastCosts 7 = .ok (.iconst 1, 1) := by decide +kernel
theorem dX4_findLeastCosts_8 : decode cX4_findLeastCosts 8 = .ok (.isub, 1) := by decide +kernel
theorem dX4_findLeastCosts_9 : decode cX4_findLeastCosts 9 = .ok (.istore_n 1, 1) := by decide +kernel
theorem dX4_findLeastCosts_10 : decode cX4_findLeastCosts 10 = .ok (.iload_n 1, 1) := by decide +kernel
theorem dX4_findLeastCosts_11 : decode cX4_findLeastCosts 11 = .ok (.ifCond .lt 43, 3) := by decide +kernel
theorem dX4_findLeastCosts_14 : decode cX4_findLeastCosts 14 = .ok (.aload_n 0, 1) := by decide +kernel
theorem dX4_findLeastCosts_15 : decode cX4_findLeastCosts 15 = .ok (.getfield 74, 3) := by decide +kernel
theorem dX4_findLeastCosts_18 : decode cX4_findLeastCosts 18 = .ok (.istore_n 2, 1) := by decide +kernel
theorem dX4_findLeastCosts_19 : decode cX4_findLeastCosts 19 = .ok (.iload_n 2, 1) := by decide +kernel
theorem dX4_findLeastCosts_20 : decode cX4_findLeastCosts 20 = .ok (.bipush 36, 2) := by decide +kernel
theorem dX4_findLeastCosts_22 : decode cX4_findLeastCosts 22 = .ok (.if_icmp .ge 26, 3) := by decide +kernel
theorem dX4_findLeastCosts_25 : decode cX4_findLeastCosts 25 = .ok (.aload_n 0, 1) := by decide +kernel
theorem dX4_findLeastCosts_26 : decode cX4_findLeastCosts 26 = .ok (.getfield 25, 3) := by decide +kernel
theorem dX4_findLeastCosts_29 : decode cX4_findLeastCosts 29 = .ok (.iload_n 1, 1) := by decide +kernel
theorem dX4_findLeastCosts_30 : decode cX4_findLeastCosts 30 = .ok (.bipush 36, 2) := by decide +kernel
theorem dX4_findLeastCosts_32 : decode cX4_findLeastCosts 32 = .ok (.imul, 1) := by decide +kernel
theorem dX4_findLeastCosts_33 : decode cX4_findLeastCosts 33 = .ok (.iload_n 2, 1) := by decide +kernel
theorem dX4_findLeastCosts_34 : decode cX4_findLeastCosts 34 = .ok (.iadd, 1) := by decide +kernel
theorem dX4_findLeastCosts_35 : decode cX4_findLeastCosts 35 = .ok (.aload_n 0, 1) := by decide +kernel
theorem dX4_findLeastCosts_36 : decode cX4_findLeastCosts 36 = .ok (.iload_n 1, 1) := by decide +kernel
theorem dX4_findLeastCosts_37 : decode cX4_findLeastCosts 37 = .ok (.iload_n 2, 1) := by decide +kernel
theorem dX4_findLeastCosts_38 : decode cX4_findLeastCosts 38 = .ok (.invokevirtual 118, 3) := by decide +kernel
theorem dX4_findLeastCosts_41 : decode cX4_findLeastCosts 41 = .ok (.iastore, 1) := by decide +kernel
theorem dX4_findLeastCosts_42 : decode cX4_findLeastCosts 42 = .ok (.iinc 2 1, 3) := by decide +kernel
theorem dX4_findLeastCosts_45 : decode cX4_findLeastCosts 45 = .ok (.goto (-26), 3) := by decide +kernel
theorem dX4_findLeastCosts_48 : decode cX4_findLeastCosts 48 = .ok (.iinc 1 (-1), 3) := by decide +kernel
theorem dX4_findLeastCosts_51 : decode cX4_findLeastCosts 51 = .ok (.goto (-41), 3) := by decide +kernel
theorem dX4_findLeastCosts_54 : decode cX4_findLeastCosts 54 = .ok (.return_, 1) := by decide +kernel
theorem dX4_findLeastCost_0 : decode cX4_findLeastCost 0 = .ok (.iconst (-1), 1) := by decide +kernel
theorem dX4_findLeastCost_1 : decode cX4_findLeastCost 1 = .ok (.istore_n 3, 1) := by decide +kernel
theorem dX4_findLeastCost_2 : decode cX4_findLeastCost 2 = .ok (.iload_n 1, 1) := by decide +kernel
theorem dX4_findLeastCost_3 : decode cX4_findLeastCost 3 = .ok (.iconst 1, 1) := by decide +kernel
theorem dX4_findLeastCost_4 : decode cX4_findLeastCost 4 = .ok (.iadd, 1) := by decide +kernel
theorem dX4_findLeastCost_5 : decode cX4_findLeastCost 5 = .ok (.istore 4, 2) := by decide +kernel
theorem dX4_findLeastCost_7 : decode cX4_findLeastCost 7 = .ok (.iload 4, 2) := by decide +kernel
theorem dX4_findLeastCost_9 : decode cX4_findLeastCost 9 = .ok (.aload_n 0, 1) := by decide +kernel
theorem dX4_findLeastCost_10 : decode cX4_findLeastCost 10 = .ok (.getfield 21, 3) := by decide +kernel
theorem dX4_findLeastCost_13 : decode cX4_findLeastCost 13 = .ok (.getfield 121, 3) := by decide +kernel
theorem dX4_findLeastCost_16 : decode cX4_findLeastCost 16 = .ok (.iload_n 1, 1) := by decide +kernel
theorem dX4_findLeastCost_17 : decode cX4_findLeastCost 17 = .ok (.iaload, 1) := by decide +kernel
theorem dX4_findLeastCost_18 : decode cX4_findLeastCost 18 = .ok (.if_icmp .gt 74, 3) := by decide +kernel
theorem dX4_findLeastCost_21 : decode cX4_findLeastCost 21 = .ok (.aload_n 0, 1) := by decide +kernel
theorem dX4_findLeastCost_22 : decode cX4_findLeastCost 22 = .ok (.iload_n 1, 1) := by decide +kernel
theorem dX4_findLeastCost_23 : decode cX4_findLeastCost 23 = .ok (.iload 4, 2) := by decide +kernel
theorem dX4_findLeastCost_25 : decode cX4_findLeastCost 25 = .ok (.iload_n 2, 1) := by decide +kernel
theorem dX4_findLeastCost_26 : decode cX4_findLeastCost 26 = .ok (.invokevirtual 124, 3) := by decide +kernel
theorem dX4_findLeastCost_29 : decode cX4_findLeastCost 29 = .ok (.istore 5, 2) := by decide +kernel
theorem dX4_findLeastCost_31 : decode cX4_findLeastCost 31 = .ok (.iload 5, 2) := by decide +kernel
theorem dX4_findLeastCost_33 : decode cX4_findLeastCost 33 = .ok (.iconst (-1), 1) := by decide +kernel
theorem dX4_findLeastCost_34 : decode cX4_findLeastCost 34 = .ok (.if_icmp .ne 6, 3) := by decide +kernel
theorem dX4_findLeastCost_37 : decode cX4_findLeastCost 37 = .ok (.goto 55, 3) := by decide +kernel
theorem dX4_findLeastCost_40 : decode cX4_findLeastCost 40 = .ok (.aload_n 0, 1) := by decide +kernel
theorem dX4_findLeastCost_41 : decode cX4_findLeastCost 41 = .ok (.iload 4, 2) := by decide +kernel
theorem dX4_findLeastCost_43 : decode cX4_findLeastCost 43 = .ok (.aload_n 0, 1) := by decide +kernel
theorem dX4_findLeastCost_44 : decode cX4_findLeastCost 44 = .ok (.iload_n 1, 1) := by decide +kernel
theorem dX4_findLeastCost_45 : decode cX4_findLeastCost 45 = .ok (.iload 4, 2) := by decide +kernel
theorem dX4_findLeastCost_47 : decode cX4_findLeastCost 47 = .ok (.iload_n 2, 1) := by decide +kernel
theorem dX4_findLeastCost_48 : decode cX4_findLeastCost 48 = .ok (.invokevirtual 128, 3) := by decide +kernel
theorem dX4_findLeastCost_51 : decode cX4_findLeastCost 51 = .ok (.invokevirtual 110, 3) := by decide +kernel
theorem dX4_findLeastCost_54 : decode cX4_findLeastCost 54 = .ok (.istore 6, 2) := by decide +kernel
theorem dX4_findLeastCost_56 : decode cX4_findLeastCost 56 = .ok (.iload 5, 2) := by decide +kernel
theorem dX4_findLeastCost_58 : decode cX4_findLeastCost 58 = .ok (.iload 5, 2) := by decide +kernel
theorem dX4_findLeastCost_60 : decode cX4_findLeastCost 60 = .ok (.imul, 1) := by decide +kernel
theorem dX4_findLeastCost_61 : decode cX4_findLeastCost 61 = .ok (.iload 6, 2) := by decide +kernel
theorem dX4_findLeastCost_63 : decode cX4_findLeastCost 63 = .ok (.iadd, 1) := by decide +kernel
theorem dX4_findLeastCost_64 : decode cX4_findLeastCost 64 = .ok (.istore 7, 2) := by decide +kernel
theorem dX4_findLeastCost_66 : decode cX4_findLeastCost 66 = .ok (.iload 6, 2) := by decide +kernel
theorem dX4_findLeastCost_68 : decode cX4_findLeastCost 68 = .ok (.iconst (-1), 1) := by decide +kernel
theorem dX4_findLeastCost_69 : decode cX4_findLeastCost 69 = .ok (.if_icmp .eq 17, 3) := by decide +kernel
theorem dX4_findLeastCost_72 : decode cX4_findLeastCost 72 = .ok (.iload_n 3, 1) := by decide +kernel
theorem dX4_findLeastCost_73 : decode cX4_findLeastCost 73 = .ok (.iconst (-1), 1) := by decide +kernel
theorem dX4_findLeastCost_74 : decode cX4_findLeastCost 74 = .ok (.if_icmp .eq 9, 3) := by decide +kernel
theorem dX4_findLeastCost_77 : decode cX4_findLeastCost 77 = .ok (.iload 7, 2) := by decide +kernel
theorem dX4_findLeastCost_79 : decode cX4_findLeastCost 79 = .ok (.iload_n 3, 1) := by decide +kernel
theorem dX4_findLeastCost_80 : decode cX4_findLeastCost 80 = .ok (.if_icmp .ge 6, 3) := by decide +kernel
theorem dX4_findLeastCost_83 : decode cX4_findLeastCost 83 = .ok (.iload 7, 2) := by decide +kernel
theorem dX4_findLeastCost_85 : decode cX4_findLeastCost 85 = .ok (.istore_n 3, 1) := by decide +kernel
theorem dX4_findLeastCost_86 : decode cX4_findLeastCost 86 = .ok (.iinc 4 1, 3) := by decide +kernel
theorem dX4_findLeastCost_89 : decode cX4_findLeastCost 89 = .ok (.goto (-82), 3) := by decide +kernel
theorem dX4_findLeastCost_92 : decode cX4_findLeastCost 92 = .ok (.iload_n 3, 1) := by decide +kernel
theorem dX4_findLeastCost_93 : decode cX4_findLeastCost 93 = .ok (.ireturn, 1) := by decide +kernel
theorem dX4_leastCostFrom_0 : decode cX4_leastCostFrom 0 = .ok (.iload_n 1, 1) := by decide +kernel
theorem dX4_leastCostFrom_1 : decode cX4_leastCostFrom 1 = .ok (.aload_n 0, 1) := by decide +kernel
theorem dX4_leastCostFrom_2 : decode cX4_leastCostFrom 2 = .ok (.getfield 21, 3) := by decide +kernel
theorem dX4_leastCostFrom_5 : decode cX4_leastCostFrom 5 = .ok (.getfield 86, 3) := by decide +kernel
theorem dX4_leastCostFrom_8 : decode cX4_leastCostFrom 8 = .ok (.if_icmp .lt 5, 3) := by decide +kernel
theorem dX4_leastCostFrom_11 : decode cX4_leastCostFrom 11 = .ok (.iconst 0, 1) := by decide +kernel
theorem dX4_leastCostFrom_12 : decode cX4_leastCostFrom 12 = .ok (.ireturn, 1) := by decide +kernel
theorem dX4_leastCostFrom_13 : decode cX4_leastCostFrom 13 = .ok (.iload_n 2, 1) := by decide +kernel
theorem dX4_leastCostFrom_14 : decode cX4_leastCostFrom 14 = .ok (.bipush 36, 2) := by decide +kernel
theorem dX4_leastCostFrom_16 : decode cX4_leastCostFrom 16 = .ok (.if_icmp .ge 17, 3) := by decide +kernel
theorem dX4_leastCostFrom_19 : decode cX4_leastCostFrom 19 = .ok (.aload_n 0, 1) := by decide +kernel
theorem dX4_leastCostFrom_20 : decode cX4_leastCostFrom 20 = .ok (.getfield 25, 3) := by decide +kernel
theorem dX4_leastCostFrom_23 : decode cX4_leastCostFrom 23 = .ok (.iload_n 1, 1) := by decide +kernel
theorem dX4_leastCostFrom_24 : decode cX4_leastCostFrom 24 = .ok (.bipush 36, 2) := by decide +kernel
theorem dX4_leastCostFrom_26 : decode cX4_leastCostFrom 26 = .ok (.imul, 1) := by decide +kernel
theorem dX4_leastCostFrom_27 : decode cX4_leastCostFrom 27 = .ok (.iload_n 2, 1) := by decide +kernel
theorem dX4_leastCostFrom_28 : decode cX4_leastCostFrom 28 = .ok (.iadd, 1) := by decide +kernel
theorem dX4_leastCostFrom_29 : decode cX4_leastCostFrom 29 = .ok (.iaload, 1) := by decide +kernel
theorem dX4_leastCostFrom_30 : decode cX4_leastCostFrom 30 = .ok (.goto 4, 3) := by decide +kernel
theorem dX4_leastCostFrom_33 : decode cX4_leastCostFrom 33 = .ok (.iconst (-1), 1) := by decide +kernel
theorem dX4_leastCostFrom_34 : decode cX4_leastCostFrom 34 = .ok (.ireturn, 1) := by decide +kernel
theorem dX4_rowBehind_0 : decode cX4_rowBehind 0 = .ok (.iload_n 3, 1) := by decide +kernel
theorem dX4_rowBehind_1 : decode cX4_rowBehind 1 = .ok (.aload_n 0, 1) := by decide +kernel
theorem dX4_rowBehind_2 : decode cX4_rowBehind 2 = .ok (.getfield 21, 3) := by decide +kernel
theorem dX4_rowBehind_5 : decode cX4_rowBehind 5 = .ok (.iload_n 1, 1) := by decide +kernel
theorem dX4_rowBehind_6 : decode cX4_rowBehind 6 = .ok (.iload_n 2, 1) := by decide +kernel
theorem dX4_rowBehind_7 : decode cX4_rowBehind 7 = .ok (.invokevirtual 131, 3) := by decide +kernel
theorem dX4_rowBehind_10 : decode cX4_rowBehind 10 = .ok (.iadd, 1) := by decide +kernel
theorem dX4_rowBehind_11 : decode cX4_rowBehind 11 = .ok (.aload_n 0, 1) := by decide +kernel
theorem dX4_rowBehind_12 : decode cX4_rowBehind 12 = .ok (.getfield 77, 3) := by decide +kernel
theorem dX4_rowBehind_15 : decode cX4_rowBehind 15 = .ok (.iadd, 1) := by decide +kernel
theorem dX4_rowBehind_16 : decode cX4_rowBehind 16 = .ok (.ireturn, 1) := by decide +kernel
theorem dX4_slackOf_0 : decode cX4_slackOf 0 = .ok (.aload_n 0, 1) := by decide +kernel
theorem dX4_slackOf_1 : decode cX4_slackOf 1 = .ok (.getfield 21, 3) := by decide +kernel
theorem dX4_slackOf_4 : decode cX4_slackOf 4 = .ok (.iload_n 1, 1) := by decide +kernel
theorem dX4_slackOf_5 : decode cX4_slackOf 5 = .ok (.iload_n 2, 1) := by decide +kernel
theorem dX4_slackOf_6 : decode cX4_slackOf 6 = .ok (.invokevirtual 131, 3) := by decide +kernel
theorem dX4_slackOf_9 : decode cX4_slackOf 9 = .ok (.istore 4, 2) := by decide +kernel
theorem dX4_slackOf_11 : decode cX4_slackOf 11 = .ok (.iload_n 3, 1) := by decide +kernel
theorem dX4_slackOf_12 : decode cX4_slackOf 12 = .ok (.iload 4, 2) := by decide +kernel
theorem dX4_slackOf_14 : decode cX4_slackOf 14 = .ok (.iadd, 1) := by decide +kernel
theorem dX4_slackOf_15 : decode cX4_slackOf 15 = .ok (.bipush 36, 2) := by decide +kernel
theorem dX4_slackOf_17 : decode cX4_slackOf 17 = .ok (.if_icmp .le 5, 3) := by decide +kernel
theorem dX4_slackOf_20 : decode cX4_slackOf 20 = .ok (.iconst (-1), 1) := by decide +kernel
theorem dX4_slackOf_21 : decode cX4_slackOf 21 = .ok (.ireturn, 1) := by decide +kernel
theorem dX4_slackOf_22 : decode cX4_slackOf 22 = .ok (.aload_n 0, 1) := by decide +kernel
theorem dX4_slackOf_23 : decode cX4_slackOf 23 = .ok (.getfield 12, 3) := by decide +kernel
theorem dX4_slackOf_26 : decode cX4_slackOf 26 = .ok (.iload_n 3, 1) := by decide +kernel
theorem dX4_slackOf_27 : decode cX4_slackOf 27 = .ok (.iload 4, 2) := by decide +kernel
theorem dX4_slackOf_29 : decode cX4_slackOf 29 = .ok (.invokevirtual 134, 3) := by decide +kernel
theorem dX4_slackOf_32 : decode cX4_slackOf 32 = .ok (.aload_n 0, 1) := by decide +kernel
theorem dX4_slackOf_33 : decode cX4_slackOf 33 = .ok (.getfield 21, 3) := by decide +kernel
theorem dX4_slackOf_36 : decode cX4_slackOf 36 = .ok (.iload_n 1, 1) := by decide +kernel
theorem dX4_slackOf_37 : decode cX4_slackOf 37 = .ok (.iload_n 2, 1) := by decide +kernel
theorem dX4_slackOf_38 : decode cX4_slackOf 38 = .ok (.invokevirtual 137, 3) := by decide +kernel
theorem dX4_slackOf_41 : decode cX4_slackOf 41 = .ok (.isub, 1) := by decide +kernel
theorem dX4_slackOf_42 : decode cX4_slackOf 42 = .ok (.istore 5, 2) := by decide +kernel
theorem dX4_slackOf_44 : decode cX4_slackOf 44 = .ok (.iload 5, 2) := by decide +kernel
theorem dX4_slackOf_46 : decode cX4_slackOf 46 = .ok (.ifCond .lt 8, 3) := by decide +kernel
theorem dX4_slackOf_49 : decode cX4_slackOf 49 = .ok (.iload 5, 2) := by decide +kernel
theorem dX4_slackOf_51 : decode cX4_slackOf 51 = .ok (.goto 4, 3) := by decide +kernel
theorem dX4_slackOf_54 : decode cX4_slackOf 54 = .ok (.iconst (-1), 1) := by decide +kernel
theorem dX4_slackOf_55 : decode cX4_slackOf 55 = .ok (.ireturn, 1) := by decide +kernel
theorem dX4_layFrom_0 : decode cX4_layFrom 0 = .ok (.aload_n 0, 1) := by decide +kernel
theorem dX4_layFrom_1 : decode cX4_layFrom 1 = .ok (.getfield 29, 3) := by decide +kernel
theorem dX4_layFrom_4 : decode cX4_layFrom 4 = .ok (.iload_n 1, 1) := by decide +kernel
theorem dX4_layFrom_5 : decode cX4_layFrom 5 = .ok (.iaload, 1) := by decide +kernel
theorem dX4_layFrom_6 : decode cX4_layFrom 6 = .ok (.istore 4, 2) := by decide +kernel
theorem dX4_layFrom_8 : decode cX4_layFrom 8 = .ok (.iload 4, 2) := by decide +kernel
theorem dX4_layFrom_10 : decode cX4_layFrom 10 = .ok (.aload_n 0, 1) := by decide +kernel
theorem dX4_layFrom_11 : decode cX4_layFrom 11 = .ok (.getfield 21, 3) := by decide +kernel
theorem dX4_layFrom_14 : decode cX4_layFrom 14 = .ok (.getfield 86, 3) := by decide +kernel
theorem dX4_layFrom_17 : decode cX4_layFrom 17 = .ok (.if_icmp .lt 10, 3) := by decide +kernel
theorem dX4_layFrom_20 : decode cX4_layFrom 20 = .ok (.aload_n 0, 1) := by decide +kernel
theorem dX4_layFrom_21 : decode cX4_layFrom 21 = .ok (.iload_n 1, 1) := by decide +kernel
theorem dX4_layFrom_22 : decode cX4_layFrom 22 = .ok (.iload_n 3, 1) := by decide +kernel
theorem dX4_layFrom_23 : decode cX4_layFrom 23 = .ok (.invokevirtual 140, 3) := by decide +kernel
theorem dX4_layFrom_26 : decode cX4_layFrom 26 = .ok (.return_, 1) := by decide +kernel
theorem dX4_layFrom_27 : decode cX4_layFrom 27 = .ok (.iload_n 1, 1) := by decide +kernel
theorem dX4_layFrom_28 : decode cX4_layFrom 28 = .ok (.bipush 14, 2) := by decide +kernel
theorem dX4_layFrom_30 : decode cX4_layFrom 30 = .ok (.if_icmp .lt 4, 3) := by decide +kernel
theorem dX4_layFrom_33 : decode cX4_layFrom 33 = .ok (.return_, 1) := by decide +kernel
theorem dX4_layFrom_34 : decode cX4_layFrom 34 = .ok (.iload 4, 2) := by decide +kernel
theorem dX4_layFrom_36 : decode cX4_layFrom 36 = .ok (.iconst 1, 1) := by decide +kernel
theorem dX4_layFrom_37 : decode cX4_layFrom 37 = .ok (.iadd, 1) := by decide +kernel
theorem dX4_layFrom_38 : decode cX4_layFrom 38 = .ok (.istore 5, 2) := by decide +kernel
theorem dX4_layFrom_40 : decode cX4_layFrom 40 = .ok (.iload 5, 2) := by decide +kernel
theorem dX4_layFrom_42 : decode cX4_layFrom 42 = .ok (.aload_n 0, 1) := by decide +kernel
theorem dX4_layFrom_43 : decode cX4_layFrom 43 = .ok (.getfield 21, 3) := by decide +kernel
theorem dX4_layFrom_46 : decode cX4_layFrom 46 = .ok (.getfield 121, 3) := by decide +kernel
theorem dX4_layFrom_49 : decode cX4_layFrom 49 = .ok (.iload 4, 2) := by decide +kernel
theorem dX4_layFrom_51 : decode cX4_layFrom 51 = .ok (.iaload, 1) := by decide +kernel
theorem dX4_layFrom_52 : decode cX4_layFrom 52 = .ok (.if_icmp .gt 65, 3) := by decide +kernel
theorem dX4_layFrom_55 : decode cX4_layFrom 55 = .ok (.aload_n 0, 1) := by decide +kernel
theorem dX4_layFrom_56 : decode cX4_layFrom 56 = .ok (.getfield 55, 3) := by decide +kernel
theorem dX4_layFrom_59 : decode cX4_layFrom 59 = .ok (.aload_n 0, 1) := by decide +kernel
theorem dX4_layFrom_60 : decode cX4_layFrom 60 = .ok (.getfield 103, 3) := by decide +kernel
theorem dX4_layFrom_63 : decode cX4_layFrom 63 = .ok (.if_icmp .ge 54, 3) := by decide +kernel
theorem dX4_layFrom_66 : decode cX4_layFrom 66 = .ok (.aload_n 0, 1) := by decide +kernel
theorem dX4_layFrom_67 : decode cX4_layFrom 67 = .ok (.iload 4, 2) := by decide +kernel
theorem dX4_layFrom_69 : decode cX4_layFrom 69 = .ok (.iload 5, 2) := by decide +kernel
theorem dX4_layFrom_71 : decode cX4_layFrom 71 = .ok (.iload_n 2, 1) := by decide +kernel
theorem dX4_layFrom_72 : decode cX4_layFrom 72 = .ok (.invokevirtual 124, 3) := by decide +kernel
theorem dX4_layFrom_75 : decode cX4_layFrom 75 = .ok (.istore 6, 2) := by decide +kernel
theorem dX4_layFrom_77 : decode cX4_layFrom 77 = .ok (.iload 6, 2) := by decide +kernel
theorem dX4_layFrom_79 : decode cX4_layFrom 79 = .ok (.iconst (-1), 1) := by decide +kernel
theorem dX4_layFrom_80 : decode cX4_layFrom 80 = .ok (.if_icmp .ne 6, 3) := by decide +kernel
theorem dX4_layFrom_83 : decode cX4_layFrom 83 = .ok (.goto 34, 3) := by decide +kernel
theorem dX4_layFrom_86 : decode cX4_layFrom 86 = .ok (.aload_n 0, 1) := by decide +kernel
theorem dX4_layFrom_87 : decode cX4_layFrom 87 = .ok (.getfield 29, 3) := by decide +kernel
theorem dX4_layFrom_90 : decode cX4_layFrom 90 = .ok (.iload_n 1, 1) := by decide +kernel
theorem dX4_layFrom_91 : decode cX4_layFrom 91 = .ok (.iconst 1, 1) := by decide +kernel
theorem dX4_layFrom_92 : decode cX4_layFrom 92 = .ok (.iadd, 1) := by decide +kernel
theorem dX4_layFrom_93 : decode cX4_layFrom 93 = .ok (.iload 5, 2) := by decide +kernel
theorem dX4_layFrom_95 : decode cX4_layFrom 95 = .ok (.iastore, 1) := by decide +kernel
theorem dX4_layFrom_96 : decode cX4_layFrom 96 = .ok (.aload_n 0, 1) := by decide +kernel
theorem dX4_layFrom_97 : decode cX4_layFrom 97 = .ok (.iload_n 1, 1) := by decide +kernel
theorem dX4_layFrom_98 : decode cX4_layFrom 98 = .ok (.iload_n 2, 1) := by decide +kernel
theorem dX4_layFrom_99 : decode cX4_layFrom 99 = .ok (.iload 6, 2) := by decide +kernel
theorem dX4_layFrom_101 : decode cX4_layFrom 101 = .ok (.iload_n 3, 1) := by decide +kernel
theorem dX4_layFrom_102 : decode cX4_layFrom 102 = .ok (.iload 6, 2) := by decide +kernel
theorem dX4_layFrom_104 : decode cX4_layFrom 104 = .ok (.iload 6, 2) := by decide +kernel
theorem dX4_layFrom_106 : decode cX4_layFrom 106 = .ok (.imul, 1) := by decide +kernel
theorem dX4_layFrom_107 : decode cX4_layFrom 107 = .ok (.iadd, 1) := by decide +kernel
theorem dX4_layFrom_108 : decode cX4_layFrom 108 = .ok (.invokevirtual 144, 3) := by decide +kernel
theorem dX4_layFrom_111 : decode cX4_layFrom 111 = .ok (.iinc 5 1, 3) := by decide +kernel
theorem dX4_layFrom_114 : decode cX4_layFrom 114 = .ok (.goto (-74), 3) := by decide +kernel
theorem dX4_layFrom_117 : decode cX4_layFrom 117 = .ok (.return_, 1) := by decide +kernel
theorem dX4_tryLine_0 : decode cX4_tryLine 0 = .ok (.aload_n 0, 1) := by decide +kernel
theorem dX4_tryLine_1 : decode cX4_tryLine 1 = .ok (.getfield 29, 3) := by decide +kernel
theorem dX4_tryLine_4 : decode cX4_tryLine 4 = .ok (.iload_n 1, 1) := by decide +kernel
theorem dX4_tryLine_5 : decode cX4_tryLine 5 = .ok (.iaload, 1) := by decide +kernel
theorem dX4_tryLine_6 : decode cX4_tryLine 6 = .ok (.istore 5, 2) := by decide +kernel
theorem dX4_tryLine_8 : decode cX4_tryLine 8 = .ok (.aload_n 0, 1) := by decide +kernel
theorem dX4_tryLine_9 : decode cX4_tryLine 9 = .ok (.getfield 29, 3) := by decide +kernel
theorem dX4_tryLine_12 : decode cX4_tryLine 12 = .ok (.iload_n 1, 1) := by decide +kernel
theorem dX4_tryLine_13 : decode cX4_tryLine 13 = .ok (.iconst 1, 1) := by decide +kernel
theorem dX4_tryLine_14 : decode cX4_tryLine 14 = .ok (.iadd, 1) := by decide +kernel
theorem dX4_tryLine_15 : decode cX4_tryLine 15 = .ok (.iaload, 1) := by decide +kernel
theorem dX4_tryLine_16 : decode cX4_tryLine 16 = .ok (.istore 6, 2) := by decide +kernel
theorem dX4_tryLine_18 : decode cX4_tryLine 18 = .ok (.aload_n 0, 1) := by decide +kernel
theorem dX4_tryLine_19 : decode cX4_tryLine 19 = .ok (.iload 5, 2) := by decide +kernel
theorem dX4_tryLine_21 : decode cX4_tryLine 21 = .ok (.iload 6, 2) := by decide +kernel
theorem dX4_tryLine_23 : decode cX4_tryLine 23 = .ok (.iload_n 2, 1) := by decide +kernel
theorem dX4_tryLine_24 : decode cX4_tryLine 24 = .ok (.invokevirtual 128, 3) := by decide +kernel
theorem dX4_tryLine_27 : decode cX4_tryLine 27 = .ok (.istore 7, 2) := by decide +kernel
theorem dX4_tryLine_29 : decode cX4_tryLine 29 = .ok (.aload_n 0, 1) := by decide +kernel
theorem dX4_tryLine_30 : decode cX4_tryLine 30 = .ok (.iload 6, 2) := by decide +kernel
theorem dX4_tryLine_32 : decode cX4_tryLine 32 = .ok (.iload 7, 2) := by decide +kernel
theorem dX4_tryLine_34 : decode cX4_tryLine 34 = .ok (.invokevirtual 110, 3) := by decide +kernel
theorem dX4_tryLine_37 : decode cX4_tryLine 37 = .ok (.istore 8, 2) := by decide +kernel
theorem dX4_tryLine_39 : decode cX4_tryLine 39 = .ok (.iload 8, 2) := by decide +kernel
theorem dX4_tryLine_41 : decode cX4_tryLine 41 = .ok (.iconst (-1), 1) := by decide +kernel
theorem dX4_tryLine_42 : decode cX4_tryLine 42 = .ok (.if_icmp .eq 29, 3) := by decide +kernel
theorem dX4_tryLine_45 : decode cX4_tryLine 45 = .ok (.aload_n 0, 1) := by decide +kernel
theorem dX4_tryLine_46 : decode cX4_tryLine 46 = .ok (.getfield 106, 3) := by decide +kernel
theorem dX4_tryLine_49 : decode cX4_tryLine 49 = .ok (.ifCond .eq 23, 3) := by decide +kernel
theorem dX4_tryLine_52 : decode cX4_tryLine 52 = .ok (.aload_n 0, 1) := by decide +kernel
theorem dX4_tryLine_53 : decode cX4_tryLine 53 = .ok (.getfield 55, 3) := by decide +kernel
theorem dX4_tryLine_56 : decode cX4_tryLine 56 = .ok (.ifCond .le 16, 3) := by decide +kernel
theorem dX4_tryLine_59 : decode cX4_tryLine 59 = .ok (.iload 4, 2) := by decide +kernel
theorem dX4_tryLine_61 : decode cX4_tryLine 61 = .ok (.iload 8, 2) := by decide +kernel
theorem dX4_tryLine_63 : decode cX4_tryLine 63 = .ok (.iadd, 1) := by decide +kernel
theorem dX4_tryLine_64 : decode cX4_tryLine 64 = .ok (.aload_n 0, 1) := by decide +kernel
theorem dX4_tryLine_65 : decode cX4_tryLine 65 = .ok (.getfield 67, 3) := by decide +kernel
theorem dX4_tryLine_68 : decode cX4_tryLine 68 = .ok (.if_icmp .lt 4, 3) := by decide +kernel
theorem dX4_tryLine_71 : decode cX4_tryLine 71 = .ok (.return_, 1) := by decide +kernel
theorem dX4_tryLine_72 : decode cX4_tryLine 72 = .ok (.aload_n 0, 1) := by decide +kernel
theorem dX4_tryLine_73 : decode cX4_tryLine 73 = .ok (.iload 5, 2) := by decide +kernel
theorem dX4_tryLine_75 : decode cX4_tryLine 75 = .ok (.iload 6, 2) := by decide +kernel
theorem dX4_tryLine_77 : decode cX4_tryLine 77 = .ok (.iload_n 2, 1) := by decide +kernel
theorem dX4_tryLine_78 : decode cX4_tryLine 78 = .ok (.iload_n 3, 1) := by decide +kernel
theorem dX4_tryLine_79 : decode cX4_tryLine 79 = .ok (.invokevirtual 148, 3) := by decide +kernel
theorem dX4_tryLine_82 : decode cX4_tryLine 82 = .ok (.aload_n 0, 1) := by decide +kernel
theorem dX4_tryLine_83 : decode cX4_tryLine 83 = .ok (.iload_n 1, 1) := by decide +kernel
theorem dX4_tryLine_84 : decode cX4_tryLine 84 = .ok (.invokevirtual 151, 3) := by decide +kernel
theorem dX4_tryLine_87 : decode cX4_tryLine 87 = .ok (.aload_n 0, 1) := by decide +kernel
theorem dX4_tryLine_88 : decode cX4_tryLine 88 = .ok (.getfield 83, 3) := by decide +kernel
theorem dX4_tryLine_91 : decode cX4_tryLine 91 = .ok (.if_icmp .gt 14, 3) := by decide +kernel
theorem dX4_tryLine_94 : decode cX4_tryLine 94 = .ok (.aload_n 0, 1) := by decide +kernel
theorem dX4_tryLine_95 : decode cX4_tryLine 95 = .ok (.iload_n 1, 1) := by decide +kernel
theorem dX4_tryLine_96 : decode cX4_tryLine 96 = .ok (.iconst 1, 1) := by decide +kernel
theorem dX4_tryLine_97 : decode cX4_tryLine 97 = .ok (.iadd, 1) := by decide +kernel
theorem dX4_tryLine_98 : decode cX4_tryLine 98 = .ok (.iload 7, 2) := by decide +kernel
theorem dX4_tryLine_100 : decode cX4_tryLine 100 = .ok (.iload 4, 2) := by decide +kernel
theorem dX4_tryLine_102 : decode cX4_tryLine 102 = .ok (.invokevirtual 114, 3) := by decide +kernel
theorem dX4_tryLine_105 : decode cX4_tryLine 105 = .ok (.return_, 1) := by decide +kernel
theorem dX4_keep_0 : decode cX4_keep 0 = .ok (.aload_n 0, 1) := by decide +kernel
theorem dX4_keep_1 : decode cX4_keep 1 = .ok (.dup, 1) := by decide +kernel
theorem dX4_keep_2 : decode cX4_keep 2 = .ok (.getfield 55, 3) := by decide +kernel
theorem dX4_keep_5 : decode cX4_keep 5 = .ok (.iconst 1, 1) := by decide +kernel
theorem dX4_keep_6 : decode cX4_keep 6 = .ok (.iadd, 1) := by decide +kernel
theorem dX4_keep_7 : decode cX4_keep 7 = .ok (.putfield 55, 3) := by decide +kernel
theorem dX4_keep_10 : decode cX4_keep 10 = .ok (.aload_n 0, 1) := by decide +kernel
theorem dX4_keep_11 : decode cX4_keep 11 = .ok (.getfield 106, 3) := by decide +kernel
theorem dX4_keep_14 : decode cX4_keep 14 = .ok (.ifCond .eq 31, 3) := by decide +kernel
theorem dX4_keep_17 : decode cX4_keep 17 = .ok (.aload_n 0, 1) := by decide +kernel
theorem dX4_keep_18 : decode cX4_keep 18 = .ok (.iload_n 2, 1) := by decide +kernel
theorem dX4_keep_19 : decode cX4_keep 19 = .ok (.putfield 67, 3) := by decide +kernel
theorem dX4_keep_22 : decode cX4_keep 22 = .ok (.aload_n 0, 1) := by decide +kernel
theorem dX4_keep_23 : decode cX4_keep 23 = .ok (.iload_n 1, 1) := by decide +kernel
theorem dX4_keep_24 : decode cX4_keep 24 = .ok (.putfield 155, 3) := by decide +kernel
theorem dX4_keep_27 : decode cX4_keep 27 = .ok (.aload_n 0, 1) := by decide +kernel
theorem dX4_keep_28 : decode cX4_keep 28 = .ok (.getfield 29, 3) := by decide +kernel
theorem dX4_keep_31 : decode cX4_keep 31 = .ok (.iconst 0, 1) := by decide +kernel
theorem dX4_keep_32 : decode cX4_keep 32 = .ok (.aload_n 0, 1) := by decide +kernel
theorem dX4_keep_33 : decode cX4_keep 33 = .ok (.getfield 44, 3) := by decide +kernel
theorem dX4_keep_36 : decode cX4_keep 36 = .ok (.iconst 0, 1) := by decide +kernel
theorem dX4_keep_37 : decode cX4_keep 37 = .ok (.aload_n 0, 1) := by decide +kernel
theorem dX4_keep_38 : decode cX4_keep 38 = .ok (.getfield 29, 3) := by decide +kernel
theorem dX4_keep_41 : decode cX4_keep 41 = .ok (.arraylength, 1) := by decide +kernel
theorem dX4_keep_42 : decode cX4_keep 42 = .ok (.invokestatic 158, 3) := by decide +kernel
theorem dX4_keep_45 : decode cX4_keep 45 = .ok (.return_, 1) := by decide +kernel
theorem dX4_placeWords_0 : decode cX4_placeWords 0 = .ok (.aload_n 0, 1) := by decide +kernel
theorem dX4_placeWords_1 : decode cX4_placeWords 1 = .ok (.getfield 80, 3) := by decide +kernel
theorem dX4_placeWords_4 : decode cX4_placeWords 4 = .ok (.ifCond .ne 7, 3) := by decide +kernel
theorem dX4_placeWords_7 : decode cX4_placeWords 7 = .ok (.iconst 0, 1) := by decide +kernel
theorem dX4_placeWords_8 : decode cX4_placeWords 8 = .ok (.goto 20, 3) := by decide +kernel
theorem dX4_placeWords_11 : decode cX4_placeWords 11 = .ok (.aload_n 0, 1) := by decide +kernel
theorem dX4_placeWords_12 : decode cX4_placeWords 12 = .ok (.getfield 80, 3) := by decide +kernel
theorem dX4_placeWords_15 : decode cX4_placeWords 15 = .ok (.iconst 1, 1) := by decide +kernel
theorem dX4_placeWords_16 : decode cX4_placeWords 16 = .ok (.if_icmp .ne 10, 3) := by decide +kernel
theorem dX4_placeWords_19 : decode cX4_placeWords 19 = .ok (.iload 4, 2) := by decide +kernel
theorem dX4_placeWords_21 : decode cX4_placeWords 21 = .ok (.iconst 2, 1) := by decide +kernel
theorem dX4_placeWords_22 : decode cX4_placeWords 22 = .ok (.idiv, 1) := by decide +kernel
theorem dX4_placeWords_23 : decode cX4_placeWords 23 = .ok (.goto 5, 3) := by decide +kernel
theorem dX4_placeWords_26 : decode cX4_placeWords 26 = .ok (.iload 4, 2) := by decide +kernel
theorem dX4_placeWords_28 : decode cX4_placeWords 28 = .ok (.istore 5, 2) := by decide +kernel
theorem dX4_placeWords_30 : decode cX4_placeWords 30 = .ok (.aload_n 0, 1) := by decide +kernel
theorem dX4_placeWords_31 : decode cX4_placeWords 31 = .ok (.getfield 32, 3) := by decide +kernel
theorem dX4_placeWords_34 : decode cX4_placeWords 34 = .ok (.iload_n 1, 1) := by decide +kernel
theorem dX4_placeWords_35 : decode cX4_placeWords 35 = .ok (.aload_n 0, 1) := by decide +kernel
theorem dX4_placeWords_36 : decode cX4_placeWords 36 = .ok (.getfield 12, 3) := by decide +kernel
theorem dX4_placeWords_39 : decode cX4_placeWords 39 = .ok (.iload_n 3, 1) := by decide +kernel
theorem dX4_placeWords_40 : decode cX4_placeWords 40 = .ok (.aload_n 0, 1) := by decide +kernel
theorem dX4_placeWords_41 : decode cX4_placeWords 41 = .ok (.getfield 21, 3) := by decide +kernel
theorem dX4_placeWords_44 : decode cX4_placeWords 44 = .ok (.iload_n 1, 1) := by decide +kernel
theorem dX4_placeWords_45 : decode cX4_placeWords 45 = .ok (.iload_n 2, 1) := by decide +kernel
theorem dX4_placeWords_46 : decode cX4_placeWords 46 = .ok (.invokevirtual 131, 3) := by decide +kernel
theorem dX4_placeWords_49 : decode cX4_placeWords 49 = .ok (.invokevirtual 164, 3) := by decide +kernel
theorem dX4_placeWords_52 : decode cX4_placeWords 52 = .ok (.iload 5, 2) := by decide +kernel
theorem dX4_placeWords_54 : decode cX4_placeWords 54 = .ok (.iadd, 1) := by decide +kernel
theorem dX4_placeWords_55 : decode cX4_placeWords 55 = .ok (.iastore, 1) := by decide +kernel
theorem dX4_placeWords_56 : decode cX4_placeWords 56 = .ok (.iload_n 1, 1) := by decide +kernel
theorem dX4_placeWords_57 : decode cX4_placeWords 57 = .ok (.iconst 1, 1) := by decide +kernel
theorem dX4_placeWords_58 : decode cX4_placeWords 58 = .ok (.iadd, 1) := by decide +kernel
theorem dX4_placeWords_59 : decode cX4_placeWords 59 = .ok (.istore 6, 2) := by decide +kernel
theorem dX4_placeWords_61 : decode cX4_placeWords 61 = .ok (.iload 6, 2) := by decide +kernel
theorem dX4_placeWords_63 : decode cX4_placeWords 63 = .ok (.iload_n 2, 1) := by decide +kernel
theorem dX4_placeWords_64 : decode cX4_placeWords 64 = .ok (.if_icmp .ge 63, 3) := by decide +kernel
theorem dX4_placeWords_67 : decode cX4_placeWords 67 = .ok (.aload_n 0, 1) := by decide +kernel
theorem dX4_placeWords_68 : decode cX4_placeWords 68 = .ok (.getfield 35, 3) := by decide +kernel
theorem dX4_placeWords_71 : decode cX4_placeWords 71 = .ok (.iload 6, 2) := by decide +kernel
theorem dX4_placeWords_73 : decode cX4_placeWords 73 = .ok (.aload_n 0, 1) := by decide +kernel
theorem dX4_placeWords_74 : decode cX4_placeWords 74 = .ok (.getfield 32, 3) := by decide +kernel
theorem dX4_placeWords_77 : decode cX4_placeWords 77 = .ok (.iload 6, 2) := by decide +kernel
theorem dX4_placeWords_79 : decode cX4_placeWords 79 = .ok (.iconst 1, 1) := by decide +kernel
theorem dX4_placeWords_80 : decode cX4_placeWords 80 = .ok (.isub, 1) := by decide +kernel
theorem dX4_placeWords_81 : decode cX4_placeWords 81 = .ok (.iaload, 1) := by decide +kernel
theorem dX4_placeWords_82 : decode cX4_placeWords 82 = .ok (.aload_n 0, 1) := by decide +kernel
theorem dX4_placeWords_83 : decode cX4_placeWords 83 = .ok (.getfield 21, 3) := by decide +kernel
theorem dX4_placeWords_86 : decode cX4_placeWords 86 = .ok (.getfield 167, 3) := by decide +kernel
theorem dX4_placeWords_89 : decode cX4_placeWords 89 = .ok (.iload 6, 2) := by decide +kernel
theorem dX4_placeWords_91 : decode cX4_placeWords 91 = .ok (.iconst 1, 1) := by decide +kernel
theorem dX4_placeWords_92 : decode cX4_placeWords 92 = .ok (.isub, 1) := by decide +kernel
theorem dX4_placeWords_93 : decode cX4_placeWords 93 = .ok (.iaload, 1) := by decide +kernel
theorem dX4_placeWords_94 : decode cX4_placeWords 94 = .ok (.iadd, 1) := by decide +kernel
theorem dX4_placeWords_95 : decode cX4_placeWords 95 = .ok (.iastore, 1) := by decide +kernel
theorem dX4_placeWords_96 : decode cX4_placeWords 96 = .ok (.aload_n 0, 1) := by decide +kernel
theorem dX4_placeWords_97 : decode cX4_placeWords 97 = .ok (.getfield 32, 3) := by decide +kernel
theorem dX4_placeWords_100 : decode cX4_placeWords 100 = .ok (.iload 6, 2) := by decide +kernel
theorem dX4_placeWords_102 : decode cX4_placeWords 102 = .ok (.aload_n 0, 1) := by decide +kernel
theorem dX4_placeWords_103 : decode cX4_placeWords 103 = .ok (.getfield 35, 3) := by decide +kernel
theorem dX4_placeWords_106 : decode cX4_placeWords 106 = .ok (.iload 6, 2) := by decide +kernel
theorem dX4_placeWords_108 : decode cX4_placeWords 108 = .ok (.iaload, 1) := by decide +kernel
theorem dX4_placeWords_109 : decode cX4_placeWords 109 = .ok (.aload_n 0, 1) := by decide +kernel
theorem dX4_placeWords_110 : decode cX4_placeWords 110 = .ok (.getfield 21, 3) := by decide +kernel
theorem dX4_placeWords_113 : decode cX4_placeWords 113 = .ok (.getfield 170, 3) := by decide +kernel
theorem dX4_placeWords_116 : decode cX4_placeWords 116 = .ok (.iload 6, 2) := by decide +kernel
theorem dX4_placeWords_118 : decode cX4_placeWords 118 = .ok (.iaload, 1) := by decide +kernel
theorem dX4_placeWords_119 : decode cX4_placeWords 119 = .ok (.iadd, 1) := by decide +kernel
theorem dX4_placeWords_120 : decode cX4_placeWords 120 = .ok (.iastore, 1) := by decide +kernel
theorem dX4_placeWords_121 : decode cX4_placeWords 121 = .ok (.iinc 6 1, 3) := by decide +kernel
theorem dX4_placeWords_124 : decode cX4_placeWords 124 = .ok (.goto (-63), 3) := by decide +kernel
theorem dX4_placeWords_127 : decode cX4_placeWords 127 = .ok (.return_, 1) := by decide +kernel
theorem dX4_chainFromAbove_0 : decode cX4_chainFromAbove 0 = .ok (.aload_n 0, 1) := by decide +kernel
theorem dX4_chainFromAbove_1 : decode cX4_chainFromAbove 1 = .ok (.getfield 29, 3) := by decide +kernel
theorem dX4_chainFromAbove_4 : decode cX4_chainFromAbove 4 = .ok (.iload_n 1, 1) := by decide +kernel
theorem dX4_chainFromAbove_5 : decode cX4_chainFromAbove 5 = .ok (.iaload, 1) := by decide +kernel
theorem dX4_chainFromAbove_6 : decode cX4_chainFromAbove 6 = .ok (.istore_n 2, 1) := by decide +kernel
theorem dX4_chainFromAbove_7 : decode cX4_chainFromAbove 7 = .ok (.iload_n 1, 1) := by decide +kernel
theorem dX4_chainFromAbove_8 : decode cX4_chainFromAbove 8 = .ok (.ifCond .le 14, 3) := by decide +kernel
theorem dX4_chainFromAbove_11 : decode cX4_chainFromAbove 11 = .ok (.aload_n 0, 1) := by decide +kernel
theorem dX4_chainFromAbove_12 : decode cX4_chainFromAbove 12 = .ok (.getfield 29, 3) := by decide +kernel
theorem dX4_chainFromAbove_15 : decode cX4_chainFromAbove 15 = .ok (.iload_n 1, 1) := by decide +kernel
theorem dX4_chainFromAbove_16 : decode cX4_chainFromAbove 16 = .ok (.iconst 1, 1) := by decide +kernel
theorem dX4_chainFromAbove_17 : decode cX4_chainFromAbove 17 = .ok (.isub, 1) := by decide +kernel
theorem dX4_chainFromAbove_18 : decode cX4_chainFromAbove 18 = .ok (.iaload, 1) := by decide +kernel
theorem dX4_chainFromAbove_19 : decode cX4_chainFromAbove 19 = .ok (.goto 4, 3) := by decide +kernel
theorem dX4_chainFromAbove_22 : decode cX4_chainFromAbove 22 = .ok (.iload_n 2, 1) := by decide +kernel
theorem dX4_chainFromAbove_23 : decode cX4_chainFromAbove 23 = .ok (.istore_n 3, 1) := by decide +kernel
theorem dX4_chainFromAbove_24 : decode cX4_chainFromAbove 24 = .ok (.iconst 0, 1) := by decide +kernel
theorem dX4_chainFromAbove_25 : decode cX4_chainFromAbove 25 = .ok (.istore 4, 2) := by decide +kernel
theorem dX4_chainFromAbove_27 : decode cX4_chainFromAbove 27 = .ok (.iload_n 2, 1) := by decide +kernel
theorem dX4_chainFromAbove_28 : decode cX4_chainFromAbove 28 = .ok (.iconst 1, 1) := by decide +kernel
theorem dX4_chainFromAbove_29 : decode cX4_chainFromAbove 29 = .ok (.iadd, 1) := by decide +kernel
theorem dX4_chainFromAbove_30 : decode cX4_chainFromAbove 30 = .ok (.istore 5, 2) := by decide +kernel
theorem dX4_chainFromAbove_32 : decode cX4_chainFromAbove 32 = .ok (.iload 5, 2) := by decide +kernel
theorem dX4_chainFromAbove_34 : decode cX4_chainFromAbove 34 = .ok (.aload_n 0, 1) := by decide +kernel
theorem dX4_chainFromAbove_35 : decode cX4_chainFromAbove 35 = .ok (.getfield 29, 3) := by decide +kernel
theorem dX4_chainFromAbove_38 : decode cX4_chainFromAbove 38 = .ok (.iload_n 1, 1) := by decide +kernel
theorem dX4_chainFromAbove_39 : decode cX4_chainFromAbove 39 = .ok (.iconst 1, 1) := by decide +kernel
theorem dX4_chainFromAbove_40 : decode cX4_chainFromAbove 40 = .ok (.iadd, 1) := by decide +kernel
theorem dX4_chainFromAbove_41 : decode cX4_chainFromAbove 41 = .ok (.iaload, 1) := by decide +kernel
theorem dX4_chainFromAbove_42 : decode cX4_chainFromAbove 42 = .ok (.if_icmp .ge 44, 3) := by decide +kernel
theorem dX4_chainFromAbove_45 : decode cX4_chainFromAbove 45 = .ok (.aload_n 0, 1) := by decide +kernel
theorem dX4_chainFromAbove_46 : decode cX4_chainFromAbove 46 = .ok (.getfield 38, 3) := by decide +kernel
theorem dX4_chainFromAbove_49 : decode cX4_chainFromAbove 49 = .ok (.iload 5, 2) := by decide +kernel
theorem dX4_chainFromAbove_51 : decode cX4_chainFromAbove 51 = .ok (.iconst 1, 1) := by decide +kernel
theorem dX4_chainFromAbove_52 : decode cX4_chainFromAbove 52 = .ok (.aload_n 0, 1) := by decide +kernel
theorem dX4_chainFromAbove_53 : decode cX4_chainFromAbove 53 = .ok (.iload 5, 2) := by decide +kernel
theorem dX4_chainFromAbove_55 : decode cX4_chainFromAbove 55 = .ok (.iload_n 3, 1) := by decide +kernel
theorem dX4_chainFromAbove_56 : decode cX4_chainFromAbove 56 = .ok (.iload_n 2, 1) := by decide +kernel
theorem dX4_chainFromAbove_57 : decode cX4_chainFromAbove 57 = .ok (.aload_n 0, 1) := by decide +kernel
theorem dX4_chainFromAbove_58 : decode cX4_chainFromAbove 58 = .ok (.getfield 38, 3) := by decide +kernel
theorem dX4_chainFromAbove_61 : decode cX4_chainFromAbove 61 = .ok (.invokevirtual 173, 3) := by decide +kernel
theorem dX4_chainFromAbove_64 : decode cX4_chainFromAbove 64 = .ok (.iadd, 1) := by decide +kernel
theorem dX4_chainFromAbove_65 : decode cX4_chainFromAbove 65 = .ok (.iastore, 1) := by decide +kernel
theorem dX4_chainFromAbove_66 : decode cX4_chainFromAbove 66 = .ok (.iload 4, 2) := by decide +kernel
theorem dX4_chainFromAbove_68 : decode cX4_chainFromAbove 68 = .ok (.aload_n 0, 1) := by decide +kernel
theorem dX4_chainFromAbove_69 : decode cX4_chainFromAbove 69 = .ok (.getfield 38, 3) := by decide +kernel
theorem dX4_chainFromAbove_72 : decode cX4_chainFromAbove 72 = .ok (.iload 5, 2) := by decide +kernel
theorem dX4_chainFromAbove_74 : decode cX4_chainFromAbove 74 = .ok (.iaload, 1) := by decide +kernel
theorem dX4_chainFromAbove_75 : decode cX4_chainFromAbove 75 = .ok (.invokestatic 177, 3) := by decide +kernel
theorem dX4_chainFromAbove_78 : decode cX4_chainFromAbove 78 = .ok (.istore 4, 2) := by decide +kernel
theorem dX4_chainFromAbove_80 : decode cX4_chainFromAbove 80 = .ok (.iinc 5 1, 3) := by decide +kernel
theorem dX4_chainFromAbove_83 : decode cX4_chainFromAbove 83 = .ok (.goto (-51), 3) := by decide +kernel
theorem dX4_chainFromAbove_86 : decode cX4_chainFromAbove 86 = .ok (.iload 4, 2) := by decide +kernel
theorem dX4_chainFromAbove_88 : decode cX4_chainFromAbove 88 = .ok (.ireturn, 1) := by decide +kernel
theorem dX4_chainFromBelow_0 : decode cX4_chainFromBelow 0 = .ok (.aload_n 0, 1) := by decide +kernel
theorem dX4_chainFromBelow_1 : decode cX4_chainFromBelow 1 = .ok (.getfield 29, 3) := by decide +kernel
theorem dX4_chainFromBelow_4 : decode cX4_chainFromBelow 4 = .ok (.iload_n 1, 1) := by decide +kernel
theorem dX4_chainFromBelow_5 : decode cX4_chainFromBelow 5 = .ok (.iconst 1, 1) := by decide +kernel
theorem dX4_chainFromBelow_6 : decode cX4_chainFromBelow 6 = .ok (.iadd, 1) := by decide +kernel
theorem dX4_chainFromBelow_7 : decode cX4_chainFromBelow 7 = .ok (.iaload, 1) := by decide +kernel
theorem dX4_chainFromBelow_8 : decode cX4_chainFromBelow 8 = .ok (.istore_n 3, 1) := by decide +kernel
theorem dX4_chainFromBelow_9 : decode cX4_chainFromBelow 9 = .ok (.iload_n 1, 1) := by decide +kernel
theorem dX4_chainFromBelow_10 : decode cX4_chainFromBelow 10 = .ok (.iconst 1, 1) := by decide +kernel
theorem dX4_chainFromBelow_11 : decode cX4_chainFromBelow 11 = .ok (.iadd, 1) := by decide +kernel
theorem dX4_chainFromBelow_12 : decode cX4_chainFromBelow 12 = .ok (.iload_n 2, 1) := by decide +kernel
theorem dX4_chainFromBelow_13 : decode cX4_chainFromBelow 13 = .ok (.if_icmp .ge 14, 3) := by decide +kernel
theorem dX4_chainFromBelow_16 : decode cX4_chainFromBelow 16 = .ok (.aload_n 0, 1) := by decide +kernel
theorem dX4_chainFromBelow_17 : decode cX4_chainFromBelow 17 = .ok (.getfield 29, 3) := by decide +kernel
theorem dX4_chainFromBelow_20 : decode cX4_chainFromBelow 20 = .ok (.iload_n 1, 1) := by decide +kernel
theorem dX4_chainFromBelow_21 : decode cX4_chainFromBelow 21 = .ok (.iconst 2, 1) := by decide +kernel
theorem dX4_chainFromBelow_22 : decode cX4_chainFromBelow 22 = .ok (.iadd, 1) := by decide +kernel
theorem dX4_chainFromBelow_23 : decode cX4_chainFromBelow 23 = .ok (.iaload, 1) := by decide +kernel
theorem dX4_chainFromBelow_24 : decode cX4_chainFromBelow 24 = .ok (.goto 4, 3) := by decide +kernel
theorem dX4_chainFromBelow_27 : decode cX4_chainFromBelow 27 = .ok (.iload_n 3, 1) := by decide +kernel
theorem dX4_chainFromBelow_28 : decode cX4_chainFromBelow 28 = .ok (.istore 4, 2) := by decide +kernel
theorem dX4_chainFromBelow_30 : decode cX4_chainFromBelow 30 = .ok (.aload_n 0, 1) := by decide +kernel
theorem dX4_chainFromBelow_31 : decode cX4_chainFromBelow 31 = .ok (.getfield 29, 3) := by decide +kernel
theorem dX4_chainFromBelow_34 : decode cX4_chainFromBelow 34 = .ok (.iload_n 1, 1) := by decide +kernel
theorem dX4_chainFromBelow_35 : decode cX4_chainFromBelow 35 = .ok (.iaload, 1) := by decide +kernel
theorem dX4_chainFromBelow_36 : decode cX4_chainFromBelow 36 = .ok (.iconst 1, 1) := by decide +kernel
theorem dX4_chainFromBelow_37 : decode cX4_chainFromBelow 37 = .ok (.iadd, 1) := by decide +kernel
theorem dX4_chainFromBelow_38 : decode cX4_chainFromBelow 38 = .ok (.istore 5, 2) := by decide +kernel
theorem dX4_chainFromBelow_40 : decode cX4_chainFromBelow 40 = .ok (.iload 5, 2) := by decide +kernel
theorem dX4_chainFromBelow_42 : decode cX4_chainFromBelow 42 = .ok (.iload_n 3, 1) := by decide +kernel
theorem dX4_chainFromBelow_43 : decode cX4_chainFromBelow 43 = .ok (.if_icmp .ge 31, 3) := by decide +kernel
theorem dX4_chainFromBelow_46 : decode cX4_chainFromBelow 46 = .ok (.aload_n 0, 1) := by decide +kernel
theorem dX4_chainFromBelow_47 : decode cX4_chainFromBelow 47 = .ok (.getfield 41, 3) := by decide +kernel
theorem dX4_chainFromBelow_50 : decode cX4_chainFromBelow 50 = .ok (.iload 5, 2) := by decide +kernel
theorem dX4_chainFromBelow_52 : decode cX4_chainFromBelow 52 = .ok (.iconst 1, 1) := by decide +kernel
theorem dX4_chainFromBelow_53 : decode cX4_chainFromBelow 53 = .ok (.aload_n 0, 1) := by decide +kernel
theorem dX4_chainFromBelow_54 : decode cX4_chainFromBelow 54 = .ok (.iload 5, 2) := by decide +kernel
theorem dX4_chainFromBelow_56 : decode cX4_chainFromBelow 56 = .ok (.iload_n 3, 1) := by decide +kernel
theorem dX4_chainFromBelow_57 : decode cX4_chainFromBelow 57 = .ok (.iload 4, 2) := by decide +kernel
theorem dX4_chainFromBelow_59 : decode cX4_chainFromBelow 59 = .ok (.aload_n 0, 1) := by decide +kernel
theorem dX4_chainFromBelow_60 : decode cX4_chainFromBelow 60 = .ok (.getfield 41, 3) := by decide +kernel
theorem dX4_chainFromBelow_63 : decode cX4_chainFromBelow 63 = .ok (.invokevirtual 173, 3) := by decide +kernel
theorem dX4_chainFromBelow_66 : decode cX4_chainFromBelow 66 = .ok (.iadd, 1) := by decide +kernel
theorem dX4_chainFromBelow_67 : decode cX4_chainFromBelow 67 = .ok (.iastore, 1) := by decide +kernel
theorem dX4_chainFromBelow_68 : decode cX4_chainFromBelow 68 = .ok (.iinc 5 1, 3) := by decide +kernel
theorem dX4_chainFromBelow_71 : decode cX4_chainFromBelow 71 = .ok (.goto (-31), 3) := by decide +kernel
theorem dX4_chainFromBelow_74 : decode cX4_chainFromBelow 74 = .ok (.return_, 1) := by decide +kernel
theorem dX4_longestTouching_0 : decode cX4_longestTouching 0 = .ok (.iconst 0, 1) := by decide +kernel
theorem dX4_longestTouching_1 : decode cX4_longestTouching 1 = .ok (.istore 5, 2) := by decide +kernel
theorem dX4_longestTouching_3 : decode cX4_longestTouching 3 = .ok (.iload_n 2, 1) := by decide +kernel
theorem dX4_longestTouching_4 : decode cX4_longestTouching 4 = .ok (.iconst 1, 1) := by decide +kernel
theorem dX4_longestTouching_5 : decode cX4_longestTouching 5 = .ok (.iadd, 1) := by decide +kernel
theorem dX4_longestTouching_6 : decode cX4_longestTouching 6 = .ok (.istore 6, 2) := by decide +kernel
theorem dX4_longestTouching_8 : decode cX4_longestTouching 8 = .ok (.iload 6, 2) := by decide +kernel
theorem dX4_longestTouching_10 : decode cX4_longestTouching 10 = .ok (.iload_n 3, 1) := by decide +kernel
theorem dX4_longestTouching_11 : decode cX4_longestTouching 11 = .ok (.if_icmp .ge 58, 3) := by decide +kernel
theorem dX4_longestTouching_14 : decode cX4_longestTouching 14 = .ok (.aload_n 0, 1) := by decide +kernel
theorem dX4_longestTouching_15 : decode cX4_longestTouching 15 = .ok (.getfield 35, 3) := by decide +kernel
theorem dX4_longestTouching_18 : decode cX4_longestTouching 18 = .ok (.iload 6, 2) := by decide +kernel
theorem dX4_longestTouching_20 : decode cX4_longestTouching 20 = .ok (.iaload, 1) := by decide +kernel
theorem dX4_longestTouching_21 : decode cX4_longestTouching 21 = .ok (.aload_n 0, 1) := by decide +kernel
theorem dX4_longestTouching_22 : decode cX4_longestTouching 22 = .ok (.getfield 32, 3) := by decide +kernel
theorem dX4_longestTouching_25 : decode cX4_longestTouching 25 = .ok (.iload_n 1, 1) := by decide +kernel
theorem dX4_longestTouching_26 : decode cX4_longestTouching 26 = .ok (.iaload, 1) := by decide +kernel
theorem dX4_longestTouching_27 : decode cX4_longestTouching 27 = .ok (.if_icmp .ge 36, 3) := by decide +kernel
theorem dX4_longestTouching_30 : decode cX4_longestTouching 30 = .ok (.aload_n 0, 1) := by decide +kernel
theorem dX4_longestTouching_31 : decode cX4_longestTouching 31 = .ok (.getfield 35, 3) := by decide +kernel
theorem dX4_longestTouching_34 : decode cX4_longestTouching 34 = .ok (.iload_n 1, 1) := by decide +kernel
theorem dX4_longestTouching_35 : decode cX4_longestTouching 35 = .ok (.iaload, 1) := by decide +kernel
theorem dX4_longestTouching_36 : decode cX4_longestTouching 36 = .ok (.aload_n 0, 1) := by decide +kernel
theorem dX4_longestTouching_37 : decode cX4_longestTouching 37 = .ok (.getfield 32, 3) := by decide +kernel
theorem dX4_longestTouching_40 : decode cX4_longestTouching 40 = .ok (.iload 6, 2) := by decide +kernel
theorem dX4_longestTouching_42 : decode cX4_longestTouching 42 = .ok (.iaload, 1) := by decide +kernel
theorem dX4_longestTouching_43 : decode cX4_longestTouching 43 = .ok (.if_icmp .ge 20, 3) := by decide +kernel
theorem dX4_longestTouching_46 : decode cX4_longestTouching 46 = .ok (.aload 4, 2) := by decide +kernel
theorem dX4_longestTouching_48 : decode cX4_longestTouching 48 = .ok (.iload 6, 2) := by decide +kernel
theorem dX4_longestTouching_50 : decode cX4_longestTouching 50 = .ok (.iaload, 1) := by decide +kernel
theorem dX4_longestTouching_51 : decode cX4_longestTouching 51 = .ok (.iload 5, 2) := by decide +kernel
theorem dX4_longestTouching_53 : decode cX4_longestTouching 53 = .ok (.if_icmp .le 10, 3) := by decide +kernel
theorem dX4_longestTouching_56 : decode cX4_longestTouching 56 = .ok (.aload 4, 2) := by decide +kernel
theorem dX4_longestTouching_58 : decode cX4_longestTouching 58 = .ok (.iload 6, 2) := by decide +kernel
theorem dX4_longestTouching_60 : decode cX4_longestTouching 60 = .ok (.iaload, 1) := by decide +kernel
theorem dX4_longestTouching_61 : decode cX4_longestTouching 61 = .ok (.istore 5, 2) := by decide +kernel
theorem dX4_longestTouching_63 : decode cX4_longestTouching 63 = .ok (.iinc 6 1, 3) := by decide +kernel
theorem dX4_longestTouching_66 : decode cX4_longestTouching 66 = .ok (.goto (-58), 3) := by decide +kernel
theorem dX4_longestTouching_69 : decode cX4_longestTouching 69 = .ok (.iload 5, 2) := by decide +kernel
theorem dX4_longestTouching_71 : decode cX4_longestTouching 71 = .ok (.ireturn, 1) := by decide +kernel
theorem dX4_describeBest_0 : decode cX4_describeBest 0 = .ok (.new 182, 3) := by decide +kernel
theorem dX4_describeBest_3 : decode cX4_describeBest 3 = .ok (.dup, 1) := by decide +kernel
theorem dX4_describeBest_4 : decode cX4_describeBest 4 = .ok (.aload_n 0, 1) := by decide +kernel
theorem dX4_describeBest_5 : decode cX4_describeBest 5 = .ok (.getfield 155, 3) := by decide +kernel
theorem dX4_describeBest_8 : decode cX4_describeBest 8 = .ok (.aload_n 0, 1) := by decide +kernel
theorem dX4_describeBest_9 : decode cX4_describeBest 9 = .ok (.getfield 21, 3) := by decide +kernel
theorem dX4_describeBest_12 : decode cX4_describeBest 12 = .ok (.getfield 86, 3) := by decide +kernel
theorem dX4_describeBest_15 : decode cX4_describeBest 15 = .ok (.invokespecial 184, 3) := by decide +kernel
theorem dX4_describeBest_18 : decode cX4_describeBest 18 = .ok (.astore_n 2, 1) := by decide +kernel
theorem dX4_describeBest_19 : decode cX4_describeBest 19 = .ok (.aload_n 0, 1) := by decide +kernel
theorem dX4_describeBest_20 : decode cX4_describeBest 20 = .ok (.getfield 44, 3) := by decide +kernel
theorem dX4_describeBest_23 : decode cX4_describeBest 23 = .ok (.iconst 0, 1) := by decide +kernel
theorem dX4_describeBest_24 : decode cX4_describeBest 24 = .ok (.aload_n 0, 1) := by decide +kernel
theorem dX4_describeBest_25 : decode cX4_describeBest 25 = .ok (.getfield 29, 3) := by decide +kernel
theorem dX4_describeBest_28 : decode cX4_describeBest 28 = .ok (.iconst 0, 1) := by decide +kernel
theorem dX4_describeBest_29 : decode cX4_describeBest 29 = .ok (.aload_n 0, 1) := by decide +kernel
theorem dX4_describeBest_30 : decode cX4_describeBest 30 = .ok (.getfield 29, 3) := by decide +kernel
theorem dX4_describeBest_33 : decode cX4_describeBest 33 = .ok (.arraylength, 1) := by decide +kernel
theorem dX4_describeBest_34 : decode cX4_describeBest 34 = .ok (.invokestatic 158, 3) := by decide +kernel
theorem dX4_describeBest_37 : decode cX4_describeBest 37 = .ok (.aload_n 0, 1) := by decide +kernel
theorem dX4_describeBest_38 : decode cX4_describeBest 38 = .ok (.getfield 74, 3) := by decide +kernel
theorem dX4_describeBest_41 : decode cX4_describeBest 41 = .ok (.istore_n 3, 1) := by decide +kernel
theorem dX4_describeBest_42 : decode cX4_describeBest 42 = .ok (.iconst 0, 1) := by decide +kernel
theorem dX4_describeBest_43 : decode cX4_describeBest 43 = .ok (.istore 4, 2) := by decide +kernel
theorem dX4_describeBest_45 : decode cX4_describeBest 45 = .ok (.iconst 0, 1) := by decide +kernel
theorem dX4_describeBest_46 : decode cX4_describeBest 46 = .ok (.istore 5, 2) := by decide +kernel
theorem dX4_describeBest_48 : decode cX4_describeBest 48 = .ok (.iload 5, 2) := by decide +kernel
theorem dX4_describeBest_50 : decode cX4_describeBest 50 = .ok (.aload_n 0, 1) := by decide +kernel
theorem dX4_describeBest_51 : decode cX4_describeBest 51 = .ok (.getfield 155, 3) := by decide +kernel
theorem dX4_describeBest_54 : decode cX4_describeBest 54 = .ok (.if_icmp .ge 52, 3) := by decide +kernel
theorem dX4_describeBest_57 : decode cX4_describeBest 57 = .ok (.aload_n 0, 1) := by decide +kernel
theorem dX4_describeBest_58 : decode cX4_describeBest 58 = .ok (.aload_n 2, 1) := by decide +kernel
theorem dX4_describeBest_59 : decode cX4_describeBest 59 = .ok (.iload 5, 2) := by decide +kernel
theorem dX4_describeBest_61 : decode cX4_describeBest 61 = .ok (.iload_n 3, 1) := by decide +kernel
theorem dX4_describeBest_62 : decode cX4_describeBest 62 = .ok (.invokevirtual 186, 3) := by decide +kernel
theorem dX4_describeBest_65 : decode cX4_describeBest 65 = .ok (.iload 4, 2) := by decide +kernel
theorem dX4_describeBest_67 : decode cX4_describeBest 67 = .ok (.aload_n 0, 1) := by decide +kernel
theorem dX4_describeBest_68 : decode cX4_describeBest 68 = .ok (.iload 5, 2) := by decide +kernel
theorem dX4_describeBest_70 : decode cX4_describeBest 70 = .ok (.invokevirtual 151, 3) := by decide +kernel
theorem dX4_describeBest_73 : decode cX4_describeBest 73 = .ok (.invokestatic 177, 3) := by decide +kernel
theorem dX4_describeBest_76 : decode cX4_describeBest 76 = .ok (.istore 4, 2) := by decide +kernel
theorem dX4_describeBest_78 : decode cX4_describeBest 78 = .ok (.aload_n 0, 1) := by decide +kernel
theorem dX4_describeBest_79 : decode cX4_describeBest 79 = .ok (.aload_n 0, 1) := by decide +kernel
theorem dX4_describeBest_80 : decode cX4_describeBest 80 = .ok (.getfield 29, 3) := by decide +kernel
theorem dX4_describeBest_83 : decode cX4_describeBest 83 = .ok (.iload 5, 2) := by decide +kernel
theorem dX4_describeBest_85 : decode cX4_describeBest 85 = .ok (.iaload, 1) := by decide +kernel
theorem dX4_describeBest_86 : decode cX4_describeBest 86 = .ok (.aload_n 0, 1) := by decide +kernel
theorem dX4_describeBest_87 : decode cX4_describeBest 87 = .ok (.getfield 29, 3) := by decide +kernel
theorem dX4_describeBest_90 : decode cX4_describeBest 90 = .ok (.iload 5, 2) := by decide +kernel
theorem dX4_describeBest_92 : decode cX4_describeBest 92 = .ok (.iconst 1, 1) := by decide +kernel
theorem dX4_describeBest_93 : decode cX4_describeBest 93 = .ok (.iadd, 1) := by decide +kernel
theorem dX4_describeBest_94 : decode cX4_describeBest 94 = .ok (.iaload, 1) := by decide +kernel
theorem dX4_describeBest_95 : decode cX4_describeBest 95 = .ok (.iload_n 3, 1) := by decide +kernel
theorem dX4_describeBest_96 : decode cX4_describeBest 96 = .ok (.invokevirtual 128, 3) := by decide +kernel
theorem dX4_describeBest_99 : decode cX4_describeBest 99 = .ok (.istore_n 3, 1) := by decide +kernel
theorem dX4_describeBest_100 : decode cX4_describeBest 100 = .ok (.iinc 5 1, 3) := by decide +kernel
theorem dX4_describeBest_103 : decode cX4_describeBest 103 = .ok (.goto (-55), 3) := by decide +kernel
theorem dX4_describeBest_106 : decode cX4_describeBest 106 = .ok (.aload_n 0, 1) := by decide +kernel
theorem dX4_describeBest_107 : decode cX4_describeBest 107 = .ok (.getfield 155, 3) := by decide +kernel
theorem dX4_describeBest_110 : decode cX4_describeBest 110 = .ok (.iconst 1, 1) := by decide +kernel
theorem dX4_describeBest_111 : decode cX4_describeBest 111 = .ok (.isub, 1) := by decide +kernel
theorem dX4_describeBest_112 : decode cX4_describeBest 112 = .ok (.istore 5, 2) := by decide +kernel
theorem dX4_describeBest_114 : decode cX4_describeBest 114 = .ok (.iload 5, 2) := by decide +kernel
theorem dX4_describeBest_116 : decode cX4_describeBest 116 = .ok (.ifCond .lt 26, 3) := by decide +kernel
theorem dX4_describeBest_119 : decode cX4_describeBest 119 = .ok (.aload_n 0, 1) := by decide +kernel
theorem dX4_describeBest_120 : decode cX4_describeBest 120 = .ok (.iload 5, 2) := by decide +kernel
theorem dX4_describeBest_122 : decode cX4_describeBest 122 = .ok (.aload_n 0, 1) := by decide +kernel
theorem dX4_describeBest_123 : decode cX4_describeBest 123 = .ok (.getfield 155, 3) := by decide +kernel
theorem dX4_describeBest_126 : decode cX4_describeBest 126 = .ok (.invokevirtual 190, 3) := by decide +kernel
theorem dX4_describeBest_129 : decode cX4_describeBest 129 = .ok (.aload_n 0, 1) := by decide +kernel
theorem dX4_describeBest_130 : decode cX4_describeBest 130 = .ok (.aload_n 2, 1) := by decide +kernel
theorem dX4_describeBest_131 : decode cX4_describeBest 131 = .ok (.iload 5, 2) := by decide +kernel
theorem dX4_describeBest_133 : decode cX4_describeBest 133 = .ok (.invokevirtual 193, 3) := by decide +kernel
theorem dX4_describeBest_136 : decode cX4_describeBest 136 = .ok (.iinc 5 (-1), 3) := by decide +kernel
theorem dX4_describeBest_139 : decode cX4_describeBest 139 = .ok (.goto (-25), 3) := by decide +kernel
theorem dX4_describeBest_142 : decode cX4_describeBest 142 = .ok (.aload_n 2, 1) := by decide +kernel
theorem dX4_describeBest_143 : decode cX4_describeBest 143 = .ok (.iload_n 1, 1) := by decide +kernel
theorem dX4_describeBest_144 : decode cX4_describeBest 144 = .ok (.aload_n 0, 1) := by decide +kernel
theorem dX4_describeBest_145 : decode cX4_describeBest 145 = .ok (.getfield 67, 3) := by decide +kernel
theorem dX4_describeBest_148 : decode cX4_describeBest 148 = .ok (.iload 4, 2) := by decide +kernel
theorem dX4_describeBest_150 : decode cX4_describeBest 150 = .ok (.iload_n 3, 1) := by decide +kernel
theorem dX4_describeBest_151 : decode cX4_describeBest 151 = .ok (.aload_n 0, 1) := by decide +kernel
theorem dX4_describeBest_152 : decode cX4_describeBest 152 = .ok (.getfield 77, 3) := by decide +kernel
theorem dX4_describeBest_155 : decode cX4_describeBest 155 = .ok (.isub, 1) := by decide +kernel
theorem dX4_describeBest_156 : decode cX4_describeBest 156 = .ok (.invokevirtual 197, 3) := by decide +kernel
theorem dX4_describeBest_159 : decode cX4_describeBest 159 = .ok (.aload_n 2, 1) := by decide +kernel
theorem dX4_describeBest_160 : decode cX4_describeBest 160 = .ok (.areturn, 1) := by decide +kernel
theorem dX4_describeLine_0 : decode cX4_describeLine 0 = .ok (.aload_n 0, 1) := by decide +kernel
theorem dX4_describeLine_1 : decode cX4_describeLine 1 = .ok (.getfield 29, 3) := by decide +kernel
theorem dX4_describeLine_4 : decode cX4_describeLine 4 = .ok (.iload_n 2, 1) := by decide +kernel
theorem dX4_describeLine_5 : decode cX4_describeLine 5 = .ok (.iaload, 1) := by decide +kernel
theorem dX4_describeLine_6 : decode cX4_describeLine 6 = .ok (.istore 4, 2) := by decide +kernel
theorem dX4_describeLine_8 : decode cX4_describeLine 8 = .ok (.aload_n 0, 1) := by decide +kernel
theorem dX4_describeLine_9 : decode cX4_describeLine 9 = .ok (.getfield 29, 3) := by decide +kernel
theorem dX4_describeLine_12 : decode cX4_describeLine 12 = .ok (.iload_n 2, 1) := by decide +kernel
theorem dX4_describeLine_13 : decode cX4_describeLine 13 = .ok (.iconst 1, 1) := by decide +kernel
theorem dX4_describeLine_14 : decode cX4_describeLine 14 = .ok (.iadd, 1) := by decide +kernel
theorem dX4_describeLine_15 : decode cX4_describeLine 15 = .ok (.iaload, 1) := by decide +kernel
theorem dX4_describeLine_16 : decode cX4_describeLine 16 = .ok (.istore 5, 2) := by decide +kernel
theorem dX4_describeLine_18 : decode cX4_describeLine 18 = .ok (.aload_n 0, 1) := by decide +kernel
theorem dX4_describeLine_19 : decode cX4_describeLine 19 = .ok (.getfield 21, 3) := by decide +kernel
theorem dX4_describeLine_22 : decode cX4_describeLine 22 = .ok (.iload 4, 2) := by decide +kernel
theorem dX4_describeLine_24 : decode cX4_describeLine 24 = .ok (.iload 5, 2) := by decide +kernel
theorem dX4_describeLine_26 : decode cX4_describeLine 26 = .ok (.invokevirtual 131, 3) := by decide +kernel
theorem dX4_describeLine_29 : decode cX4_describeLine 29 = .ok (.istore 6, 2) := by decide +kernel
theorem dX4_describeLine_31 : decode cX4_describeLine 31 = .ok (.aload_n 0, 1) := by decide +kernel
theorem dX4_describeLine_32 : decode cX4_describeLine 32 = .ok (.iload 4, 2) := by decide +kernel
theorem dX4_describeLine_34 : decode cX4_describeLine 34 = .ok (.iload 5, 2) := by decide +kernel
theorem dX4_describeLine_36 : decode cX4_describeLine 36 = .ok (.iload_n 3, 1) := by decide +kernel
theorem dX4_describeLine_37 : decode cX4_describeLine 37 = .ok (.invokevirtual 124, 3) := by decide +kernel
theorem dX4_describeLine_40 : decode cX4_describeLine 40 = .ok (.istore 7, 2) := by decide +kernel
theorem dX4_describeLine_42 : decode cX4_describeLine 42 = .ok (.aload_n 0, 1) := by decide +kernel
theorem dX4_describeLine_43 : decode cX4_describeLine 43 = .ok (.iload 4, 2) := by decide +kernel
theorem dX4_describeLine_45 : decode cX4_describeLine 45 = .ok (.iload 5, 2) := by decide +kernel
theorem dX4_describeLine_47 : decode cX4_describeLine 47 = .ok (.iload_n 3, 1) := by decide +kernel
theorem dX4_describeLine_48 : decode cX4_describeLine 48 = .ok (.iload 7, 2) := by decide +kernel
theorem dX4_describeLine_50 : decode cX4_describeLine 50 = .ok (.invokevirtual 148, 3) := by decide +kernel
theorem dX4_describeLine_53 : decode cX4_describeLine 53 = .ok (.iload_n 2, 1) := by decide +kernel
theorem dX4_describeLine_54 : decode cX4_describeLine 54 = .ok (.bipush 7, 2) := by decide +kernel
theorem dX4_describeLine_56 : decode cX4_describeLine 56 = .ok (.imul, 1) := by decide +kernel
theorem dX4_describeLine_57 : decode cX4_describeLine 57 = .ok (.istore 8, 2) := by decide +kernel
theorem dX4_describeLine_59 : decode cX4_describeLine 59 = .ok (.aload_n 1, 1) := by decide +kernel
theorem dX4_describeLine_60 : decode cX4_describeLine 60 = .ok (.getfield 200, 3) := by decide +kernel
theorem dX4_describeLine_63 : decode cX4_describeLine 63 = .ok (.iload 8, 2) := by decide +kernel
theorem dX4_describeLine_65 : decode cX4_describeLine 65 = .ok (.iload 4, 2) := by decide +kernel
theorem dX4_describeLine_67 : decode cX4_describeLine 67 = .ok (.iastore, 1) := by decide +kernel
theorem dX4_describeLine_68 : decode cX4_describeLine 68 = .ok (.aload_n 1, 1) := by decide +kernel
theorem dX4_describeLine_69 : decode cX4_describeLine 69 = .ok (.getfield 200, 3) := by decide +kernel
theorem dX4_describeLine_72 : decode cX4_describeLine 72 = .ok (.iload 8, 2) := by decide +kernel
theorem dX4_describeLine_74 : decode cX4_describeLine 74 = .ok (.iconst 1, 1) := by decide +kernel
theorem dX4_describeLine_75 : decode cX4_describeLine 75 = .ok (.iadd, 1) := by decide +kernel
theorem dX4_describeLine_76 : decode cX4_describeLine 76 = .ok (.iload 5, 2) := by decide +kernel
theorem dX4_describeLine_78 : decode cX4_describeLine 78 = .ok (.iload 4, 2) := by decide +kernel
theorem dX4_describeLine_80 : decode cX4_describeLine 80 = .ok (.isub, 1) := by decide +kernel
theorem dX4_describeLine_81 : decode cX4_describeLine 81 = .ok (.iastore, 1) := by decide +kernel
theorem dX4_describeLine_82 : decode cX4_describeLine 82 = .ok (.aload_n 1, 1) := by decide +kernel
theorem dX4_describeLine_83 : decode cX4_describeLine 83 = .ok (.getfield 200, 3) := by decide +kernel
theorem dX4_describeLine_86 : decode cX4_describeLine 86 = .ok (.iload 8, 2) := by decide +kernel
theorem dX4_describeLine_88 : decode cX4_describeLine 88 = .ok (.iconst 2, 1) := by decide +kernel
theorem dX4_describeLine_89 : decode cX4_describeLine 89 = .ok (.iadd, 1) := by decide +kernel
theorem dX4_describeLine_90 : decode cX4_describeLine 90 = .ok (.iload_n 3, 1) := by decide +kernel
theorem dX4_describeLine_91 : decode cX4_describeLine 91 = .ok (.iastore, 1) := by decide +kernel
theorem dX4_describeLine_92 : decode cX4_describeLine 92 = .ok (.aload_n 1, 1) := by decide +kernel
theorem dX4_describeLine_93 : decode cX4_describeLine 93 = .ok (.getfield 200, 3) := by decide +kernel
theorem dX4_describeLine_96 : decode cX4_describeLine 96 = .ok (.iload 8, 2) := by decide +kernel
theorem dX4_describeLine_98 : decode cX4_describeLine 98 = .ok (.iconst 3, 1) := by decide +kernel
theorem dX4_describeLine_99 : decode cX4_describeLine 99 = .ok (.iadd, 1) := by decide +kernel
theorem dX4_describeLine_100 : decode cX4_describeLine 100 = .ok (.iload 6, 2) := by decide +kernel
theorem dX4_describeLine_102 : decode cX4_describeLine 102 = .ok (.iastore, 1) := by decide +kernel
theorem dX4_describeLine_103 : decode cX4_describeLine 103 = .ok (.aload_n 1, 1) := by decide +kernel
theorem dX4_describeLine_104 : decode cX4_describeLine 104 = .ok (.getfield 200, 3) := by decide +kernel
theorem dX4_describeLine_107 : decode cX4_describeLine 107 = .ok (.iload 8, 2) := by decide +kernel
theorem dX4_describeLine_109 : decode cX4_describeLine 109 = .ok (.iconst 4, 1) := by decide +kernel
theorem dX4_describeLine_110 : decode cX4_describeLine 110 = .ok (.iadd, 1) := by decide +kernel
theorem dX4_describeLine_111 : decode cX4_describeLine 111 = .ok (.aload_n 0, 1) := by decide +kernel
theorem dX4_describeLine_112 : decode cX4_describeLine 112 = .ok (.getfield 21, 3) := by decide +kernel
theorem dX4_describeLine_115 : decode cX4_describeLine 115 = .ok (.iload 4, 2) := by decide +kernel
theorem dX4_describeLine_117 : decode cX4_describeLine 117 = .ok (.iload 5, 2) := by decide +kernel
theorem dX4_describeLine_119 : decode cX4_describeLine 119 = .ok (.invokevirtual 137, 3) := by decide +kernel
theorem dX4_describeLine_122 : decode cX4_describeLine 122 = .ok (.iastore, 1) := by decide +kernel
theorem dX4_describeLine_123 : decode cX4_describeLine 123 = .ok (.aload_n 1, 1) := by decide +kernel
theorem dX4_describeLine_124 : decode cX4_describeLine 124 = .ok (.getfield 200, 3) := by decide +kernel
theorem dX4_describeLine_127 : decode cX4_describeLine 127 = .ok (.iload 8, 2) := by decide +kernel
theorem dX4_describeLine_129 : decode cX4_describeLine 129 = .ok (.iconst 5, 1) := by decide +kernel
theorem dX4_describeLine_130 : decode cX4_describeLine 130 = .ok (.iadd, 1) := by decide +kernel
theorem dX4_describeLine_131 : decode cX4_describeLine 131 = .ok (.aload_n 0, 1) := by decide +kernel
theorem dX4_describeLine_132 : decode cX4_describeLine 132 = .ok (.getfield 12, 3) := by decide +kernel
theorem dX4_describeLine_135 : decode cX4_describeLine 135 = .ok (.iload_n 3, 1) := by decide +kernel
theorem dX4_describeLine_136 : decode cX4_describeLine 136 = .ok (.iload 6, 2) := by decide +kernel
theorem dX4_describeLine_138 : decode cX4_describeLine 138 = .ok (.invokevirtual 164, 3) := by decide +kernel
theorem dX4_describeLine_141 : decode cX4_describeLine 141 = .ok (.iastore, 1) := by decide +kernel
theorem dX4_describeLine_142 : decode cX4_describeLine 142 = .ok (.aload_n 1, 1) := by decide +kernel
theorem dX4_describeLine_143 : decode cX4_describeLine 143 = .ok (.getfield 200, 3) := by decide +kernel
theorem dX4_describeLine_146 : decode cX4_describeLine 146 = .ok (.iload 8, 2) := by decide +kernel
theorem dX4_describeLine_148 : decode cX4_describeLine 148 = .ok (.bipush 6, 2) := by decide +kernel
theorem dX4_describeLine_150 : decode cX4_describeLine 150 = .ok (.iadd, 1) := by decide +kernel
theorem dX4_describeLine_151 : decode cX4_describeLine 151 = .ok (.iload 7, 2) := by decide +kernel
theorem dX4_describeLine_153 : decode cX4_describeLine 153 = .ok (.iastore, 1) := by decide +kernel
theorem dX4_describeLine_154 : decode cX4_describeLine 154 = .ok (.return_, 1) := by decide +kernel
theorem dX4_describeWords_0 : decode cX4_describeWords 0 = .ok (.aload_n 0, 1) := by decide +kernel
theorem dX4_describeWords_1 : decode cX4_describeWords 1 = .ok (.getfield 29, 3) := by decide +kernel
theorem dX4_describeWords_4 : decode cX4_describeWords 4 = .ok (.iload_n 2, 1) := by decide +kernel
theorem dX4_describeWords_5 : decode cX4_describeWords 5 = .ok (.iaload, 1) := by decide +kernel
theorem dX4_describeWords_6 : decode cX4_describeWords 6 = .ok (.istore_n 3, 1) := by decide +kernel
theorem dX4_describeWords_7 : decode cX4_describeWords 7 = .ok (.iload_n 3, 1) := by decide +kernel
theorem dX4_describeWords_8 : decode cX4_describeWords 8 = .ok (.aload_n 0, 1) := by decide +kernel
theorem dX4_describeWords_9 : decode cX4_describeWords 9 = .ok (.getfield 29, 3) := by decide +kernel
theorem dX4_describeWords_12 : decode cX4_describeWords 12 = .ok (.iload_n 2, 1) := by decide +kernel
theorem dX4_describeWords_13 : decode cX4_describeWords 13 = .ok (.iconst 1, 1) := by decide +kernel
theorem dX4_describeWords_14 : decode cX4_describeWords 14 = .ok (.iadd, 1) := by decide +kernel
theorem dX4_describeWords_15 : decode cX4_describeWords 15 = .ok (.iaload, 1) := by decide +kernel
theorem dX4_describeWords_16 : decode cX4_describeWords 16 = .ok (.if_icmp .ge 111, 3) := by decide +kernel
theorem dX4_describeWords_19 : decode cX4_describeWords 19 = .ok (.iload_n 3, 1) := by decide +kernel
theorem dX4_describeWords_20 : decode cX4_describeWords 20 = .ok (.iconst 5, 1) := by decide +kernel
theorem dX4_describeWords_21 : decode cX4_describeWords 21 = .ok (.imul, 1) := by decide +kernel
theorem dX4_describeWords_22 : decode cX4_describeWords 22 = .ok (.istore 4, 2) := by decide +kernel
theorem dX4_describeWords_24 : decode cX4_describeWords 24 = .ok (.aload_n 1, 1) := by decide +kernel
theorem dX4_describeWords_25 : decode cX4_describeWords 25 = .ok (.getfield 203, 3) := by decide +kernel
theorem dX4_describeWords_28 : decode cX4_describeWords 28 = .ok (.iload 4, 2) := by decide +kernel
theorem dX4_describeWords_30 : decode cX4_describeWords 30 = .ok (.aload_n 0, 1) := by decide +kernel
theorem dX4_describeWords_31 : decode cX4_describeWords 31 = .ok (.getfield 32, 3) := by decide +kernel
theorem dX4_describeWords_34 : decode cX4_describeWords 34 = .ok (.iload_n 3, 1) := by decide +kernel
theorem dX4_describeWords_35 : decode cX4_describeWords 35 = .ok (.iaload, 1) := by decide +kernel
theorem dX4_describeWords_36 : decode cX4_describeWords 36 = .ok (.iastore, 1) := by decide +kernel
theorem dX4_describeWords_37 : decode cX4_describeWords 37 = .ok (.aload_n 1, 1) := by decide +kernel
theorem dX4_describeWords_38 : decode cX4_describeWords 38 = .ok (.getfield 203, 3) := by decide +kernel
theorem dX4_describeWords_41 : decode cX4_describeWords 41 = .ok (.iload 4, 2) := by decide +kernel
theorem dX4_describeWords_43 : decode cX4_describeWords 43 = .ok (.iconst 1, 1) := by decide +kernel
theorem dX4_describeWords_44 : decode cX4_describeWords 44 = .ok (.iadd, 1) := by decide +kernel
theorem dX4_describeWords_45 : decode cX4_describeWords 45 = .ok (.aload_n 0, 1) := by decide +kernel
theorem dX4_describeWords_46 : decode cX4_describeWords 46 = .ok (.getfield 21, 3) := by decide +kernel
theorem dX4_describeWords_49 : decode cX4_describeWords 49 = .ok (.getfield 167, 3) := by decide +kernel
theorem dX4_describeWords_52 : decode cX4_describeWords 52 = .ok (.iload_n 3, 1) := by decide +kernel
theorem dX4_describeWords_53 : decode cX4_describeWords 53 = .ok (.iaload, 1) := by decide +kernel
theorem dX4_describeWords_54 : decode cX4_describeWords 54 = .ok (.iastore, 1) := by decide +kernel
theorem dX4_describeWords_55 : decode cX4_describeWords 55 = .ok (.aload_n 1, 1) := by decide +kernel
theorem dX4_describeWords_56 : decode cX4_describeWords 56 = .ok (.getfield 203, 3) := by decide +kernel
theorem dX4_describeWords_59 : decode cX4_describeWords 59 = .ok (.iload 4, 2) := by decide +kernel
theorem dX4_describeWords_61 : decode cX4_describeWords 61 = .ok (.iconst 2, 1) := by decide +kernel
theorem dX4_describeWords_62 : decode cX4_describeWords 62 = .ok (.iadd, 1) := by decide +kernel
theorem dX4_describeWords_63 : decode cX4_describeWords 63 = .ok (.aload_n 0, 1) := by decide +kernel
theorem dX4_describeWords_64 : decode cX4_describeWords 64 = .ok (.getfield 21, 3) := by decide +kernel
theorem dX4_describeWords_67 : decode cX4_describeWords 67 = .ok (.getfield 93, 3) := by decide +kernel
theorem dX4_describeWords_70 : decode cX4_describeWords 70 = .ok (.iload_n 3, 1) := by decide +kernel
theorem dX4_describeWords_71 : decode cX4_describeWords 71 = .ok (.iaload, 1) := by decide +kernel
theorem dX4_describeWords_72 : decode cX4_describeWords 72 = .ok (.iastore, 1) := by decide +kernel
theorem dX4_describeWords_73 : decode cX4_describeWords 73 = .ok (.aload_n 1, 1) := by decide +kernel
theorem dX4_describeWords_74 : decode cX4_describeWords 74 = .ok (.getfield 203, 3) := by decide +kernel
theorem dX4_describeWords_77 : decode cX4_describeWords 77 = .ok (.iload 4, 2) := by decide +kernel
theorem dX4_describeWords_79 : decode cX4_describeWords 79 = .ok (.iconst 3, 1) := by decide +kernel
theorem dX4_describeWords_80 : decode cX4_describeWords 80 = .ok (.iadd, 1) := by decide +kernel
theorem dX4_describeWords_81 : decode cX4_describeWords 81 = .ok (.iload_n 2, 1) := by decide +kernel
theorem dX4_describeWords_82 : decode cX4_describeWords 82 = .ok (.iastore, 1) := by decide +kernel
theorem dX4_describeWords_83 : decode cX4_describeWords 83 = .ok (.aload_n 1, 1) := by decide +kernel
theorem dX4_describeWords_84 : decode cX4_describeWords 84 = .ok (.getfield 203, 3) := by decide +kernel
theorem dX4_describeWords_87 : decode cX4_describeWords 87 = .ok (.iload 4, 2) := by decide +kernel
theorem dX4_describeWords_89 : decode cX4_describeWords 89 = .ok (.iconst 4, 1) := by decide +kernel
theorem dX4_describeWords_90 : decode cX4_describeWords 90 = .ok (.iadd, 1) := by decide +kernel
theorem dX4_describeWords_91 : decode cX4_describeWords 91 = .ok (.iload_n 3, 1) := by decide +kernel
theorem dX4_describeWords_92 : decode cX4_describeWords 92 = .ok (.aload_n 0, 1) := by decide +kernel
theorem dX4_describeWords_93 : decode cX4_describeWords 93 = .ok (.getfield 29, 3) := by decide +kernel
theorem dX4_describeWords_96 : decode cX4_describeWords 96 = .ok (.iload_n 2, 1) := by decide +kernel
theorem dX4_describeWords_97 : decode cX4_describeWords 97 = .ok (.iaload, 1) := by decide +kernel
theorem dX4_describeWords_98 : decode cX4_describeWords 98 = .ok (.if_icmp .le 21, 3) := by decide +kernel
theorem dX4_describeWords_101 : decode cX4_describeWords 101 = .ok (.aload_n 0, 1) := by decide +kernel
theorem dX4_describeWords_102 : decode cX4_describeWords 102 = .ok (.getfield 38, 3) := by decide +kernel
theorem dX4_describeWords_105 : decode cX4_describeWords 105 = .ok (.iload_n 3, 1) := by decide +kernel
theorem dX4_describeWords_106 : decode cX4_describeWords 106 = .ok (.iaload, 1) := by decide +kernel
theorem dX4_describeWords_107 : decode cX4_describeWords 107 = .ok (.aload_n 0, 1) := by decide +kernel
theorem dX4_describeWords_108 : decode cX4_describeWords 108 = .ok (.getfield 41, 3) := by decide +kernel
theorem dX4_describeWords_111 : decode cX4_describeWords 111 = .ok (.iload_n 3, 1) := by decide +kernel
theorem dX4_describeWords_112 : decode cX4_describeWords 112 = .ok (.iaload, 1) := by decide +kernel
theorem dX4_describeWords_113 : decode cX4_describeWords 113 = .ok (.iadd, 1) := by decide +kernel
theorem dX4_describeWords_114 : decode cX4_describeWords 114 = .ok (.iconst 1, 1) := by decide +kernel
theorem dX4_describeWords_115 : decode cX4_describeWords 115 = .ok (.isub, 1) := by decide +kernel
theorem dX4_describeWords_116 : decode cX4_describeWords 116 = .ok (.goto 4, 3) := by decide +kernel
theorem dX4_describeWords_119 : decode cX4_describeWords 119 = .ok (.iconst 0, 1) := by decide +kernel
theorem dX4_describeWords_120 : decode cX4_describeWords 120 = .ok (.iastore, 1) := by decide +kernel
theorem dX4_describeWords_121 : decode cX4_describeWords 121 = .ok (.iinc 3 1, 3) := by decide +kernel
theorem dX4_describeWords_124 : decode cX4_describeWords 124 = .ok (.goto (-117), 3) := by decide +kernel
theorem dX4_describeWords_127 : decode cX4_describeWords 127 = .ok (.return_, 1) := by decide +kernel
theorem dX5_init_0 : decode cX5_init 0 = .ok (.aload_n 0, 1) := by decide +kernel
theorem dX5_init_1 : decode cX5_init 1 = .ok (.invokespecial 3, 3) := by decide +kernel
theorem dX5_init_4 : decode cX5_init 4 = .ok (.aload_n 0, 1) := by decide +kernel
theorem dX5_init_5 : decode cX5_init 5 = .ok (.new 9, 3) := by decide +kernel
theorem dX5_init_8 : decode cX5_init 8 = .ok (.dup, 1) := by decide +kernel
theorem dX5_init_9 : decode cX5_init 9 = .ok (.invokespecial 11, 3) := by decide +kernel
theorem dX5_init_12 : decode cX5_init 12 = .ok (.putfield 12, 3) := by decide +kernel
theorem dX5_init_15 : decode cX5_init 15 = .ok (.aload_n 0, 1) := by decide +kernel
theorem dX5_init_16 : decode cX5_init 16 = .ok (.iconst 0, 1) := by decide +kernel
theorem dX5_init_17 : decode cX5_init 17 = .ok (.putfield 18, 3) := by decide +kernel
theorem dX5_init_20 : decode cX5_init 20 = .ok (.aload_n 0, 1) := by decide +kernel
theorem dX5_init_21 : decode cX5_init 21 = .ok (.bipush 42, 2) := by decide +kernel
theorem dX5_init_23 : decode cX5_init 23 = .ok (.newarray .int, 2) := by decide +kernel
theorem dX5_init_25 : decode cX5_init 25 = .ok (.putfield 22, 3) := by decide +kernel
theorem dX5_init_28 : decode cX5_init 28 = .ok (.aload_n 0, 1) := by decide +kernel
theorem dX5_init_29 : decode cX5_init 29 = .ok (.bipush 8, 2) := by decide +kernel
theorem dX5_init_31 : decode cX5_init 31 = .ok (.newarray .int, 2) := by decide +kernel
theorem dX5_init_33 : decode cX5_init 33 = .ok (.putfield 26, 3) := by decide +kernel
theorem dX5_init_36 : decode cX5_init 36 = .ok (.aload_n 0, 1) := by decide +kernel
theorem dX5_init_37 : decode cX5_init 37 = .ok (.aconst_null, 1) := by decide +kernel
theorem dX5_init_38 : decode cX5_init 38 = .ok (.putfield 29, 3) := by decide +kernel
theorem dX5_init_41 : decode cX5_init 41 = .ok (.aload_n 0, 1) := by decide +kernel
theorem dX5_init_42 : decode cX5_init 42 = .ok (.getfield 26, 3) := by decide +kernel
theorem dX5_init_45 : decode cX5_init 45 = .ok (.iconst 1, 1) := by decide +kernel
theorem dX5_init_46 : decode cX5_init 46 = .ok (.invokestatic 33, 3) := by decide +kernel
theorem dX5_init_49 : decode cX5_init 49 = .ok (.aload_n 0, 1) := by decide +kernel
theorem dX5_init_50 : decode cX5_init 50 = .ok (.getfield 26, 3) := by decide +kernel
theorem dX5_init_53 : decode cX5_init 53 = .ok (.iconst 4, 1) := by decide +kernel
theorem dX5_init_54 : decode cX5_init 54 = .ok (.iconst 0, 1) := by decide +kernel
theorem dX5_init_55 : decode cX5_init 55 = .ok (.iastore, 1) := by decide +kernel
theorem dX5_init_56 : decode cX5_init 56 = .ok (.aload_n 0, 1) := by decide +kernel
theorem dX5_init_57 : decode cX5_init 57 = .ok (.getfield 26, 3) := by decide +kernel
theorem dX5_init_60 : decode cX5_init 60 = .ok (.bipush 7, 2) := by decide +kernel
theorem dX5_init_62 : decode cX5_init 62 = .ok (.bipush 9, 2) := by decide +kernel
theorem dX5_init_64 : decode cX5_init 64 = .ok (.iastore, 1) := by decide +kernel
theorem dX5_init_65 : decode cX5_init 65 = .ok (.return_, 1) := by decide +kernel
theorem dX5_copyFrom_0 : decode cX5_copyFrom 0 = .ok (.aload_n 0, 1) := by decide +kernel
theorem dX5_copyFrom_1 : decode cX5_copyFrom 1 = .ok (.getfield 12, 3) := by decide +kernel
theorem dX5_copyFrom_4 : decode cX5_copyFrom 4 = .ok (.aload_n 1, 1) := by decide +kernel
theorem dX5_copyFrom_5 : decode cX5_copyFrom 5 = .ok (.getfield 12, 3) := by decide +kernel
theorem dX5_copyFrom_8 : decode cX5_copyFrom 8 = .ok (.invokevirtual 39, 3) := by decide +kernel
theorem dX5_copyFrom_11 : decode cX5_copyFrom 11 = .ok (.aload_n 0, 1) := by decide +kernel
theorem dX5_copyFrom_12 : decode cX5_copyFrom 12 = .ok (.aload_n 1, 1) := by decide +kernel
theorem dX5_copyFrom_13 : decode cX5_copyFrom 13 = .ok (.getfield 18, 3) := by decide +kernel
theorem dX5_copyFrom_16 : decode cX5_copyFrom 16 = .ok (.putfield 18, 3) := by decide +kernel
theorem dX5_copyFrom_19 : decode cX5_copyFrom 19 = .ok (.aload_n 1, 1) := by decide +kernel
theorem dX5_copyFrom_20 : decode cX5_copyFrom 20 = .ok (.getfield 22, 3) := by decide +kernel
theorem dX5_copyFrom_23 : decode cX5_copyFrom 23 = .ok (.iconst 0, 1) := by decide +kernel
theorem dX5_copyFrom_24 : decode cX5_copyFrom 24 = .ok (.aload_n 0, 1) := by decide +kernel
theorem dX5_copyFrom_25 : decode cX5_copyFrom 25 = .ok (.getfield 22, 3) := by decide +kernel
theorem dX5_copyFrom_28 : decode cX5_copyFrom 28 = .ok (.iconst 0, 1) := by decide +kernel
theorem dX5_copyFrom_29 : decode cX5_copyFrom 29 = .ok (.aload_n 0, 1) := by decide +kernel
theorem dX5_copyFrom_30 : decode cX5_copyFrom 30 = .ok (.getfield 22, 3) := by decide +kernel
theorem dX5_copyFrom_33 : decode cX5_copyFrom 33 = .ok (.arraylength, 1) := by decide +kernel
theorem dX5_copyFrom_34 : decode cX5_copyFrom 34 = .ok (.invokestatic 43, 3) := by decide +kernel
theorem dX5_copyFrom_37 : decode cX5_copyFrom 37 = .ok (.aload_n 1, 1) := by decide +kernel
theorem dX5_copyFrom_38 : decode cX5_copyFrom 38 = .ok (.getfield 26, 3) := by decide +kernel
theorem dX5_copyFrom_41 : decode cX5_copyFrom 41 = .ok (.iconst 0, 1) := by decide +kernel
theorem dX5_copyFrom_42 : decode cX5_copyFrom 42 = .ok (.aload_n 0, 1) := by decide +kernel
theorem dX5_copyFrom_43 : decode cX5_copyFrom 43 = .ok (.getfield 26, 3) := by decide +kernel
theorem dX5_copyFrom_46 : decode cX5_copyFrom 46 = .ok (.iconst 0, 1) := by decide +kernel
theorem dX5_copyFrom_47 : decode cX5_copyFrom 47 = .ok (.aload_n 0, 1) := by decide +kernel
theorem dX5_copyFrom_48 : decode cX5_copyFrom 48 = .ok (.getfield 26, 3) := by decide +kernel
theorem dX5_copyFrom_51 : decode cX5_copyFrom 51 = .ok (.arraylength, 1) := by decide +kernel
theorem dX5_copyFrom_52 : decode cX5_copyFrom 52 = .ok (.invokestatic 43, 3) := by decide +kernel
theorem dX5_copyFrom_55 : decode cX5_copyFrom 55 = .ok (.aload_n 0, 1) := by decide +kernel
theorem dX5_copyFrom_56 : decode cX5_copyFrom 56 = .ok (.aload_n 1, 1) := by decide +kernel
theorem dX5_copyFrom_57 : decode cX5_copyFrom 57 = .ok (.getfield 29, 3) := by decide +kernel
theorem dX5_copyFrom_60 : decode cX5_copyFrom 60 = .ok (.putfield 29, 3) := by decide +kernel
theorem dX5_copyFrom_63 : decode cX5_copyFrom 63 = .ok (.return_, 1) := by decide +kernel
theorem dX5_partOfWord_0 : decode cX5_partOfWord 0 = .ok (.aload_n 0, 1) := by decide +kernel
theorem dX5_partOfWord_1 : decode cX5_partOfWord 1 = .ok (.getfield 22, 3) := by decide +kernel
theorem dX5_partOfWord_4 : decode cX5_partOfWord 4 = .ok (.iload_n 1, 1) := by decide +kernel
theorem dX5_partOfWord_5 : decode cX5_partOfWord 5 = .ok (.iconst 3, 1) := by decide +kernel
theorem dX5_partOfWord_6 : decode cX5_partOfWord 6 = .ok (.imul, 1) := by decide +kernel
theorem dX5_partOfWord_7 : decode cX5_partOfWord 7 = .ok (.iload_n 2, 1) := by decide +kernel
theorem dX5_partOfWord_8 : decode cX5_partOfWord 8 = .ok (.iadd, 1) := by decide +kernel
theorem dX5_partOfWord_9 : decode cX5_partOfWord 9 = .ok (.iaload, 1) := by decide +kernel
theorem dX5_partOfWord_10 : decode cX5_partOfWord 10 = .ok (.ireturn, 1) := by decide +kernel
theorem dX5_putWord_0 : decode cX5_putWord 0 = .ok (.aload_n 0, 1) := by decide +kernel
theorem dX5_putWord_1 : decode cX5_putWord 1 = .ok (.getfield 22, 3) := by decide +kernel
theorem dX5_putWord_4 : decode cX5_putWord 4 = .ok (.iload_n 1, 1) := by decide +kernel
theorem dX5_putWord_5 : decode cX5_putWord 5 = .ok (.iconst 3, 1) := by decide +kernel
theorem dX5_putWord_6 : decode cX5_putWord 6 = .ok (.imul, 1) := by decide +kernel
theorem dX5_putWord_7 : decode cX5_putWord 7 = .ok (.iconst 0, 1) := by decide +kernel
theorem dX5_putWord_8 : decode cX5_putWord 8 = .ok (.iadd, 1) := by decide +kernel
theorem dX5_putWord_9 : decode cX5_putWord 9 = .ok (.iload_n 2, 1) := by decide +kernel
theorem dX5_putWord_10 : decode cX5_putWord 10 = .ok (.iastore, 1) := by decide +kernel
theorem dX5_putWord_11 : decode cX5_putWord 11 = .ok (.aload_n 0, 1) := by decide +kernel
theorem dX5_putWord_12 : decode cX5_putWord 12 = .ok (.getfield 22, 3) := by decide +kernel
theorem dX5_putWord_15 : decode cX5_putWord 15 = .ok (.iload_n 1, 1) := by decide +kernel
theorem dX5_putWord_16 : decode cX5_putWord 16 = .ok (.iconst 3, 1) := by decide +kernel
theorem dX5_putWord_17 : decode cX5_putWord 17 = .ok (.imul, 1) := by decide +kernel
theorem dX5_putWord_18 : decode cX5_putWord 18 = .ok (.iconst 1, 1) := by decide +kernel
theorem dX5_putWord_19 : decode cX5_putWord 19 = .ok (.iadd, 1) := by decide +kernel
theorem dX5_putWord_20 : decode cX5_putWord 20 = .ok (.iload_n 3, 1) := by decide +kernel
theorem dX5_putWord_21 : decode cX5_putWord 21 = .ok (.iastore, 1) := by decide +kernel
theorem dX5_putWord_22 : decode cX5_putWord 22 = .ok (.aload_n 0, 1) := by decide +kernel
theorem dX5_putWord_23 : decode cX5_putWord 23 = .ok (.getfield 22, 3) := by decide +kernel
theorem dX5_putWord_26 : decode cX5_putWord 26 = .ok (.iload_n 1, 1) := by decide +kernel
theorem dX5_putWord_27 : decode cX5_putWord 27 = .ok (.iconst 3, 1) := by decide +kernel
theorem dX5_putWord_28 : decode cX5_putWord 28 = .ok (.imul, 1) := by decide +kernel
theorem dX5_putWord_29 : decode cX5_putWord 29 = .ok (.iconst 2, 1) := by decide +kernel
theorem dX5_putWord_30 : decode cX5_putWord 30 = .ok (.iadd, 1) := by decide +kernel
theorem dX5_putWord_31 : decode cX5_putWord 31 = .ok (.iload 4, 2) := by decide +kernel
theorem dX5_putWord_33 : decode cX5_putWord 33 = .ok (.iastore, 1) := by decide +kernel
theorem dX5_putWord_34 : decode cX5_putWord 34 = .ok (.return_, 1) := by decide +kernel
theorem dX6_init_0 : decode cX6_init 0 = .ok (.aload_n 0, 1) := by decide +kernel
theorem dX6_init_1 : decode cX6_init 1 = .ok (.invokespecial 3, 3) := by decide +kernel
theorem dX6_init_4 : decode cX6_init 4 = .ok (.aload_n 0, 1) := by decide +kernel
theorem dX6_init_5 : decode cX6_init 5 = .ok (.iconst 0, 1) := by decide +kernel
theorem dX6_init_6 : decode cX6_init 6 = .ok (.putfield 9, 3) := by decide +kernel
theorem dX6_init_9 : decode cX6_init 9 = .ok (.aload_n 0, 1) := by decide +kernel
theorem dX6_init_10 : decode cX6_init 10 = .ok (.bipush 42, 2) := by decide +kernel
theorem dX6_init_12 : decode cX6_init 12 = .ok (.newarray .int, 2) := by decide +kernel
theorem dX6_init_14 : decode cX6_init 14 = .ok (.putfield 15, 3) := by decide +kernel
theorem dX6_init_17 : decode cX6_init 17 = .ok (.aload_n 0, 1) := by decide +kernel
theorem dX6_init_18 : decode cX6_init 18 = .ok (.iconst 0, 1) := by decide +kernel
theorem dX6_init_19 : decode cX6_init 19 = .ok (.putfield 19, 3) := by decide +kernel
theorem dX6_init_22 : decode cX6_init 22 = .ok (.return_, 1) := by decide +kernel
theorem dX6_read_0 : decode cX6_read 0 = .ok (.aload_n 0, 1) := by decide +kernel
theorem dX6_read_1 : decode cX6_read 1 = .ok (.iconst 0, 1) := by decide +kernel
theorem dX6_read_2 : decode cX6_read 2 = .ok (.putfield 9, 3) := by decide +kernel
theorem dX6_read_5 : decode cX6_read 5 = .ok (.aload_n 0, 1) := by decide +kernel
theorem dX6_read_6 : decode cX6_read 6 = .ok (.iconst 0, 1) := by decide +kernel
theorem dX6_read_7 : decode cX6_read 7 = .ok (.putfield 19, 3) := by decide +kernel
theorem dX6_read_10 : decode cX6_read 10 = .ok (.iconst 0, 1) := by decide +kernel
theorem dX6_read_11 : decode cX6_read 11 = .ok (.istore_n 3, 1) := by decide +kernel
theorem dX6_read_12 : decode cX6_read 12 = .ok (.iload_n 3, 1) := by decide +kernel
theorem dX6_read_13 : decode cX6_read 13 = .ok (.iload_n 2, 1) := by decide +kernel
theorem dX6_read_14 : decode cX6_read 14 = .ok (.if_icmp .ge 27, 3) := by decide +kernel
theorem dX6_read_17 : decode cX6_read 17 = .ok (.iload_n 3, 1) := by decide +kernel
theorem dX6_read_18 : decode cX6_read 18 = .ok (.aload_n 1, 1) := by decide +kernel
theorem dX6_read_19 : decode cX6_read 19 = .ok (.arraylength, 1) := by decide +kernel
theorem dX6_read_20 : decode cX6_read 20 = .ok (.if_icmp .ge 21, 3) := by decide +kernel
theorem dX6_read_23 : decode cX6_read 23 = .ok (.aload_n 0, 1) := by decide +kernel
theorem dX6_read_24 : decode cX6_read 24 = .ok (.aload_n 1, 1) := by decide +kernel
theorem dX6_read_25 : decode cX6_read 25 = .ok (.iload_n 3, 1) := by decide +kernel
theorem dX6_read_26 : decode cX6_read 26 = .ok (.iaload, 1) := by decide +kernel
theorem dX6_read_27 : decode cX6_read 27 = .ok (.invokevirtual 22, 3) := by decide +kernel
theorem dX6_read_30 : decode cX6_read 30 = .ok (.ifCond .ne 5, 3) := by decide +kernel
theorem dX6_read_33 : decode cX6_read 33 = .ok (.iload_n 3, 1) := by decide +kernel
theorem dX6_read_34 : decode cX6_read 34 = .ok (.ireturn, 1) := by decide +kernel
theorem dX6_read_35 : decode cX6_read 35 = .ok (.iinc 3 1, 3) := by decide +kernel
theorem dX6_read_38 : decode cX6_read 38 = .ok (.goto (-26), 3) := by decide +kernel
theorem dX6_read_41 : decode cX6_read 41 = .ok (.aload_n 0, 1) := by decide +kernel
theorem dX6_read_42 : decode cX6_read 42 = .ok (.getfield 19, 3) := by decide +kernel
theorem dX6_read_45 : decode cX6_read 45 = .ok (.iconst 4, 1) := by decide +kernel
theorem dX6_read_46 : decode cX6_read 46 = .ok (.if_icmp .ne 7, 3) := by decide +kernel
theorem dX6_read_49 : decode cX6_read 49 = .ok (.iload_n 2, 1) := by decide +kernel
theorem dX6_read_50 : decode cX6_read 50 = .ok (.goto 4, 3) := by decide +kernel
theorem dX6_read_53 : decode cX6_read 53 = .ok (.iconst (-1), 1) := by decide +kernel
theorem dX6_read_54 : decode cX6_read 54 = .ok (.ireturn, 1) := by decide +kernel
theorem dX6_accepts_0 : decode cX6_accepts 0 = .ok (.iload_n 1, 1) := by decide +kernel
theorem dX6_accepts_1 : decode cX6_accepts 1 = .ok (.invokestatic 26, 3) := by decide +kernel
theorem dX6_accepts_4 : decode cX6_accepts 4 = .ok (.ifCond .eq 39, 3) := by decide +kernel
theorem dX6_accepts_7 : decode cX6_accepts 7 = .ok (.aload_n 0, 1) := by decide +kernel
theorem dX6_accepts_8 : decode cX6_accepts 8 = .ok (.getfield 19, 3) := by decide +kernel
theorem dX6_accepts_11 : decode cX6_accepts 11 = .ok (.iconst 1, 1) := by decide +kernel
theorem dX6_accepts_12 : decode cX6_accepts 12 = .ok (.if_icmp .ne 10, 3) := by decide +kernel
theorem dX6_accepts_15 : decode cX6_accepts 15 = .ok (.aload_n 0, 1) := by decide +kernel
theorem dX6_accepts_16 : decode cX6_accepts 16 = .ok (.invokevirtual 29, 3) := by decide +kernel
theorem dX6_accepts_19 : decode cX6_accepts 19 = .ok (.goto 23, 3) := by decide +kernel
theorem dX6_accepts_22 : decode cX6_accepts 22 = .ok (.aload_n 0, 1) := by decide +kernel
theorem dX6_accepts_23 : decode cX6_accepts 23 = .ok (.getfield 19, 3) := by decide +kernel
theorem dX6_accepts_26 : decode cX6_accepts 26 = .ok (.iconst 2, 1) := by decide +kernel
theorem dX6_accepts_27 : decode cX6_accepts 27 = .ok (.if_icmp .eq 14, 3) := by decide +kernel
theorem dX6_accepts_30 : decode cX6_accepts 30 = .ok (.aload_n 0, 1) := by decide +kernel
theorem dX6_accepts_31 : decode cX6_accepts 31 = .ok (.invokevirtual 33, 3) := by decide +kernel
theorem dX6_accepts_34 : decode cX6_accepts 34 = .ok (.ifCond .eq 7, 3) := by decide +kernel
theorem dX6_accepts_37 : decode cX6_accepts 37 = .ok (.iconst 1, 1) := by decide +kernel
theorem dX6_accepts_38 : decode cX6_accepts 38 = .ok (.goto 4, 3) := by decide +kernel
theorem dX6_accepts_41 : decode cX6_accepts 41 = .ok (.iconst 0, 1) := by decide +kernel
theorem dX6_accepts_42 : decode cX6_accepts 42 = .ok (.ireturn, 1) := by decide +kernel
theorem dX6_accepts_43 : decode cX6_accepts 43 = .ok (.iload_n 1, 1) := by decide +kernel
theorem dX6_accepts_44 : decode cX6_accepts 44 = .ok (.lookupswitch 123 #[(32, 94), (33, 36), (47, 65)], 36) := by decide +kernel
theorem dX6_accepts_80 : decode cX6_accepts 80 = .ok (.aload_n 0, 1) := by decide +kernel
theorem dX6_accepts_81 : decode cX6_accepts 81 = .ok (.getfield 19, 3) := by decide +kernel
theorem dX6_accepts_84 : decode cX6_accepts 84 = .ok (.iconst 1, 1) := by decide +kernel
theorem dX6_accepts_85 : decode cX6_accepts 85 = .ok (.if_icmp .eq 11, 3) := by decide +kernel
theorem dX6_accepts_88 : decode cX6_accepts 88 = .ok (.aload_n 0, 1) := by decide +kernel
theorem dX6_accepts_89 : decode cX6_accepts 89 = .ok (.getfield 19, 3) := by decide +kernel
theorem dX6_accepts_92 : decode cX6_accepts 92 = .ok (.iconst 2, 1) := by decide +kernel
theorem dX6_accepts_93 : decode cX6_accepts 93 = .ok (.if_icmp .ne 14, 3) := by decide +kernel
theorem dX6_accepts_96 : decode cX6_accepts 96 = .ok (.aload_n 0, 1) := by decide +kernel
theorem dX6_accepts_97 : decode cX6_accepts 97 = .ok (.invokevirtual 36, 3) := by decide +kernel
theorem dX6_accepts_100 : decode cX6_accepts 100 = .ok (.ifCond .eq 7, 3) := by decide +kernel
theorem dX6_accepts_103 : decode cX6_accepts 103 = .ok (.iconst 1, 1) := by decide +kernel
theorem dX6_accepts_104 : decode cX6_accepts 104 = .ok (.goto 4, 3) := by decide +kernel
theorem dX6_accepts_107 : decode cX6_accepts 107 = .ok (.iconst 0, 1) := by decide +kernel
theorem dX6_accepts_108 : decode cX6_accepts 108 = .ok (.ireturn, 1) := by decide +kernel
theorem dX6_accepts_109 : decode cX6_accepts 109 = .ok (.aload_n 0, 1) := by decide +kernel
theorem dX6_accepts_110 : decode cX6_accepts 110 = .ok (.getfield 19, 3) := by decide +kernel
theorem dX6_accepts_113 : decode cX6_accepts 113 = .ok (.ifCond .eq 23, 3) := by decide +kernel
theorem dX6_accepts_116 : decode cX6_accepts 116 = .ok (.aload_n 0, 1) := by decide +kernel
theorem dX6_accepts_117 : decode cX6_accepts 117 = .ok (.getfield 19, 3) := by decide +kernel
theorem dX6_accepts_120 : decode cX6_accepts 120 = .ok (.iconst 4, 1) := by decide +kernel
theorem dX6_accepts_121 : decode cX6_accepts 121 = .ok (.if_icmp .eq 15, 3) := by decide +kernel
theorem dX6_accepts_124 : decode cX6_accepts 124 = .ok (.aload_n 0, 1) := by decide +kernel
theorem dX6_accepts_125 : decode cX6_accepts 125 = .ok (.iconst 4, 1) := by decide +kernel
theorem dX6_accepts_126 : decode cX6_accepts 126 = .ok (.invokevirtual 39, 3) := by decide +kernel
theorem dX6_accepts_129 : decode cX6_accepts 129 = .ok (.ifCond .eq 7, 3) := by decide +kernel
theorem dX6_accepts_132 : decode cX6_accepts 132 = .ok (.iconst 1, 1) := by decide +kernel
theorem dX6_accepts_133 : decode cX6_accepts 133 = .ok (.goto 4, 3) := by decide +kernel
theorem dX6_accepts_136 : decode cX6_accepts 136 = .ok (.iconst 0, 1) := by decide +kernel
theorem dX6_accepts_137 : decode cX6_accepts 137 = .ok (.ireturn, 1) := by decide +kernel
theorem dX6_accepts_138 : decode cX6_accepts 138 = .ok (.aload_n 0, 1) := by decide +kernel
theorem dX6_accepts_139 : decode cX6_accepts 139 = .ok (.aload_n 0, 1) := by decide +kernel
theorem dX6_accepts_140 : decode cX6_accepts 140 = .ok (.getfield 19, 3) := by decide +kernel
theorem dX6_accepts_143 : decode cX6_accepts 143 = .ok (.iconst 1, 1) := by decide +kernel
theorem dX6_accepts_144 : decode cX6_accepts 144 = .ok (.if_icmp .eq 11, 3) := by decide +kernel
theorem dX6_accepts_147 : decode cX6_accepts 147 = .ok (.aload_n 0, 1) := by decide +kernel
theorem dX6_accepts_148 : decode cX6_accepts 148 = .ok (.getfield 19, 3) := by decide +kernel
theorem dX6_accepts_151 : decode cX6_accepts 151 = .ok (.iconst 2, 1) := by decide +kernel
theorem dX6_accepts_152 : decode cX6_accepts 152 = .ok (.if_icmp .ne 7, 3) := by decide +kernel
theorem dX6_accepts_155 : decode cX6_accepts 155 = .ok (.iconst 3, 1) := by decide +kernel
theorem dX6_accepts_156 : decode cX6_accepts 156 = .ok (.goto 7, 3) := by decide +kernel
theorem dX6_accepts_159 : decode cX6_accepts 159 = .ok (.aload_n 0, 1) := by decide +kernel
theorem dX6_accepts_160 : decode cX6_accepts 160 = .ok (.getfield 19, 3) := by decide +kernel
theorem dX6_accepts_163 : decode cX6_accepts 163 = .ok (.invokevirtual 39, 3) := by decide +kernel
theorem dX6_accepts_166 : decode cX6_accepts 166 = .ok (.ireturn, 1) := by decide +kernel
theorem dX6_accepts_167 : decode cX6_accepts 167 = .ok (.iconst 0, 1) := by decide +kernel
theorem dX6_accepts_168 : decode cX6_accepts 168 = .ok (.ireturn, 1) := by decide +kernel
theorem dX6_isLetter_0 : decode cX6_isLetter 0 = .ok (.iload_n 0, 1) := by decide +kernel
theorem dX6_isLetter_1 : decode cX6_isLetter 1 = .ok (.bipush 65, 2) := by decide +kernel
theorem dX6_isLetter_3 : decode cX6_isLetter 3 = .ok (.bipush 90, 2) := by decide +kernel
theorem dX6_isLetter_5 : decode cX6_isLetter 5 = .ok (.invokestatic 42, 3) := by decide +kernel
theorem dX6_isLetter_8 : decode cX6_isLetter 8 = .ok (.ifCond .ne 14, 3) := by decide +kernel
theorem dX6_isLetter_11 : decode cX6_isLetter 11 = .ok (.iload_n 0, 1) := by decide +kernel
theorem dX6_isLetter_12 : decode cX6_isLetter 12 = .ok (.bipush 97, 2) := by decide +kernel
theorem dX6_isLetter_14 : decode cX6_isLetter 14 = .ok (.bipush 122, 2) := by decide +kernel
theorem dX6_isLetter_16 : decode cX6_isLetter 16 = .ok (.invokestatic 42, 3) := by decide +kernel
theorem dX6_isLetter_19 : decode cX6_isLetter 19 = .ok (.ifCond .eq 7, 3) := by decide +kernel
theorem dX6_isLetter_22 : decode cX6_isLetter 22 = .ok (.iconst 1, 1) := by decide +kernel
theorem dX6_isLetter_23 : decode cX6_isLetter 23 = .ok (.goto 4, 3) := by decide +kernel
theorem dX6_isLetter_26 : decode cX6_isLetter 26 = .ok (.iconst 0, 1) := by decide +kernel
theorem dX6_isLetter_27 : decode cX6_isLetter 27 = .ok (.ireturn, 1) := by decide +kernel
theorem dX6_goTo_0 : decode cX6_goTo 0 = .ok (.aload_n 0, 1) := by decide +kernel
theorem dX6_goTo_1 : decode cX6_goTo 1 = .ok (.iload_n 1, 1) := by decide +kernel
theorem dX6_goTo_2 : decode cX6_goTo 2 = .ok (.putfield 19, 3) := by decide +kernel
theorem dX6_goTo_5 : decode cX6_goTo 5 = .ok (.iconst 1, 1) := by decide +kernel
theorem dX6_goTo_6 : decode cX6_goTo 6 = .ok (.ireturn, 1) := by decide +kernel
theorem dX6_beginWord_0 : decode cX6_beginWord 0 = .ok (.aload_n 0, 1) := by decide +kernel
theorem dX6_beginWord_1 : decode cX6_beginWord 1 = .ok (.getfield 9, 3) := by decide +kernel
theorem dX6_beginWord_4 : decode cX6_beginWord 4 = .ok (.bipush 14, 2) := by decide +kernel
theorem dX6_beginWord_6 : decode cX6_beginWord 6 = .ok (.if_icmp .lt 5, 3) := by decide +kernel
theorem dX6_beginWord_9 : decode cX6_beginWord 9 = .ok (.iconst 0, 1) := by decide +kernel
theorem dX6_beginWord_10 : decode cX6_beginWord 10 = .ok (.ireturn, 1) := by decide +kernel
theorem dX6_beginWord_11 : decode cX6_beginWord 11 = .ok (.aload_n 0, 1) := by decide +kernel
theorem dX6_beginWord_12 : decode cX6_beginWord 12 = .ok (.getfield 9, 3) := by decide +kernel
theorem dX6_beginWord_15 : decode cX6_beginWord 15 = .ok (.iconst 3, 1) := by decide +kernel
theorem dX6_beginWord_16 : decode cX6_beginWord 16 = .ok (.imul, 1) := by decide +kernel
theorem dX6_beginWord_17 : decode cX6_beginWord 17 = .ok (.istore_n 1, 1) := by decide +kernel
theorem dX6_beginWord_18 : decode cX6_beginWord 18 = .ok (.aload_n 0, 1) := by decide +kernel
theorem dX6_beginWord_19 : decode cX6_beginWord 19 = .ok (.getfield 15, 3) := by decide +kernel
theorem dX6_beginWord_22 : decode cX6_beginWord 22 = .ok (.iload_n 1, 1) := by decide +kernel
theorem dX6_beginWord_23 : decode cX6_beginWord 23 = .ok (.iconst 0, 1) := by decide +kernel
theorem dX6_beginWord_24 : decode cX6_beginWord 24 = .ok (.iadd, 1) := by decide +kernel
theorem dX6_beginWord_25 : decode cX6_beginWord 25 = .ok (.iconst 1, 1) := by decide +kernel
theorem dX6_beginWord_26 : decode cX6_beginWord 26 = .ok (.iastore, 1) := by decide +kernel
theorem dX6_beginWord_27 : decode cX6_beginWord 27 = .ok (.aload_n 0, 1) := by decide +kernel
theorem dX6_beginWord_28 : decode cX6_beginWord 28 = .ok (.getfield 15, 3) := by decide +kernel
theorem dX6_beginWord_31 : decode cX6_beginWord 31 = .ok (.iload_n 1, 1) := by decide +kernel
theorem dX6_beginWord_32 : decode cX6_beginWord 32 = .ok (.iconst 1, 1) := by decide +kernel
theorem dX6_beginWord_33 : decode cX6_beginWord 33 = .ok (.iadd, 1) := by decide +kernel
theorem dX6_beginWord_34 : decode cX6_beginWord 34 = .ok (.iconst 1, 1) := by decide +kernel
theorem dX6_beginWord_35 : decode cX6_beginWord 35 = .ok (.iastore, 1) := by decide +kernel
theorem dX6_beginWord_36 : decode cX6_beginWord 36 = .ok (.aload_n 0, 1) := by decide +kernel
theorem dX6_beginWord_37 : decode cX6_beginWord 37 = .ok (.getfield 15, 3) := by decide +kernel
theorem dX6_beginWord_40 : decode cX6_beginWord 40 = .ok (.iload_n 1, 1) := by decide +kernel
theorem dX6_beginWord_41 : decode cX6_beginWord 41 = .ok (.iconst 2, 1) := by decide +kernel
theorem dX6_beginWord_42 : decode cX6_beginWord 42 = .ok (.iadd, 1) := by decide +kernel
theorem dX6_beginWord_43 : decode cX6_beginWord 43 = .ok (.aload_n 0, 1) := by decide +kernel
theorem dX6_beginWord_44 : decode cX6_beginWord 44 = .ok (.getfield 19, 3) := by decide +kernel
theorem dX6_beginWord_47 : decode cX6_beginWord 47 = .ok (.iconst 4, 1) := by decide +kernel
theorem dX6_beginWord_48 : decode cX6_beginWord 48 = .ok (.if_icmp .ne 7, 3) := by decide +kernel
theorem dX6_beginWord_51 : decode cX6_beginWord 51 = .ok (.iconst 1, 1) := by decide +kernel
theorem dX6_beginWord_52 : decode cX6_beginWord 52 = .ok (.goto 4, 3) := by decide +kernel
theorem dX6_beginWord_55 : decode cX6_beginWord 55 = .ok (.iconst 0, 1) := by decide +kernel
theorem dX6_beginWord_56 : decode cX6_beginWord 56 = .ok (.iastore, 1) := by decide +kernel
theorem dX6_beginWord_57 : decode cX6_beginWord 57 = .ok (.aload_n 0, 1) := by decide +kernel
theorem dX6_beginWord_58 : decode cX6_beginWord 58 = .ok (.dup, 1) := by decide +kernel
theorem dX6_beginWord_59 : decode cX6_beginWord 59 = .ok (.getfield 9, 3) := by decide +kernel
theorem dX6_beginWord_62 : decode cX6_beginWord 62 = .ok (.iconst 1, 1) := by decide +kernel
theorem dX6_beginWord_63 : decode cX6_beginWord 63 = .ok (.iadd, 1) := by decide +kernel
theorem dX6_beginWord_64 : decode cX6_beginWord 64 = .ok (.putfield 9, 3) := by decide +kernel
theorem dX6_beginWord_67 : decode cX6_beginWord 67 = .ok (.aload_n 0, 1) := by decide +kernel
theorem dX6_beginWord_68 : decode cX6_beginWord 68 = .ok (.iconst 1, 1) := by decide +kernel
theorem dX6_beginWord_69 : decode cX6_beginWord 69 = .ok (.invokevirtual 39, 3) := by decide +kernel
theorem dX6_beginWord_72 : decode cX6_beginWord 72 = .ok (.ireturn, 1) := by decide +kernel
theorem dX6_addLetter_0 : decode cX6_addLetter 0 = .ok (.aload_n 0, 1) := by decide +kernel
theorem dX6_addLetter_1 : decode cX6_addLetter 1 = .ok (.bipush 12, 2) := by decide +kernel
theorem dX6_addLetter_3 : decode cX6_addLetter 3 = .ok (.iconst 0, 1) := by decide +kernel
theorem dX6_addLetter_4 : decode cX6_addLetter 4 = .ok (.invokevirtual 46, 3) := by decide +kernel
theorem dX6_addLetter_7 : decode cX6_addLetter 7 = .ok (.ifCond .eq 15, 3) := by decide +kernel
theorem dX6_addLetter_10 : decode cX6_addLetter 10 = .ok (.aload_n 0, 1) := by decide +kernel
theorem dX6_addLetter_11 : decode cX6_addLetter 11 = .ok (.iconst 1, 1) := by decide +kernel
theorem dX6_addLetter_12 : decode cX6_addLetter 12 = .ok (.invokevirtual 39, 3) := by decide +kernel
theorem dX6_addLetter_15 : decode cX6_addLetter 15 = .ok (.ifCond .eq 7, 3) := by decide +kernel
theorem dX6_addLetter_18 : decode cX6_addLetter 18 = .ok (.iconst 1, 1) := by decide +kernel
theorem dX6_addLetter_19 : decode cX6_addLetter 19 = .ok (.goto 4, 3) := by decide +kernel
theorem dX6_addLetter_22 : decode cX6_addLetter 22 = .ok (.iconst 0, 1) := by decide +kernel
theorem dX6_addLetter_23 : decode cX6_addLetter 23 = .ok (.ireturn, 1) := by decide +kernel
theorem dX6_addShout_0 : decode cX6_addShout 0 = .ok (.aload_n 0, 1) := by decide +kernel
theorem dX6_addShout_1 : decode cX6_addShout 1 = .ok (.iconst 3, 1) := by decide +kernel
theorem dX6_addShout_2 : decode cX6_addShout 2 = .ok (.iconst 1, 1) := by decide +kernel
theorem dX6_addShout_3 : decode cX6_addShout 3 = .ok (.invokevirtual 46, 3) := by decide +kernel
theorem dX6_addShout_6 : decode cX6_addShout 6 = .ok (.ifCond .eq 15, 3) := by decide +kernel
theorem dX6_addShout_9 : decode cX6_addShout 9 = .ok (.aload_n 0, 1) := by decide +kernel
theorem dX6_addShout_10 : decode cX6_addShout 10 = .ok (.iconst 2, 1) := by decide +kernel
theorem dX6_addShout_11 : decode cX6_addShout 11 = .ok (.invokevirtual 39, 3) := by decide +kernel
theorem dX6_addShout_14 : decode cX6_addShout 14 = .ok (.ifCond .eq 7, 3) := by decide +kernel
theorem dX6_addShout_17 : decode cX6_addShout 17 = .ok (.iconst 1, 1) := by decide +kernel
theorem dX6_addShout_18 : decode cX6_addShout 18 = .ok (.goto 4, 3) := by decide +kernel
theorem dX6_addShout_21 : decode cX6_addShout 21 = .ok (.iconst 0, 1) := by decide +kernel
theorem dX6_addShout_22 : decode cX6_addShout 22 = .ok (.ireturn, 1) := by decide +kernel
theorem dX6_addUpTo_0 : decode cX6_addUpTo 0 = .ok (.aload_n 0, 1) := by decide +kernel
theorem dX6_addUpTo_1 : decode cX6_addUpTo 1 = .ok (.getfield 9, 3) := by decide +kernel
theorem dX6_addUpTo_4 : decode cX6_addUpTo 4 = .ok (.iconst 1, 1) := by decide +kernel
theorem dX6_addUpTo_5 : decode cX6_addUpTo 5 = .ok (.isub, 1) := by decide +kernel
theorem dX6_addUpTo_6 : decode cX6_addUpTo 6 = .ok (.iconst 3, 1) := by decide +kernel
theorem dX6_addUpTo_7 : decode cX6_addUpTo 7 = .ok (.imul, 1) := by decide +kernel
theorem dX6_addUpTo_8 : decode cX6_addUpTo 8 = .ok (.iload_n 2, 1) := by decide +kernel
theorem dX6_addUpTo_9 : decode cX6_addUpTo 9 = .ok (.iadd, 1) := by decide +kernel
theorem dX6_addUpTo_10 : decode cX6_addUpTo 10 = .ok (.istore_n 3, 1) := by decide +kernel
theorem dX6_addUpTo_11 : decode cX6_addUpTo 11 = .ok (.iload_n 3, 1) := by decide +kernel
theorem dX6_addUpTo_12 : decode cX6_addUpTo 12 = .ok (.ifCond .lt 13, 3) := by decide +kernel
theorem dX6_addUpTo_15 : decode cX6_addUpTo 15 = .ok (.aload_n 0, 1) := by decide +kernel
theorem dX6_addUpTo_16 : decode cX6_addUpTo 16 = .ok (.getfield 15, 3) := by decide +kernel
theorem dX6_addUpTo_19 : decode cX6_addUpTo 19 = .ok (.iload_n 3, 1) := by decide +kernel
theorem dX6_addUpTo_20 : decode cX6_addUpTo 20 = .ok (.iaload, 1) := by decide +kernel
theorem dX6_addUpTo_21 : decode cX6_addUpTo 21 = .ok (.iload_n 1, 1) := by decide +kernel
theorem dX6_addUpTo_22 : decode cX6_addUpTo 22 = .ok (.if_icmp .lt 5, 3) := by decide +kernel
theorem dX6_addUpTo_25 : decode cX6_addUpTo 25 = .ok (.iconst 0, 1) := by decide +kernel
theorem dX6_addUpTo_26 : decode cX6_addUpTo 26 = .ok (.ireturn, 1) := by decide +kernel
theorem dX6_addUpTo_27 : decode cX6_addUpTo 27 = .ok (.aload_n 0, 1) := by decide +kernel
theorem dX6_addUpTo_28 : decode cX6_addUpTo 28 = .ok (.getfield 15, 3) := by decide +kernel
theorem dX6_addUpTo_31 : decode cX6_addUpTo 31 = .ok (.iload_n 3, 1) := by decide +kernel
theorem dX6_addUpTo_32 : decode cX6_addUpTo 32 = .ok (.dup2, 1) := by decide +kernel
theorem dX6_addUpTo_33 : decode cX6_addUpTo 33 = .ok (.iaload, 1) := by decide +kernel
theorem dX6_addUpTo_34 : decode cX6_addUpTo 34 = .ok (.iconst 1, 1) := by decide +kernel
theorem dX6_addUpTo_35 : decode cX6_addUpTo 35 = .ok (.iadd, 1) := by decide +kernel
theorem dX6_addUpTo_36 : decode cX6_addUpTo 36 = .ok (.iastore, 1) := by decide +kernel
theorem dX6_addUpTo_37 : decode cX6_addUpTo 37 = .ok (.iconst 1, 1) := by decide +kernel
theorem dX6_addUpTo_38 : decode cX6_addUpTo 38 = .ok (.ireturn, 1) := by decide +kernel
theorem dX7_init_0 : decode cX7_init 0 = .ok (.aload_n 0, 1) := by decide +kernel
theorem dX7_init_1 : decode cX7_init 1 = .ok (.invokespecial 1, 3) := by decide +kernel
theorem dX7_init_4 : decode cX7_init 4 = .ok (.aload_n 0, 1) := by decide +kernel
theorem dX7_init_5 : decode cX7_init 5 = .ok (.new 7, 3) := by decide +kernel
theorem dX7_init_8 : decode cX7_init 8 = .ok (.dup, 1) := by decide +kernel
theorem dX7_init_9 : decode cX7_init 9 = .ok (.invokespecial 9, 3) := by decide +kernel
theorem dX7_init_12 : decode cX7_init 12 = .ok (.putfield 10, 3) := by decide +kernel
theorem dX7_init_15 : decode cX7_init 15 = .ok (.aload_n 0, 1) := by decide +kernel
theorem dX7_init_16 : decode cX7_init 16 = .ok (.iconst 4, 1) := by decide +kernel
theorem dX7_init_17 : decode cX7_init 17 = .ok (.anewarray 7, 3) := by decide +kernel
theorem dX7_init_20 : decode cX7_init 20 = .ok (.putfield 16, 3) := by decide +kernel
theorem dX7_init_23 : decode cX7_init 23 = .ok (.aload_n 0, 1) := by decide +kernel
theorem dX7_init_24 : decode cX7_init 24 = .ok (.iconst 0, 1) := by decide +kernel
theorem dX7_init_25 : decode cX7_init 25 = .ok (.putfield 20, 3) := by decide +kernel
theorem dX7_init_28 : decode cX7_init 28 = .ok (.aload_n 0, 1) := by decide +kernel
theorem dX7_init_29 : decode cX7_init 29 = .ok (.bipush 80, 2) := by decide +kernel
theorem dX7_init_31 : decode cX7_init 31 = .ok (.newarray .int, 2) := by decide +kernel
theorem dX7_init_33 : decode cX7_init 33 = .ok (.putfield 24, 3) := by decide +kernel
theorem dX7_init_36 : decode cX7_init 36 = .ok (.aload_n 0, 1) := by decide +kernel
theorem dX7_init_37 : decode cX7_init 37 = .ok (.iconst 0, 1) := by decide +kernel
theorem dX7_init_38 : decode cX7_init 38 = .ok (.putfield 28, 3) := by decide +kernel
theorem dX7_init_41 : decode cX7_init 41 = .ok (.aload_n 0, 1) := by decide +kernel
theorem dX7_init_42 : decode cX7_init 42 = .ok (.new 31, 3) := by decide +kernel
theorem dX7_init_45 : decode cX7_init 45 = .ok (.dup, 1) := by decide +kernel
theorem dX7_init_46 : decode cX7_init 46 = .ok (.invokespecial 33, 3) := by decide +kernel
theorem dX7_init_49 : decode cX7_init 49 = .ok (.putfield 34, 3) := by decide +kernel
theorem dX7_init_52 : decode cX7_init 52 = .ok (.aload_n 0, 1) := by decide +kernel
theorem dX7_init_53 : decode cX7_init 53 = .ok (.new 38, 3) := by decide +kernel
theorem dX7_init_56 : decode cX7_init 56 = .ok (.dup, 1) := by decide +kernel
theorem dX7_init_57 : decode cX7_init 57 = .ok (.invokespecial 40, 3) := by decide +kernel
theorem dX7_init_60 : decode cX7_init 60 = .ok (.putfield 41, 3) := by decide +kernel
theorem dX7_init_63 : decode cX7_init 63 = .ok (.iconst 0, 1) := by decide +kernel
theorem dX7_init_64 : decode cX7_init 64 = .ok (.istore_n 1, 1) := by decide +kernel
theorem dX7_init_65 : decode cX7_init 65 = .ok (.iload_n 1, 1) := by decide +kernel
theorem dX7_init_66 : decode cX7_init 66 = .ok (.iconst 4, 1) := by decide +kernel
theorem dX7_init_67 : decode cX7_init 67 = .ok (.if_icmp .ge 22, 3) := by decide +kernel
theorem dX7_init_70 : decode cX7_init 70 = .ok (.aload_n 0, 1) := by decide +kernel
theorem dX7_init_71 : decode cX7_init 71 = .ok (.getfield 16, 3) := by decide +kernel
theorem dX7_init_74 : decode cX7_init 74 = .ok (.iload_n 1, 1) := by decide +kernel
theorem dX7_init_75 : decode cX7_init 75 = .ok (.new 7, 3) := by decide +kernel
theorem dX7_init_78 : decode cX7_init 78 = .ok (.dup, 1) := by decide +kernel
theorem dX7_init_79 : decode cX7_init 79 = .ok (.invokespecial 9, 3) := by decide +kernel
theorem dX7_init_82 : decode cX7_init 82 = .ok (.aastore, 1) := by decide +kernel
theorem dX7_init_83 : decode cX7_init 83 = .ok (.iinc 1 1, 3) := by decide +kernel
theorem dX7_init_86 : decode cX7_init 86 = .ok (.goto (-21), 3) := by decide +kernel
theorem dX7_init_89 : decode cX7_init 89 = .ok (.return_, 1) := by decide +kernel
theorem dX7_addShape_0 : decode cX7_addShape 0 = .ok (.iload_n 1, 1) := by decide +kernel
theorem dX7_addShape_1 : decode cX7_addShape 1 = .ok (.iconst 0, 1) := by decide +kernel
theorem dX7_addShape_2 : decode cX7_addShape 2 = .ok (.iconst 3, 1) := by decide +kernel
theorem dX7_addShape_3 : decode cX7_addShape 3 = .ok (.invokestatic 45, 3) := by decide +kernel
theorem dX7_addShape_6 : decode cX7_addShape 6 = .ok (.ifCond .eq 15, 3) := by decide +kernel
theorem dX7_addShape_9 : decode cX7_addShape 9 = .ok (.iload_n 2, 1) := by decide +kernel
theorem dX7_addShape_10 : decode cX7_addShape 10 = .ok (.iload_n 3, 1) := by decide +kernel
theorem dX7_addShape_11 : decode cX7_addShape 11 = .ok (.iload 4, 2) := by decide +kernel
theorem dX7_addShape_13 : decode cX7_addShape 13 = .ok (.iload 5, 2) := by decide +kernel
theorem dX7_addShape_15 : decode cX7_addShape 15 = .ok (.invokestatic 49, 3) := by decide +kernel
theorem dX7_addShape_18 : decode cX7_addShape 18 = .ok (.ifCond .ne 6, 3) := by decide +kernel
theorem dX7_addShape_21 : decode cX7_addShape 21 = .ok (.bipush (-3), 2) := by decide +kernel
theorem dX7_addShape_23 : decode cX7_addShape 23 = .ok (.ireturn, 1) := by decide +kernel
theorem dX7_addShape_24 : decode cX7_addShape 24 = .ok (.aload_n 0, 1) := by decide +kernel
theorem dX7_addShape_25 : decode cX7_addShape 25 = .ok (.getfield 10, 3) := by decide +kernel
theorem dX7_addShape_28 : decode cX7_addShape 28 = .ok (.getfield 53, 3) := by decide +kernel
theorem dX7_addShape_31 : decode cX7_addShape 31 = .ok (.getfield 57, 3) := by decide +kernel
theorem dX7_addShape_34 : decode cX7_addShape 34 = .ok (.bipush 6, 2) := by decide +kernel
theorem dX7_addShape_36 : decode cX7_addShape 36 = .ok (.if_icmp .lt 6, 3) := by decide +kernel
theorem dX7_addShape_39 : decode cX7_addShape 39 = .ok (.bipush (-5), 2) := by decide +kernel
theorem dX7_addShape_41 : decode cX7_addShape 41 = .ok (.ireturn, 1) := by decide +kernel
theorem dX7_addShape_42 : decode cX7_addShape 42 = .ok (.aload_n 0, 1) := by decide +kernel
theorem dX7_addShape_43 : decode cX7_addShape 43 = .ok (.invokevirtual 62, 3) := by decide +kernel
theorem dX7_addShape_46 : decode cX7_addShape 46 = .ok (.aload_n 0, 1) := by decide +kernel
theorem dX7_addShape_47 : decode cX7_addShape 47 = .ok (.getfield 10, 3) := by decide +kernel
theorem dX7_addShape_50 : decode cX7_addShape 50 = .ok (.getfield 53, 3) := by decide +kernel
theorem dX7_addShape_53 : decode cX7_addShape 53 = .ok (.iload_n 1, 1) := by decide +kernel
theorem dX7_addShape_54 : decode cX7_addShape 54 = .ok (.iload_n 2, 1) := by decide +kernel
theorem dX7_addShape_55 : decode cX7_addShape 55 = .ok (.iload_n 3, 1) := by decide +kernel
theorem dX7_addShape_56 : decode cX7_addShape 56 = .ok (.iload 4, 2) := by decide +kernel
theorem dX7_addShape_58 : decode cX7_addShape 58 = .ok (.iload 5, 2) := by decide +kernel
theorem dX7_addShape_60 : decode cX7_addShape 60 = .ok (.invokevirtual 65, 3) := by decide +kernel
theorem dX7_addShape_63 : decode cX7_addShape 63 = .ok (.aload_n 0, 1) := by decide +kernel
theorem dX7_addShape_64 : decode cX7_addShape 64 = .ok (.getfield 10, 3) := by decide +kernel
theorem dX7_addShape_67 : decode cX7_addShape 67 = .ok (.getfield 53, 3) := by decide +kernel
theorem dX7_addShape_70 : decode cX7_addShape 70 = .ok (.getfield 57, 3) := by decide +kernel
theorem dX7_addShape_73 : decode cX7_addShape 73 = .ok (.iconst 1, 1) := by decide +kernel
theorem dX7_addShape_74 : decode cX7_addShape 74 = .ok (.isub, 1) := by decide +kernel
theorem dX7_addShape_75 : decode cX7_addShape 75 = .ok (.ireturn, 1) := by decide +kernel
theorem dX7_moveShape_0 : decode cX7_moveShape 0 = .ok (.iload_n 1, 1) := by decide +kernel
theorem dX7_moveShape_1 : decode cX7_moveShape 1 = .ok (.iconst 0, 1) := by decide +kernel
theorem dX7_moveShape_2 : decode cX7_moveShape 2 = .ok (.aload_n 0, 1) := by decide +kernel
theorem dX7_moveShape_3 : decode cX7_moveShape 3 = .ok (.getfield 10, 3) := by decide +kernel
theorem dX7_moveShape_6 : decode cX7_moveShape 6 = .ok (.getfield 53, 3) := by decide +kernel
theorem dX7_moveShape_9 : decode cX7_moveShape 9 = .ok (.getfield 57, 3) := by decide +kernel
theorem dX7_moveShape_12 : decode cX7_moveShape 12 = .ok (.iconst 1, 1) := by decide +kernel
theorem dX7_moveShape_13 : decode cX7_moveShape 13 = .ok (.isub, 1) := by decide +kernel
theorem dX7_moveShape_14 : decode cX7_moveShape 14 = .ok (.invokestatic 45, 3) := by decide +kernel
theorem dX7_moveShape_17 : decode cX7_moveShape 17 = .ok (.ifCond .ne 6, 3) := by decide +kernel
theorem dX7_moveShape_20 : decode cX7_moveShape 20 = .ok (.bipush (-2), 2) := by decide +kernel
theorem dX7_moveShape_22 : decode cX7_moveShape 22 = .ok (.ireturn, 1) := by decide +kernel
theorem dX7_moveShape_23 : decode cX7_moveShape 23 = .ok (.iload_n 2, 1) := by decide +kernel
theorem dX7_moveShape_24 : decode cX7_moveShape 24 = .ok (.bipush (-47), 2) := by decide +kernel
theorem dX7_moveShape_26 : decode cX7_moveShape 26 = .ok (.bipush 47, 2) := by decide +kernel
theorem dX7_moveShape_28 : decode cX7_moveShape 28 = .ok (.invokestatic 45, 3) := by decide +kernel
theorem dX7_moveShape_31 : decode cX7_moveShape 31 = .ok (.ifCond .eq 30, 3) := by decide +kernel
theorem dX7_moveShape_34 : decode cX7_moveShape 34 = .ok (.iload_n 3, 1) := by decide +kernel
theorem dX7_moveShape_35 : decode cX7_moveShape 35 = .ok (.bipush (-35), 2) := by decide +kernel
theorem dX7_moveShape_37 : decode cX7_moveShape 37 = .ok (.bipush 35, 2) := by decide +kernel
theorem dX7_moveShape_39 : decode cX7_moveShape 39 = .ok (.invokestatic 45, 3) := by decide +kernel
theorem dX7_moveShape_42 : decode cX7_moveShape 42 = .ok (.ifCond .eq 19, 3) := by decide +kernel
theorem dX7_moveShape_45 : decode cX7_moveShape 45 = .ok (.aload_n 0, 1) := by decide +kernel
theorem dX7_moveShape_46 : decode cX7_moveShape 46 = .ok (.getfield 10, 3) := by decide +kernel
theorem dX7_moveShape_49 : decode cX7_moveShape 49 = .ok (.getfield 53, 3) := by decide +kernel
theorem dX7_moveShape_52 : decode cX7_moveShape 52 = .ok (.iload_n 1, 1) := by decide +kernel
theorem dX7_moveShape_53 : decode cX7_moveShape 53 = .ok (.iload_n 2, 1) := by decide +kernel
theorem dX7_moveShape_54 : decode cX7_moveShape 54 = .ok (.iload_n 3, 1) := by decide +kernel
theorem dX7_moveShape_55 : decode cX7_moveShape 55 = .ok (.invokevirtual 69, 3) := by decide +kernel
theorem dX7_moveShape_58 : decode cX7_moveShape 58 = .ok (.ifCond .ne 6, 3) := by decide +kernel
theorem dX7_moveShape_61 : decode cX7_moveShape 61 = .ok (.bipush (-3), 2) := by decide +kernel
theorem dX7_moveShape_63 : decode cX7_moveShape 63 = .ok (.ireturn, 1) := by decide +kernel
theorem dX7_moveShape_64 : decode cX7_moveShape 64 = .ok (.aload_n 0, 1) := by decide +kernel
theorem dX7_moveShape_65 : decode cX7_moveShape 65 = .ok (.invokevirtual 62, 3) := by decide +kernel
theorem dX7_moveShape_68 : decode cX7_moveShape 68 = .ok (.aload_n 0, 1) := by decide +kernel
theorem dX7_moveShape_69 : decode cX7_moveShape 69 = .ok (.getfield 10, 3) := by decide +kernel
theorem dX7_moveShape_72 : decode cX7_moveShape 72 = .ok (.getfield 53, 3) := by decide +kernel
theorem dX7_moveShape_75 : decode cX7_moveShape 75 = .ok (.iload_n 1, 1) := by decide +kernel
theorem dX7_moveShape_76 : decode cX7_moveShape 76 = .ok (.iload_n 2, 1) := by decide +kernel
theorem dX7_moveShape_77 : decode cX7_moveShape 77 = .ok (.iload_n 3, 1) := by decide +kernel
theorem dX7_moveShape_78 : decode cX7_moveShape 78 = .ok (.invokevirtual 72, 3) := by decide +kernel
theorem dX7_moveShape_81 : decode cX7_moveShape 81 = .ok (.aload_n 0, 1) := by decide +kernel
theorem dX7_moveShape_82 : decode cX7_moveShape 82 = .ok (.getfield 10, 3) := by decide +kernel
theorem dX7_moveShape_85 : decode cX7_moveShape 85 = .ok (.getfield 53, 3) := by decide +kernel
theorem dX7_moveShape_88 : decode cX7_moveShape 88 = .ok (.invokevirtual 76, 3) := by decide +kernel
theorem dX7_moveShape_91 : decode cX7_moveShape 91 = .ok (.ireturn, 1) := by decide +kernel
theorem dX7_removeShape_0 : decode cX7_removeShape 0 = .ok (.iload_n 1, 1) := by decide +kernel
theorem dX7_removeShape_1 : decode cX7_removeShape 1 = .ok (.iconst 0, 1) := by decide +kernel
theorem dX7_removeShape_2 : decode cX7_removeShape 2 = .ok (.aload_n 0, 1) := by decide +kernel
theorem dX7_removeShape_3 : decode cX7_removeShape 3 = .ok (.getfield 10, 3) := by decide +kernel
theorem dX7_removeShape_6 : decode cX7_removeShape 6 = .ok (.getfield 53, 3) := by decide +kernel
theorem dX7_removeShape_9 : decode cX7_removeShape 9 = .ok (.getfield 57, 3) := by decide +kernel
theorem dX7_removeShape_12 : decode cX7_removeShape 12 = .ok (.iconst 1, 1) := by decide +kernel
theorem dX7_removeShape_13 : decode cX7_removeShape 13 = .ok (.isub, 1) := by decide +kernel
theorem dX7_removeShape_14 : decode cX7_removeShape 14 = .ok (.invokestatic 45, 3) := by decide +kernel
theorem dX7_removeShape_17 : decode cX7_removeShape 17 = .ok (.ifCond .ne 6, 3) := by decide +kernel
theorem dX7_removeShape_20 : decode cX7_removeShape 20 = .ok (.bipush (-2), 2) := by decide +kernel
theorem dX7_removeShape_22 : decode cX7_removeShape 22 = .ok (.ireturn, 1) := by decide +kernel
theorem dX7_removeShape_23 : decode cX7_removeShape 23 = .ok (.aload_n 0, 1) := by decide +kernel
theorem dX7_removeShape_24 : decode cX7_removeShape 24 = .ok (.invokevirtual 62, 3) := by decide +kernel
theorem dX7_removeShape_27 : decode cX7_removeShape 27 = .ok (.aload_n 0, 1) := by decide +kernel
theorem dX7_removeShape_28 : decode cX7_removeShape 28 = .ok (.getfield 10, 3) := by decide +kernel
theorem dX7_removeShape_31 : decode cX7_removeShape 31 = .ok (.getfield 53, 3) := by decide +kernel
theorem dX7_removeShape_34 : decode cX7_removeShape 34 = .ok (.iload_n 1, 1) := by decide +kernel
theorem dX7_removeShape_35 : decode cX7_removeShape 35 = .ok (.invokevirtual 80, 3) := by decide +kernel
theorem dX7_removeShape_38 : decode cX7_removeShape 38 = .ok (.aload_n 0, 1) := by decide +kernel
theorem dX7_removeShape_39 : decode cX7_removeShape 39 = .ok (.getfield 10, 3) := by decide +kernel
theorem dX7_removeShape_42 : decode cX7_removeShape 42 = .ok (.getfield 53, 3) := by decide +kernel
theorem dX7_removeShape_45 : decode cX7_removeShape 45 = .ok (.getfield 57, 3) := by decide +kernel
theorem dX7_removeShape_48 : decode cX7_removeShape 48 = .ok (.ireturn, 1) := by decide +kernel
theorem dX7_isFree_0 : decode cX7_isFree 0 = .ok (.iload_n 1, 1) := by decide +kernel
theorem dX7_isFree_1 : decode cX7_isFree 1 = .ok (.iconst 0, 1) := by decide +kernel
theorem dX7_isFree_2 : decode cX7_isFree 2 = .ok (.bipush 47, 2) := by decide +kernel
theorem dX7_isFree_4 : decode cX7_isFree 4 = .ok (.invokestatic 45, 3) := by decide +kernel
theorem dX7_isFree_7 : decode cX7_isFree 7 = .ok (.ifCond .eq 13, 3) := by decide +kernel
theorem dX7_isFree_10 : decode cX7_isFree 10 = .ok (.iload_n 2, 1) := by decide +kernel
theorem dX7_isFree_11 : decode cX7_isFree 11 = .ok (.iconst 0, 1) := by decide +kernel
theorem dX7_isFree_12 : decode cX7_isFree 12 = .ok (.bipush 35, 2) := by decide +kernel
theorem dX7_isFree_14 : decode cX7_isFree 14 = .ok (.invokestatic 45, 3) := by decide +kernel
theorem dX7_isFree_17 : decode cX7_isFree 17 = .ok (.ifCond .ne 6, 3) := by decide +kernel
theorem dX7_isFree_20 : decode cX7_isFree 20 = .ok (.bipush (-3), 2) := by decide +kernel
theorem dX7_isFree_22 : decode cX7_isFree 22 = .ok (.ireturn, 1) := by decide +kernel
theorem dX7_isFree_23 : decode cX7_isFree 23 = .ok (.aload_n 0, 1) := by decide +kernel
theorem dX7_isFree_24 : decode cX7_isFree 24 = .ok (.getfield 10, 3) := by decide +kernel
theorem dX7_isFree_27 : decode cX7_isFree 27 = .ok (.getfield 53, 3) := by decide +kernel
theorem dX7_isFree_30 : decode cX7_isFree 30 = .ok (.iload_n 1, 1) := by decide +kernel
theorem dX7_isFree_31 : decode cX7_isFree 31 = .ok (.iload_n 2, 1) := by decide +kernel
theorem dX7_isFree_32 : decode cX7_isFree 32 = .ok (.invokevirtual 84, 3) := by decide +kernel
theorem dX7_isFree_35 : decode cX7_isFree 35 = .ok (.ifCond .eq 7, 3) := by decide +kernel
theorem dX7_isFree_38 : decode cX7_isFree 38 = .ok (.iconst 1, 1) := by decide +kernel
theorem dX7_isFree_39 : decode cX7_isFree 39 = .ok (.goto 4, 3) := by decide +kernel
theorem dX7_isFree_42 : decode cX7_isFree 42 = .ok (.iconst 0, 1) := by decide +kernel
theorem dX7_isFree_43 : decode cX7_isFree 43 = .ok (.ireturn, 1) := by decide +kernel
theorem dX7_span_0 : decode cX7_span 0 = .ok (.iload_n 1, 1) := by decide +kernel
theorem dX7_span_1 : decode cX7_span 1 = .ok (.iload_n 2, 1) := by decide +kernel
theorem dX7_span_2 : decode cX7_span 2 = .ok (.invokestatic 88, 3) := by decide +kernel
theorem dX7_span_5 : decode cX7_span 5 = .ok (.ifCond .eq 12, 3) := by decide +kernel
theorem dX7_span_8 : decode cX7_span 8 = .ok (.iload_n 3, 1) := by decide +kernel
theorem dX7_span_9 : decode cX7_span 9 = .ok (.iconst 0, 1) := by decide +kernel
theorem dX7_span_10 : decode cX7_span 10 = .ok (.iconst 1, 1) := by decide +kernel
theorem dX7_span_11 : decode cX7_span 11 = .ok (.invokestatic 45, 3) := by decide +kernel
theorem dX7_span_14 : decode cX7_span 14 = .ok (.ifCond .ne 6, 3) := by decide +kernel
theorem dX7_span_17 : decode cX7_span 17 = .ok (.bipush (-3), 2) := by decide +kernel
theorem dX7_span_19 : decode cX7_span 19 = .ok (.ireturn, 1) := by decide +kernel
theorem dX7_span_20 : decode cX7_span 20 = .ok (.aload_n 0, 1) := by decide +kernel
theorem dX7_span_21 : decode cX7_span 21 = .ok (.getfield 41, 3) := by decide +kernel
theorem dX7_span_24 : decode cX7_span 24 = .ok (.getfield 91, 3) := by decide +kernel
theorem dX7_span_27 : decode cX7_span 27 = .ok (.aload_n 0, 1) := by decide +kernel
theorem dX7_span_28 : decode cX7_span 28 = .ok (.getfield 10, 3) := by decide +kernel
theorem dX7_span_31 : decode cX7_span 31 = .ok (.getfield 53, 3) := by decide +kernel
theorem dX7_span_34 : decode cX7_span 34 = .ok (.iload_n 2, 1) := by decide +kernel
theorem dX7_span_35 : decode cX7_span 35 = .ok (.invokevirtual 95, 3) := by decide +kernel
theorem dX7_span_38 : decode cX7_span 38 = .ok (.iload_n 3, 1) := by decide +kernel
theorem dX7_span_39 : decode cX7_span 39 = .ok (.ifCond .ne 18, 3) := by decide +kernel
theorem dX7_span_42 : decode cX7_span 42 = .ok (.aload_n 0, 1) := by decide +kernel
theorem dX7_span_43 : decode cX7_span 43 = .ok (.getfield 41, 3) := by decide +kernel
theorem dX7_span_46 : decode cX7_span 46 = .ok (.getfield 91, 3) := by decide +kernel
theorem dX7_span_49 : decode cX7_span 49 = .ok (.iload_n 1, 1) := by decide +kernel
theorem dX7_span_50 : decode cX7_span 50 = .ok (.iload_n 2, 1) := by decide +kernel
theorem dX7_span_51 : decode cX7_span 51 = .ok (.invokevirtual 101, 3) := by decide +kernel
theorem dX7_span_54 : decode cX7_span 54 = .ok (.goto 15, 3) := by decide +kernel
theorem dX7_span_57 : decode cX7_span 57 = .ok (.aload_n 0, 1) := by decide +kernel
theorem dX7_span_58 : decode cX7_span 58 = .ok (.getfield 41, 3) := by decide +kernel
theorem dX7_span_61 : decode cX7_span 61 = .ok (.getfield 91, 3) := by decide +kernel
theorem dX7_span_64 : decode cX7_span 64 = .ok (.iload_n 1, 1) := by decide +kernel
theorem dX7_span_65 : decode cX7_span 65 = .ok (.iload_n 2, 1) := by decide +kernel
theorem dX7_span_66 : decode cX7_span 66 = .ok (.invokevirtual 105, 3) := by decide +kernel
theorem dX7_span_69 : decode cX7_span 69 = .ok (.ireturn, 1) := by decide +kernel
theorem dX7_addWord_0 : decode cX7_addWord 0 = .ok (.iload_n 1, 1) := by decide +kernel
theorem dX7_addWord_1 : decode cX7_addWord 1 = .ok (.iconst 1, 1) := by decide +kernel
theorem dX7_addWord_2 : decode cX7_addWord 2 = .ok (.bipush 12, 2) := by decide +kernel
theorem dX7_addWord_4 : decode cX7_addWord 4 = .ok (.invokestatic 45, 3) := by decide +kernel
theorem dX7_addWord_7 : decode cX7_addWord 7 = .ok (.ifCond .eq 12, 3) := by decide +kernel
theorem dX7_addWord_10 : decode cX7_addWord 10 = .ok (.iload_n 2, 1) := by decide +kernel
theorem dX7_addWord_11 : decode cX7_addWord 11 = .ok (.iconst 1, 1) := by decide +kernel
theorem dX7_addWord_12 : decode cX7_addWord 12 = .ok (.iconst 3, 1) := by decide +kernel
theorem dX7_addWord_13 : decode cX7_addWord 13 = .ok (.invokestatic 45, 3) := by decide +kernel
theorem dX7_addWord_16 : decode cX7_addWord 16 = .ok (.ifCond .ne 6, 3) := by decide +kernel
theorem dX7_addWord_19 : decode cX7_addWord 19 = .ok (.bipush (-3), 2) := by decide +kernel
theorem dX7_addWord_21 : decode cX7_addWord 21 = .ok (.ireturn, 1) := by decide +kernel
theorem dX7_addWord_22 : decode cX7_addWord 22 = .ok (.aload_n 0, 1) := by decide +kernel
theorem dX7_addWord_23 : decode cX7_addWord 23 = .ok (.getfield 10, 3) := by decide +kernel
theorem dX7_addWord_26 : decode cX7_addWord 26 = .ok (.getfield 108, 3) := by decide +kernel
theorem dX7_addWord_29 : decode cX7_addWord 29 = .ok (.bipush 14, 2) := by decide +kernel
theorem dX7_addWord_31 : decode cX7_addWord 31 = .ok (.if_icmp .lt 6, 3) := by decide +kernel
theorem dX7_addWord_34 : decode cX7_addWord 34 = .ok (.bipush (-5), 2) := by decide +kernel
theorem dX7_addWord_36 : decode cX7_addWord 36 = .ok (.ireturn, 1) := by decide +kernel
theorem dX7_addWord_37 : decode cX7_addWord 37 = .ok (.aload_n 0, 1) := by decide +kernel
theorem dX7_addWord_38 : decode cX7_addWord 38 = .ok (.invokevirtual 62, 3) := by decide +kernel
theorem dX7_addWord_41 : decode cX7_addWord 41 = .ok (.aload_n 0, 1) := by decide +kernel
theorem dX7_addWord_42 : decode cX7_addWord 42 = .ok (.getfield 10, 3) := by decide +kernel
theorem dX7_addWord_45 : decode cX7_addWord 45 = .ok (.aload_n 0, 1) := by decide +kernel
theorem dX7_addWord_46 : decode cX7_addWord 46 = .ok (.getfield 10, 3) := by decide +kernel
theorem dX7_addWord_49 : decode cX7_addWord 49 = .ok (.getfield 108, 3) := by decide +kernel
theorem dX7_addWord_52 : decode cX7_addWord 52 = .ok (.iload_n 1, 1) := by decide +kernel
theorem dX7_addWord_53 : decode cX7_addWord 53 = .ok (.iload_n 2, 1) := by decide +kernel
theorem dX7_addWord_54 : decode cX7_addWord 54 = .ok (.iconst 0, 1) := by decide +kernel
theorem dX7_addWord_55 : decode cX7_addWord 55 = .ok (.invokevirtual 111, 3) := by decide +kernel
theorem dX7_addWord_58 : decode cX7_addWord 58 = .ok (.aload_n 0, 1) := by decide +kernel
theorem dX7_addWord_59 : decode cX7_addWord 59 = .ok (.getfield 10, 3) := by decide +kernel
theorem dX7_addWord_62 : decode cX7_addWord 62 = .ok (.dup, 1) := by decide +kernel
theorem dX7_addWord_63 : decode cX7_addWord 63 = .ok (.getfield 108, 3) := by decide +kernel
theorem dX7_addWord_66 : decode cX7_addWord 66 = .ok (.iconst 1, 1) := by decide +kernel
theorem dX7_addWord_67 : decode cX7_addWord 67 = .ok (.iadd, 1) := by decide +kernel
theorem dX7_addWord_68 : decode cX7_addWord 68 = .ok (.putfield 108, 3) := by decide +kernel
theorem dX7_addWord_71 : decode cX7_addWord 71 = .ok (.aload_n 0, 1) := by decide +kernel
theorem dX7_addWord_72 : decode cX7_addWord 72 = .ok (.getfield 10, 3) := by decide +kernel
theorem dX7_addWord_75 : decode cX7_addWord 75 = .ok (.getfield 108, 3) := by decide +kernel
theorem dX7_addWord_78 : decode cX7_addWord 78 = .ok (.iconst 1, 1) := by decide +kernel
theorem dX7_addWord_79 : decode cX7_addWord 79 = .ok (.isub, 1) := by decide +kernel
theorem dX7_addWord_80 : decode cX7_addWord 80 = .ok (.ireturn, 1) := by decide +kernel
theorem dX7_setWord_0 : decode cX7_setWord 0 = .ok (.iload_n 1, 1) := by decide +kernel
theorem dX7_setWord_1 : decode cX7_setWord 1 = .ok (.iconst 0, 1) := by decide +kernel
theorem dX7_setWord_2 : decode cX7_setWord 2 = .ok (.aload_n 0, 1) := by decide +kernel
theorem dX7_setWord_3 : decode cX7_setWord 3 = .ok (.getfield 10, 3) := by decide +kernel
theorem dX7_setWord_6 : decode cX7_setWord 6 = .ok (.getfield 108, 3) := by decide +kernel
theorem dX7_setWord_9 : decode cX7_setWord 9 = .ok (.iconst 1, 1) := by decide +kernel
theorem dX7_setWord_10 : decode cX7_setWord 10 = .ok (.isub, 1) := by decide +kernel
theorem dX7_setWord_11 : decode cX7_setWord 11 = .ok (.invokestatic 45, 3) := by decide +kernel
theorem dX7_setWord_14 : decode cX7_setWord 14 = .ok (.ifCond .ne 6, 3) := by decide +kernel
theorem dX7_setWord_17 : decode cX7_setWord 17 = .ok (.bipush (-2), 2) := by decide +kernel
theorem dX7_setWord_19 : decode cX7_setWord 19 = .ok (.ireturn, 1) := by decide +kernel
theorem dX7_setWord_20 : decode cX7_setWord 20 = .ok (.iload_n 2, 1) := by decide +kernel
theorem dX7_setWord_21 : decode cX7_setWord 21 = .ok (.iconst 1, 1) := by decide +kernel
theorem dX7_setWord_22 : decode cX7_setWord 22 = .ok (.bipush 12, 2) := by decide +kernel
theorem dX7_setWord_24 : decode cX7_setWord 24 = .ok (.invokestatic 45, 3) := by decide +kernel
theorem dX7_setWord_27 : decode cX7_setWord 27 = .ok (.ifCond .eq 12, 3) := by decide +kernel
theorem dX7_setWord_30 : decode cX7_setWord 30 = .ok (.iload_n 3, 1) := by decide +kernel
theorem dX7_setWord_31 : decode cX7_setWord 31 = .ok (.iconst 1, 1) := by decide +kernel
theorem dX7_setWord_32 : decode cX7_setWord 32 = .ok (.iconst 3, 1) := by decide +kernel
theorem dX7_setWord_33 : decode cX7_setWord 33 = .ok (.invokestatic 45, 3) := by decide +kernel
theorem dX7_setWord_36 : decode cX7_setWord 36 = .ok (.ifCond .ne 6, 3) := by decide +kernel
theorem dX7_setWord_39 : decode cX7_setWord 39 = .ok (.bipush (-3), 2) := by decide +kernel
theorem dX7_setWord_41 : decode cX7_setWord 41 = .ok (.ireturn, 1) := by decide +kernel
theorem dX7_setWord_42 : decode cX7_setWord 42 = .ok (.aload_n 0, 1) := by decide +kernel
theorem dX7_setWord_43 : decode cX7_setWord 43 = .ok (.invokevirtual 62, 3) := by decide +kernel
theorem dX7_setWord_46 : decode cX7_setWord 46 = .ok (.aload_n 0, 1) := by decide +kernel
theorem dX7_setWord_47 : decode cX7_setWord 47 = .ok (.getfield 10, 3) := by decide +kernel
theorem dX7_setWord_50 : decode cX7_setWord 50 = .ok (.iload_n 1, 1) := by decide +kernel
theorem dX7_setWord_51 : decode cX7_setWord 51 = .ok (.iconst 0, 1) := by decide +kernel
theorem dX7_setWord_52 : decode cX7_setWord 52 = .ok (.invokevirtual 115, 3) := by decide +kernel
theorem dX7_setWord_55 : decode cX7_setWord 55 = .ok (.istore 5, 2) := by decide +kernel
theorem dX7_setWord_57 : decode cX7_setWord 57 = .ok (.aload_n 0, 1) := by decide +kernel
theorem dX7_setWord_58 : decode cX7_setWord 58 = .ok (.getfield 10, 3) := by decide +kernel
theorem dX7_setWord_61 : decode cX7_setWord 61 = .ok (.iload_n 1, 1) := by decide +kernel
theorem dX7_setWord_62 : decode cX7_setWord 62 = .ok (.iload_n 2, 1) := by decide +kernel
theorem dX7_setWord_63 : decode cX7_setWord 63 = .ok (.iload_n 3, 1) := by decide +kernel
theorem dX7_setWord_64 : decode cX7_setWord 64 = .ok (.iload 4, 2) := by decide +kernel
theorem dX7_setWord_66 : decode cX7_setWord 66 = .ok (.ifCond .eq 7, 3) := by decide +kernel
theorem dX7_setWord_69 : decode cX7_setWord 69 = .ok (.iconst 1, 1) := by decide +kernel
theorem dX7_setWord_70 : decode cX7_setWord 70 = .ok (.goto 4, 3) := by decide +kernel
theorem dX7_setWord_73 : decode cX7_setWord 73 = .ok (.iconst 0, 1) := by decide +kernel
theorem dX7_setWord_74 : decode cX7_setWord 74 = .ok (.invokevirtual 111, 3) := by decide +kernel
theorem dX7_setWord_77 : decode cX7_setWord 77 = .ok (.iload 5, 2) := by decide +kernel
theorem dX7_setWord_79 : decode cX7_setWord 79 = .ok (.ireturn, 1) := by decide +kernel
theorem dX7_clearWords_0 : decode cX7_clearWords 0 = .ok (.aload_n 0, 1) := by decide +kernel
theorem dX7_clearWords_1 : decode cX7_clearWords 1 = .ok (.invokevirtual 62, 3) := by decide +kernel
theorem dX7_clearWords_4 : decode cX7_clearWords 4 = .ok (.aload_n 0, 1) := by decide +kernel
theorem dX7_clearWords_5 : decode cX7_clearWords 5 = .ok (.getfield 10, 3) := by decide +kernel
theorem dX7_clearWords_8 : decode cX7_clearWords 8 = .ok (.getfield 108, 3) := by decide +kernel
theorem dX7_clearWords_11 : decode cX7_clearWords 11 = .ok (.istore_n 1, 1) := by decide +kernel
theorem dX7_clearWords_12 : decode cX7_clearWords 12 = .ok (.aload_n 0, 1) := by decide +kernel
theorem dX7_clearWords_13 : decode cX7_clearWords 13 = .ok (.getfield 10, 3) := by decide +kernel
theorem dX7_clearWords_16 : decode cX7_clearWords 16 = .ok (.iconst 0, 1) := by decide +kernel
theorem dX7_clearWords_17 : decode cX7_clearWords 17 = .ok (.putfield 108, 3) := by decide +kernel
theorem dX7_clearWords_20 : decode cX7_clearWords 20 = .ok (.iload_n 1, 1) := by decide +kernel
theorem dX7_clearWords_21 : decode cX7_clearWords 21 = .ok (.ireturn, 1) := by decide +kernel
theorem dX7_setSizes_0 : decode cX7_setSizes 0 = .ok (.iload_n 1, 1) := by decide +kernel
theorem dX7_setSizes_1 : decode cX7_setSizes 1 = .ok (.iconst 0, 1) := by decide +kernel
theorem dX7_setSizes_2 : decode cX7_setSizes 2 = .ok (.iconst 4, 1) := by decide +kernel
theorem dX7_setSizes_3 : decode cX7_setSizes 3 = .ok (.invokestatic 45, 3) := by decide +kernel
theorem dX7_setSizes_6 : decode cX7_setSizes 6 = .ok (.ifCond .eq 34, 3) := by decide +kernel
theorem dX7_setSizes_9 : decode cX7_setSizes 9 = .ok (.iload_n 2, 1) := by decide +kernel
theorem dX7_setSizes_10 : decode cX7_setSizes 10 = .ok (.iconst 1, 1) := by decide +kernel
theorem dX7_setSizes_11 : decode cX7_setSizes 11 = .ok (.bipush 20, 2) := by decide +kernel
theorem dX7_setSizes_13 : decode cX7_setSizes 13 = .ok (.invokestatic 45, 3) := by decide +kernel
theorem dX7_setSizes_16 : decode cX7_setSizes 16 = .ok (.ifCond .eq 24, 3) := by decide +kernel
theorem dX7_setSizes_19 : decode cX7_setSizes 19 = .ok (.iload_n 3, 1) := by decide +kernel
theorem dX7_setSizes_20 : decode cX7_setSizes 20 = .ok (.iconst 1, 1) := by decide +kernel
theorem dX7_setSizes_21 : decode cX7_setSizes 21 = .ok (.bipush 20, 2) := by decide +kernel
theorem dX7_setSizes_23 : decode cX7_setSizes 23 = .ok (.invokestatic 45, 3) := by decide +kernel
theorem dX7_setSizes_26 : decode cX7_setSizes 26 = .ok (.ifCond .eq 14, 3) := by decide +kernel
theorem dX7_setSizes_29 : decode cX7_setSizes 29 = .ok (.iload 4, 2) := by decide +kernel
theorem dX7_setSizes_31 : decode cX7_setSizes 31 = .ok (.iconst 1, 1) := by decide +kernel
theorem dX7_setSizes_32 : decode cX7_setSizes 32 = .ok (.bipush 20, 2) := by decide +kernel
theorem dX7_setSizes_34 : decode cX7_setSizes 34 = .ok (.invokestatic 45, 3) := by decide +kernel
theorem dX7_setSizes_37 : decode cX7_setSizes 37 = .ok (.ifCond .ne 6, 3) := by decide +kernel
theorem dX7_setSizes_40 : decode cX7_setSizes 40 = .ok (.bipush (-3), 2) := by decide +kernel
theorem dX7_setSizes_42 : decode cX7_setSizes 42 = .ok (.ireturn, 1) := by decide +kernel
theorem dX7_setSizes_43 : decode cX7_setSizes 43 = .ok (.aload_n 0, 1) := by decide +kernel
theorem dX7_setSizes_44 : decode cX7_setSizes 44 = .ok (.invokevirtual 62, 3) := by decide +kernel
theorem dX7_setSizes_47 : decode cX7_setSizes 47 = .ok (.aload_n 0, 1) := by decide +kernel
theorem dX7_setSizes_48 : decode cX7_setSizes 48 = .ok (.getfield 10, 3) := by decide +kernel
theorem dX7_setSizes_51 : decode cX7_setSizes 51 = .ok (.getfield 118, 3) := by decide +kernel
theorem dX7_setSizes_54 : decode cX7_setSizes 54 = .ok (.iconst 0, 1) := by decide +kernel
theorem dX7_setSizes_55 : decode cX7_setSizes 55 = .ok (.iaload, 1) := by decide +kernel
theorem dX7_setSizes_56 : decode cX7_setSizes 56 = .ok (.istore 5, 2) := by decide +kernel
theorem dX7_setSizes_58 : decode cX7_setSizes 58 = .ok (.aload_n 0, 1) := by decide +kernel
theorem dX7_setSizes_59 : decode cX7_setSizes 59 = .ok (.getfield 10, 3) := by decide +kernel
theorem dX7_setSizes_62 : decode cX7_setSizes 62 = .ok (.getfield 118, 3) := by decide +kernel
theorem dX7_setSizes_65 : decode cX7_setSizes 65 = .ok (.iconst 0, 1) := by decide +kernel
theorem dX7_setSizes_66 : decode cX7_setSizes 66 = .ok (.iload_n 1, 1) := by decide +kernel
theorem dX7_setSizes_67 : decode cX7_setSizes 67 = .ok (.iastore, 1) := by decide +kernel
theorem dX7_setSizes_68 : decode cX7_setSizes 68 = .ok (.aload_n 0, 1) := by decide +kernel
theorem dX7_setSizes_69 : decode cX7_setSizes 69 = .ok (.getfield 10, 3) := by decide +kernel
theorem dX7_setSizes_72 : decode cX7_setSizes 72 = .ok (.getfield 118, 3) := by decide +kernel
theorem dX7_setSizes_75 : decode cX7_setSizes 75 = .ok (.iconst 1, 1) := by decide +kernel
theorem dX7_setSizes_76 : decode cX7_setSizes 76 = .ok (.iload_n 2, 1) := by decide +kernel
theorem dX7_setSizes_77 : decode cX7_setSizes 77 = .ok (.iastore, 1) := by decide +kernel
theorem dX7_setSizes_78 : decode cX7_setSizes 78 = .ok (.aload_n 0, 1) := by decide +kernel
theorem dX7_setSizes_79 : decode cX7_setSizes 79 = .ok (.getfield 10, 3) := by decide +kernel
theorem dX7_setSizes_82 : decode cX7_setSizes 82 = .ok (.getfield 118, 3) := by decide +kernel
theorem dX7_setSizes_85 : decode cX7_setSizes 85 = .ok (.iconst 2, 1) := by decide +kernel
theorem dX7_setSizes_86 : decode cX7_setSizes 86 = .ok (.iload_n 3, 1) := by decide +kernel
theorem dX7_setSizes_87 : decode cX7_setSizes 87 = .ok (.iastore, 1) := by decide +kernel
theorem dX7_setSizes_88 : decode cX7_setSizes 88 = .ok (.aload_n 0, 1) := by decide +kernel
theorem dX7_setSizes_89 : decode cX7_setSizes 89 = .ok (.getfield 10, 3) := by decide +kernel
theorem dX7_setSizes_92 : decode cX7_setSizes 92 = .ok (.getfield 118, 3) := by decide +kernel
theorem dX7_setSizes_95 : decode cX7_setSizes 95 = .ok (.iconst 3, 1) := by decide +kernel
theorem dX7_setSizes_96 : decode cX7_setSizes 96 = .ok (.iload 4, 2) := by decide +kernel
theorem dX7_setSizes_98 : decode cX7_setSizes 98 = .ok (.iastore, 1) := by decide +kernel
theorem dX7_setSizes_99 : decode cX7_setSizes 99 = .ok (.iload 5, 2) := by decide +kernel
theorem dX7_setSizes_101 : decode cX7_setSizes 101 = .ok (.ireturn, 1) := by decide +kernel
theorem dX7_setLines_0 : decode cX7_setLines 0 = .ok (.iload_n 1, 1) := by decide +kernel
theorem dX7_setLines_1 : decode cX7_setLines 1 = .ok (.iconst 0, 1) := by decide +kernel
theorem dX7_setLines_2 : decode cX7_setLines 2 = .ok (.bipush 35, 2) := by decide +kernel
theorem dX7_setLines_4 : decode cX7_setLines 4 = .ok (.invokestatic 45, 3) := by decide +kernel
theorem dX7_setLines_7 : decode cX7_setLines 7 = .ok (.ifCond .eq 32, 3) := by decide +kernel
theorem dX7_setLines_10 : decode cX7_setLines 10 = .ok (.iload_n 2, 1) := by decide +kernel
theorem dX7_setLines_11 : decode cX7_setLines 11 = .ok (.iconst 0, 1) := by decide +kernel
theorem dX7_setLines_12 : decode cX7_setLines 12 = .ok (.iconst 5, 1) := by decide +kernel
theorem dX7_setLines_13 : decode cX7_setLines 13 = .ok (.invokestatic 45, 3) := by decide +kernel
theorem dX7_setLines_16 : decode cX7_setLines 16 = .ok (.ifCond .eq 23, 3) := by decide +kernel
theorem dX7_setLines_19 : decode cX7_setLines 19 = .ok (.iload_n 3, 1) := by decide +kernel
theorem dX7_setLines_20 : decode cX7_setLines 20 = .ok (.iconst 0, 1) := by decide +kernel
theorem dX7_setLines_21 : decode cX7_setLines 21 = .ok (.iconst 2, 1) := by decide +kernel
theorem dX7_setLines_22 : decode cX7_setLines 22 = .ok (.invokestatic 45, 3) := by decide +kernel
theorem dX7_setLines_25 : decode cX7_setLines 25 = .ok (.ifCond .eq 14, 3) := by decide +kernel
theorem dX7_setLines_28 : decode cX7_setLines 28 = .ok (.iload 4, 2) := by decide +kernel
theorem dX7_setLines_30 : decode cX7_setLines 30 = .ok (.iconst 1, 1) := by decide +kernel
theorem dX7_setLines_31 : decode cX7_setLines 31 = .ok (.bipush 9, 2) := by decide +kernel
theorem dX7_setLines_33 : decode cX7_setLines 33 = .ok (.invokestatic 45, 3) := by decide +kernel
theorem dX7_setLines_36 : decode cX7_setLines 36 = .ok (.ifCond .ne 6, 3) := by decide +kernel
theorem dX7_setLines_39 : decode cX7_setLines 39 = .ok (.bipush (-3), 2) := by decide +kernel
theorem dX7_setLines_41 : decode cX7_setLines 41 = .ok (.ireturn, 1) := by decide +kernel
theorem dX7_setLines_42 : decode cX7_setLines 42 = .ok (.aload_n 0, 1) := by decide +kernel
theorem dX7_setLines_43 : decode cX7_setLines 43 = .ok (.invokevirtual 62, 3) := by decide +kernel
theorem dX7_setLines_46 : decode cX7_setLines 46 = .ok (.aload_n 0, 1) := by decide +kernel
theorem dX7_setLines_47 : decode cX7_setLines 47 = .ok (.getfield 10, 3) := by decide +kernel
theorem dX7_setLines_50 : decode cX7_setLines 50 = .ok (.getfield 118, 3) := by decide +kernel
theorem dX7_setLines_53 : decode cX7_setLines 53 = .ok (.iconst 4, 1) := by decide +kernel
theorem dX7_setLines_54 : decode cX7_setLines 54 = .ok (.iaload, 1) := by decide +kernel
theorem dX7_setLines_55 : decode cX7_setLines 55 = .ok (.istore 5, 2) := by decide +kernel
theorem dX7_setLines_57 : decode cX7_setLines 57 = .ok (.aload_n 0, 1) := by decide +kernel
theorem dX7_setLines_58 : decode cX7_setLines 58 = .ok (.getfield 10, 3) := by decide +kernel
theorem dX7_setLines_61 : decode cX7_setLines 61 = .ok (.getfield 118, 3) := by decide +kernel
theorem dX7_setLines_64 : decode cX7_setLines 64 = .ok (.iconst 4, 1) := by decide +kernel
theorem dX7_setLines_65 : decode cX7_setLines 65 = .ok (.iload_n 1, 1) := by decide +kernel
theorem dX7_setLines_66 : decode cX7_setLines 66 = .ok (.iastore, 1) := by decide +kernel
theorem dX7_setLines_67 : decode cX7_setLines 67 = .ok (.aload_n 0, 1) := by decide +kernel
theorem dX7_setLines_68 : decode cX7_setLines 68 = .ok (.getfield 10, 3) := by decide +kernel
theorem dX7_setLines_71 : decode cX7_setLines 71 = .ok (.getfield 118, 3) := by decide +kernel
theorem dX7_setLines_74 : decode cX7_setLines 74 = .ok (.iconst 5, 1) := by decide +kernel
theorem dX7_setLines_75 : decode cX7_setLines 75 = .ok (.iload_n 2, 1) := by decide +kernel
theorem dX7_setLines_76 : decode cX7_setLines 76 = .ok (.iastore, 1) := by decide +kernel
theorem dX7_setLines_77 : decode cX7_setLines 77 = .ok (.aload_n 0, 1) := by decide +kernel
theorem dX7_setLines_78 : decode cX7_setLines 78 = .ok (.getfield 10, 3) := by decide +kernel
theorem dX7_setLines_81 : decode cX7_setLines 81 = .ok (.getfield 118, 3) := by decide +kernel
theorem dX7_setLines_84 : decode cX7_setLines 84 = .ok (.bipush 6, 2) := by decide +kernel
theorem dX7_setLines_86 : decode cX7_setLines 86 = .ok (.iload_n 3, 1) := by decide +kernel
theorem dX7_setLines_87 : decode cX7_setLines 87 = .ok (.iastore, 1) := by decide +kernel
theorem dX7_setLines_88 : decode cX7_setLines 88 = .ok (.aload_n 0, 1) := by decide +kernel
theorem dX7_setLines_89 : decode cX7_setLines 89 = .ok (.getfield 10, 3) := by decide +kernel
theorem dX7_setLines_92 : decode cX7_setLines 92 = .ok (.getfield 118, 3) := by decide +kernel
theorem dX7_setLines_95 : decode cX7_setLines 95 = .ok (.bipush 7, 2) := by decide +kernel
theorem dX7_setLines_97 : decode cX7_setLines 97 = .ok (.iload 4, 2) := by decide +kernel
theorem dX7_setLines_99 : decode cX7_setLines 99 = .ok (.iastore, 1) := by decide +kernel
theorem dX7_setLines_100 : decode cX7_setLines 100 = .ok (.iload 5, 2) := by decide +kernel
theorem dX7_setLines_102 : decode cX7_setLines 102 = .ok (.ireturn, 1) := by decide +kernel
theorem dX7_count_0 : decode cX7_count 0 = .ok (.iload_n 1, 1) := by decide +kernel
theorem dX7_count_1 : decode cX7_count 1 = .ok (.iconst 2, 1) := by decide +kernel
theorem dX7_count_2 : decode cX7_count 2 = .ok (.bipush 9, 2) := by decide +kernel
theorem dX7_count_4 : decode cX7_count 4 = .ok (.invokestatic 45, 3) := by decide +kernel
theorem dX7_count_7 : decode cX7_count 7 = .ok (.ifCond .eq 15, 3) := by decide +kernel
theorem dX7_count_10 : decode cX7_count 10 = .ok (.aload_n 0, 1) := by decide +kernel
theorem dX7_count_11 : decode cX7_count 11 = .ok (.getfield 10, 3) := by decide +kernel
theorem dX7_count_14 : decode cX7_count 14 = .ok (.getfield 118, 3) := by decide +kernel
theorem dX7_count_17 : decode cX7_count 17 = .ok (.iload_n 1, 1) := by decide +kernel
theorem dX7_count_18 : decode cX7_count 18 = .ok (.iconst 2, 1) := by decide +kernel
theorem dX7_count_19 : decode cX7_count 19 = .ok (.isub, 1) := by decide +kernel
theorem dX7_count_20 : decode cX7_count 20 = .ok (.iaload, 1) := by decide +kernel
theorem dX7_count_21 : decode cX7_count 21 = .ok (.ireturn, 1) := by decide +kernel
theorem dX7_count_22 : decode cX7_count 22 = .ok (.iload_n 1, 1) := by decide +kernel
theorem dX7_count_23 : decode cX7_count 23 = .ok (.lookupswitch 87 #[(0, 41), (1, 52), (10, 60), (11, 71)], 41) := by decide +kernel
theorem dX7_count_64 : decode cX7_count 64 = .ok (.aload_n 0, 1) := by decide +kernel
theorem dX7_count_65 : decode cX7_count 65 = .ok (.getfield 10, 3) := by decide +kernel
theorem dX7_count_68 : decode cX7_count 68 = .ok (.getfield 53, 3) := by decide +kernel
theorem dX7_count_71 : decode cX7_count 71 = .ok (.getfield 57, 3) := by decide +kernel
theorem dX7_count_74 : decode cX7_count 74 = .ok (.ireturn, 1) := by decide +kernel
theorem dX7_count_75 : decode cX7_count 75 = .ok (.aload_n 0, 1) := by decide +kernel
theorem dX7_count_76 : decode cX7_count 76 = .ok (.getfield 10, 3) := by decide +kernel
theorem dX7_count_79 : decode cX7_count 79 = .ok (.getfield 108, 3) := by decide +kernel
theorem dX7_count_82 : decode cX7_count 82 = .ok (.ireturn, 1) := by decide +kernel
theorem dX7_count_83 : decode cX7_count 83 = .ok (.aload_n 0, 1) := by decide +kernel
theorem dX7_count_84 : decode cX7_count 84 = .ok (.getfield 10, 3) := by decide +kernel
theorem dX7_count_87 : decode cX7_count 87 = .ok (.getfield 53, 3) := by decide +kernel
theorem dX7_count_90 : decode cX7_count 90 = .ok (.invokevirtual 76, 3) := by decide +kernel
theorem dX7_count_93 : decode cX7_count 93 = .ok (.ireturn, 1) := by decide +kernel
theorem dX7_count_94 : decode cX7_count 94 = .ok (.aload_n 0, 1) := by decide +kernel
theorem dX7_count_95 : decode cX7_count 95 = .ok (.getfield 10, 3) := by decide +kernel
theorem dX7_count_98 : decode cX7_count 98 = .ok (.getfield 121, 3) := by decide +kernel
theorem dX7_count_101 : decode cX7_count 101 = .ok (.ifnull 7, 3) := by decide +kernel
theorem dX7_count_104 : decode cX7_count 104 = .ok (.iconst 1, 1) := by decide +kernel
theorem dX7_count_105 : decode cX7_count 105 = .ok (.goto 4, 3) := by decide +kernel
theorem dX7_count_108 : decode cX7_count 108 = .ok (.iconst 0, 1) := by decide +kernel
theorem dX7_count_109 : decode cX7_count 109 = .ok (.ireturn, 1) := by decide +kernel
theorem dX7_count_110 : decode cX7_count 110 = .ok (.bipush (-3), 2) := by decide +kernel
theorem dX7_count_112 : decode cX7_count 112 = .ok (.ireturn, 1) := by decide +kernel
theorem dX7_word_0 : decode cX7_word 0 = .ok (.iload_n 1, 1) := by decide +kernel
theorem dX7_word_1 : decode cX7_word 1 = .ok (.iconst 0, 1) := by decide +kernel
theorem dX7_word_2 : decode cX7_word 2 = .ok (.aload_n 0, 1) := by decide +kernel
theorem dX7_word_3 : decode cX7_word 3 = .ok (.getfield 10, 3) := by decide +kernel
theorem dX7_word_6 : decode cX7_word 6 = .ok (.getfield 108, 3) := by decide +kernel
theorem dX7_word_9 : decode cX7_word 9 = .ok (.iconst 1, 1) := by decide +kernel
theorem dX7_word_10 : decode cX7_word 10 = .ok (.isub, 1) := by decide +kernel
theorem dX7_word_11 : decode cX7_word 11 = .ok (.invokestatic 45, 3) := by decide +kernel
theorem dX7_word_14 : decode cX7_word 14 = .ok (.ifCond .ne 6, 3) := by decide +kernel
theorem dX7_word_17 : decode cX7_word 17 = .ok (.bipush (-2), 2) := by decide +kernel
theorem dX7_word_19 : decode cX7_word 19 = .ok (.ireturn, 1) := by decide +kernel
theorem dX7_word_20 : decode cX7_word 20 = .ok (.iload_n 2, 1) := by decide +kernel
theorem dX7_word_21 : decode cX7_word 21 = .ok (.iconst 0, 1) := by decide +kernel
theorem dX7_word_22 : decode cX7_word 22 = .ok (.iconst 2, 1) := by decide +kernel
theorem dX7_word_23 : decode cX7_word 23 = .ok (.invokestatic 45, 3) := by decide +kernel
theorem dX7_word_26 : decode cX7_word 26 = .ok (.ifCond .ne 6, 3) := by decide +kernel
theorem dX7_word_29 : decode cX7_word 29 = .ok (.bipush (-3), 2) := by decide +kernel
theorem dX7_word_31 : decode cX7_word 31 = .ok (.ireturn, 1) := by decide +kernel
theorem dX7_word_32 : decode cX7_word 32 = .ok (.aload_n 0, 1) := by decide +kernel
theorem dX7_word_33 : decode cX7_word 33 = .ok (.getfield 10, 3) := by decide +kernel
theorem dX7_word_36 : decode cX7_word 36 = .ok (.iload_n 1, 1) := by decide +kernel
theorem dX7_word_37 : decode cX7_word 37 = .ok (.iload_n 2, 1) := by decide +kernel
theorem dX7_word_38 : decode cX7_word 38 = .ok (.invokevirtual 115, 3) := by decide +kernel
theorem dX7_word_41 : decode cX7_word 41 = .ok (.ireturn, 1) := by decide +kernel
theorem dX7_cost_0 : decode cX7_cost 0 = .ok (.iload_n 1, 1) := by decide +kernel
theorem dX7_cost_1 : decode cX7_cost 1 = .ok (.iconst 1, 1) := by decide +kernel
theorem dX7_cost_2 : decode cX7_cost 2 = .ok (.bipush 12, 2) := by decide +kernel
theorem dX7_cost_4 : decode cX7_cost 4 = .ok (.invokestatic 45, 3) := by decide +kernel
theorem dX7_cost_7 : decode cX7_cost 7 = .ok (.ifCond .ne 6, 3) := by decide +kernel
theorem dX7_cost_10 : decode cX7_cost 10 = .ok (.bipush (-3), 2) := by decide +kernel
theorem dX7_cost_12 : decode cX7_cost 12 = .ok (.ireturn, 1) := by decide +kernel
theorem dX7_cost_13 : decode cX7_cost 13 = .ok (.aload_n 0, 1) := by decide +kernel
theorem dX7_cost_14 : decode cX7_cost 14 = .ok (.getfield 41, 3) := by decide +kernel
theorem dX7_cost_17 : decode cX7_cost 17 = .ok (.aload_n 0, 1) := by decide +kernel
theorem dX7_cost_18 : decode cX7_cost 18 = .ok (.getfield 10, 3) := by decide +kernel
theorem dX7_cost_21 : decode cX7_cost 21 = .ok (.iload_n 1, 1) := by decide +kernel
theorem dX7_cost_22 : decode cX7_cost 22 = .ok (.invokevirtual 125, 3) := by decide +kernel
theorem dX7_cost_25 : decode cX7_cost 25 = .ok (.ireturn, 1) := by decide +kernel
theorem dX7_fit_0 : decode cX7_fit 0 = .ok (.aload_n 0, 1) := by decide +kernel
theorem dX7_fit_1 : decode cX7_fit 1 = .ok (.aload_n 0, 1) := by decide +kernel
theorem dX7_fit_2 : decode cX7_fit 2 = .ok (.getfield 10, 3) := by decide +kernel
theorem dX7_fit_5 : decode cX7_fit 5 = .ok (.getfield 118, 3) := by decide +kernel
theorem dX7_fit_8 : decode cX7_fit 8 = .ok (.bipush 7, 2) := by decide +kernel
theorem dX7_fit_10 : decode cX7_fit 10 = .ok (.iaload, 1) := by decide +kernel
theorem dX7_fit_11 : decode cX7_fit 11 = .ok (.invokevirtual 129, 3) := by decide +kernel
theorem dX7_fit_14 : decode cX7_fit 14 = .ok (.ireturn, 1) := by decide +kernel
theorem dX7_allowed_0 : decode cX7_allowed 0 = .ok (.iload_n 1, 1) := by decide +kernel
theorem dX7_allowed_1 : decode cX7_allowed 1 = .ok (.iconst 1, 1) := by decide +kernel
theorem dX7_allowed_2 : decode cX7_allowed 2 = .ok (.bipush 12, 2) := by decide +kernel
theorem dX7_allowed_4 : decode cX7_allowed 4 = .ok (.invokestatic 45, 3) := by decide +kernel
theorem dX7_allowed_7 : decode cX7_allowed 7 = .ok (.ifCond .ne 6, 3) := by decide +kernel
theorem dX7_allowed_10 : decode cX7_allowed 10 = .ok (.bipush (-3), 2) := by decide +kernel
theorem dX7_allowed_12 : decode cX7_allowed 12 = .ok (.ireturn, 1) := by decide +kernel
theorem dX7_allowed_13 : decode cX7_allowed 13 = .ok (.aload_n 0, 1) := by decide +kernel
theorem dX7_allowed_14 : decode cX7_allowed 14 = .ok (.getfield 41, 3) := by decide +kernel
theorem dX7_allowed_17 : decode cX7_allowed 17 = .ok (.aload_n 0, 1) := by decide +kernel
theorem dX7_allowed_18 : decode cX7_allowed 18 = .ok (.getfield 10, 3) := by decide +kernel
theorem dX7_allowed_21 : decode cX7_allowed 21 = .ok (.iload_n 1, 1) := by decide +kernel
theorem dX7_allowed_22 : decode cX7_allowed 22 = .ok (.invokevirtual 133, 3) := by decide +kernel
theorem dX7_allowed_25 : decode cX7_allowed 25 = .ok (.ireturn, 1) := by decide +kernel
theorem dX7_take_0 : decode cX7_take 0 = .ok (.iload_n 1, 1) := by decide +kernel
theorem dX7_take_1 : decode cX7_take 1 = .ok (.iconst 0, 1) := by decide +kernel
theorem dX7_take_2 : decode cX7_take 2 = .ok (.bipush 12, 2) := by decide +kernel
theorem dX7_take_4 : decode cX7_take 4 = .ok (.invokestatic 45, 3) := by decide +kernel
theorem dX7_take_7 : decode cX7_take 7 = .ok (.ifCond .ne 6, 3) := by decide +kernel
theorem dX7_take_10 : decode cX7_take 10 = .ok (.bipush (-3), 2) := by decide +kernel
theorem dX7_take_12 : decode cX7_take 12 = .ok (.ireturn, 1) := by decide +kernel
theorem dX7_take_13 : decode cX7_take 13 = .ok (.aload_n 0, 1) := by decide +kernel
theorem dX7_take_14 : decode cX7_take 14 = .ok (.invokevirtual 62, 3) := by decide +kernel
theorem dX7_take_17 : decode cX7_take 17 = .ok (.iload_n 1, 1) := by decide +kernel
theorem dX7_take_18 : decode cX7_take 18 = .ok (.ifCond .ne 20, 3) := by decide +kernel
theorem dX7_take_21 : decode cX7_take 21 = .ok (.aload_n 0, 1) := by decide +kernel
theorem dX7_take_22 : decode cX7_take 22 = .ok (.aload_n 0, 1) := by decide +kernel
theorem dX7_take_23 : decode cX7_take 23 = .ok (.getfield 10, 3) := by decide +kernel
theorem dX7_take_26 : decode cX7_take 26 = .ok (.getfield 118, 3) := by decide +kernel
theorem dX7_take_29 : decode cX7_take 29 = .ok (.bipush 7, 2) := by decide +kernel
theorem dX7_take_31 : decode cX7_take 31 = .ok (.iaload, 1) := by decide +kernel
theorem dX7_take_32 : decode cX7_take 32 = .ok (.invokevirtual 129, 3) := by decide +kernel
theorem dX7_take_35 : decode cX7_take 35 = .ok (.goto 4, 3) := by decide +kernel
theorem dX7_take_38 : decode cX7_take 38 = .ok (.iload_n 1, 1) := by decide +kernel
theorem dX7_take_39 : decode cX7_take 39 = .ok (.istore_n 2, 1) := by decide +kernel
theorem dX7_take_40 : decode cX7_take 40 = .ok (.iload_n 2, 1) := by decide +kernel
theorem dX7_take_41 : decode cX7_take 41 = .ok (.iconst (-1), 1) := by decide +kernel
theorem dX7_take_42 : decode cX7_take 42 = .ok (.if_icmp .ne 7, 3) := by decide +kernel
theorem dX7_take_45 : decode cX7_take 45 = .ok (.iconst (-1), 1) := by decide +kernel
theorem dX7_take_46 : decode cX7_take 46 = .ok (.goto 15, 3) := by decide +kernel
theorem dX7_take_49 : decode cX7_take 49 = .ok (.aload_n 0, 1) := by decide +kernel
theorem dX7_take_50 : decode cX7_take 50 = .ok (.getfield 41, 3) := by decide +kernel
theorem dX7_take_53 : decode cX7_take 53 = .ok (.aload_n 0, 1) := by decide +kernel
theorem dX7_take_54 : decode cX7_take 54 = .ok (.getfield 10, 3) := by decide +kernel
theorem dX7_take_57 : decode cX7_take 57 = .ok (.iload_n 2, 1) := by decide +kernel
theorem dX7_take_58 : decode cX7_take 58 = .ok (.invokevirtual 125, 3) := by decide +kernel
theorem dX7_take_61 : decode cX7_take 61 = .ok (.istore_n 3, 1) := by decide +kernel
theorem dX7_take_62 : decode cX7_take 62 = .ok (.iload_n 3, 1) := by decide +kernel
theorem dX7_take_63 : decode cX7_take 63 = .ok (.iconst (-1), 1) := by decide +kernel
theorem dX7_take_64 : decode cX7_take 64 = .ok (.if_icmp .eq 18, 3) := by decide +kernel
theorem dX7_take_67 : decode cX7_take 67 = .ok (.aload_n 0, 1) := by decide +kernel
theorem dX7_take_68 : decode cX7_take 68 = .ok (.getfield 10, 3) := by decide +kernel
theorem dX7_take_71 : decode cX7_take 71 = .ok (.aload_n 0, 1) := by decide +kernel
theorem dX7_take_72 : decode cX7_take 72 = .ok (.getfield 41, 3) := by decide +kernel
theorem dX7_take_75 : decode cX7_take 75 = .ok (.iload_n 2, 1) := by decide +kernel
theorem dX7_take_76 : decode cX7_take 76 = .ok (.invokevirtual 136, 3) := by decide +kernel
theorem dX7_take_79 : decode cX7_take 79 = .ok (.putfield 121, 3) := by decide +kernel
theorem dX7_take_82 : decode cX7_take 82 = .ok (.iload_n 3, 1) := by decide +kernel
theorem dX7_take_83 : decode cX7_take 83 = .ok (.ireturn, 1) := by decide +kernel
theorem dX7_widestStep_0 : decode cX7_widestStep 0 = .ok (.iload_n 1, 1) := by decide +kernel
theorem dX7_widestStep_1 : decode cX7_widestStep 1 = .ok (.iconst 1, 1) := by decide +kernel
theorem dX7_widestStep_2 : decode cX7_widestStep 2 = .ok (.bipush 12, 2) := by decide +kernel
theorem dX7_widestStep_4 : decode cX7_widestStep 4 = .ok (.invokestatic 45, 3) := by decide +kernel
theorem dX7_widestStep_7 : decode cX7_widestStep 7 = .ok (.ifCond .ne 6, 3) := by decide +kernel
theorem dX7_widestStep_10 : decode cX7_widestStep 10 = .ok (.bipush (-3), 2) := by decide +kernel
theorem dX7_widestStep_12 : decode cX7_widestStep 12 = .ok (.ireturn, 1) := by decide +kernel
theorem dX7_widestStep_13 : decode cX7_widestStep 13 = .ok (.iconst 4, 1) := by decide +kernel
theorem dX7_widestStep_14 : decode cX7_widestStep 14 = .ok (.istore_n 2, 1) := by decide +kernel
theorem dX7_widestStep_15 : decode cX7_widestStep 15 = .ok (.iload_n 2, 1) := by decide +kernel
theorem dX7_widestStep_16 : decode cX7_widestStep 16 = .ok (.ifCond .lt 37, 3) := by decide +kernel
theorem dX7_widestStep_19 : decode cX7_widestStep 19 = .ok (.aload_n 0, 1) := by decide +kernel
theorem dX7_widestStep_20 : decode cX7_widestStep 20 = .ok (.getfield 41, 3) := by decide +kernel
theorem dX7_widestStep_23 : decode cX7_widestStep 23 = .ok (.aload_n 0, 1) := by decide +kernel
theorem dX7_widestStep_24 : decode cX7_widestStep 24 = .ok (.getfield 10, 3) := by decide +kernel
theorem dX7_widestStep_27 : decode cX7_widestStep 27 = .ok (.iload_n 1, 1) := by decide +kernel
theorem dX7_widestStep_28 : decode cX7_widestStep 28 = .ok (.iload_n 2, 1) := by decide +kernel
theorem dX7_widestStep_29 : decode cX7_widestStep 29 = .ok (.aload_n 0, 1) := by decide +kernel
theorem dX7_widestStep_30 : decode cX7_widestStep 30 = .ok (.getfield 10, 3) := by decide +kernel
theorem dX7_widestStep_33 : decode cX7_widestStep 33 = .ok (.getfield 118, 3) := by decide +kernel
theorem dX7_widestStep_36 : decode cX7_widestStep 36 = .ok (.bipush 7, 2) := by decide +kernel
theorem dX7_widestStep_38 : decode cX7_widestStep 38 = .ok (.iaload, 1) := by decide +kernel
theorem dX7_widestStep_39 : decode cX7_widestStep 39 = .ok (.invokevirtual 140, 3) := by decide +kernel
theorem dX7_widestStep_42 : decode cX7_widestStep 42 = .ok (.ifCond .eq 5, 3) := by decide +kernel
theorem dX7_widestStep_45 : decode cX7_widestStep 45 = .ok (.iload_n 2, 1) := by decide +kernel
theorem dX7_widestStep_46 : decode cX7_widestStep 46 = .ok (.ireturn, 1) := by decide +kernel
theorem dX7_widestStep_47 : decode cX7_widestStep 47 = .ok (.iinc 2 (-1), 3) := by decide +kernel
theorem dX7_widestStep_50 : decode cX7_widestStep 50 = .ok (.goto (-35), 3) := by decide +kernel
theorem dX7_widestStep_53 : decode cX7_widestStep 53 = .ok (.iconst (-1), 1) := by decide +kernel
theorem dX7_widestStep_54 : decode cX7_widestStep 54 = .ok (.ireturn, 1) := by decide +kernel
theorem dX7_tightestLimit_0 : decode cX7_tightestLimit 0 = .ok (.aload_n 0, 1) := by decide +kernel
theorem dX7_tightestLimit_1 : decode cX7_tightestLimit 1 = .ok (.bipush 9, 2) := by decide +kernel
theorem dX7_tightestLimit_3 : decode cX7_tightestLimit 3 = .ok (.invokevirtual 129, 3) := by decide +kernel
theorem dX7_tightestLimit_6 : decode cX7_tightestLimit 6 = .ok (.istore_n 1, 1) := by decide +kernel
theorem dX7_tightestLimit_7 : decode cX7_tightestLimit 7 = .ok (.iload_n 1, 1) := by decide +kernel
theorem dX7_tightestLimit_8 : decode cX7_tightestLimit 8 = .ok (.iconst (-1), 1) := by decide +kernel
theorem dX7_tightestLimit_9 : decode cX7_tightestLimit 9 = .ok (.if_icmp .ne 5, 3) := by decide +kernel
theorem dX7_tightestLimit_12 : decode cX7_tightestLimit 12 = .ok (.iconst (-1), 1) := by decide +kernel
theorem dX7_tightestLimit_13 : decode cX7_tightestLimit 13 = .ok (.ireturn, 1) := by decide +kernel
theorem dX7_tightestLimit_14 : decode cX7_tightestLimit 14 = .ok (.iconst 1, 1) := by decide +kernel
theorem dX7_tightestLimit_15 : decode cX7_tightestLimit 15 = .ok (.istore_n 2, 1) := by decide +kernel
theorem dX7_tightestLimit_16 : decode cX7_tightestLimit 16 = .ok (.iload_n 2, 1) := by decide +kernel
theorem dX7_tightestLimit_17 : decode cX7_tightestLimit 17 = .ok (.bipush 9, 2) := by decide +kernel
theorem dX7_tightestLimit_19 : decode cX7_tightestLimit 19 = .ok (.if_icmp .ge 36, 3) := by decide +kernel
theorem dX7_tightestLimit_22 : decode cX7_tightestLimit 22 = .ok (.aload_n 0, 1) := by decide +kernel
theorem dX7_tightestLimit_23 : decode cX7_tightestLimit 23 = .ok (.getfield 41, 3) := by decide +kernel
theorem dX7_tightestLimit_26 : decode cX7_tightestLimit 26 = .ok (.aload_n 0, 1) := by decide +kernel
theorem dX7_tightestLimit_27 : decode cX7_tightestLimit 27 = .ok (.getfield 10, 3) := by decide +kernel
theorem dX7_tightestLimit_30 : decode cX7_tightestLimit 30 = .ok (.iload_n 1, 1) := by decide +kernel
theorem dX7_tightestLimit_31 : decode cX7_tightestLimit 31 = .ok (.aload_n 0, 1) := by decide +kernel
theorem dX7_tightestLimit_32 : decode cX7_tightestLimit 32 = .ok (.getfield 10, 3) := by decide +kernel
theorem dX7_tightestLimit_35 : decode cX7_tightestLimit 35 = .ok (.getfield 118, 3) := by decide +kernel
theorem dX7_tightestLimit_38 : decode cX7_tightestLimit 38 = .ok (.iconst 0, 1) := by decide +kernel
theorem dX7_tightestLimit_39 : decode cX7_tightestLimit 39 = .ok (.iaload, 1) := by decide +kernel
theorem dX7_tightestLimit_40 : decode cX7_tightestLimit 40 = .ok (.iload_n 2, 1) := by decide +kernel
theorem dX7_tightestLimit_41 : decode cX7_tightestLimit 41 = .ok (.invokevirtual 140, 3) := by decide +kernel
theorem dX7_tightestLimit_44 : decode cX7_tightestLimit 44 = .ok (.ifCond .eq 5, 3) := by decide +kernel
theorem dX7_tightestLimit_47 : decode cX7_tightestLimit 47 = .ok (.iload_n 2, 1) := by decide +kernel
theorem dX7_tightestLimit_48 : decode cX7_tightestLimit 48 = .ok (.ireturn, 1) := by decide +kernel
theorem dX7_tightestLimit_49 : decode cX7_tightestLimit 49 = .ok (.iinc 2 1, 3) := by decide +kernel
theorem dX7_tightestLimit_52 : decode cX7_tightestLimit 52 = .ok (.goto (-36), 3) := by decide +kernel
theorem dX7_tightestLimit_55 : decode cX7_tightestLimit 55 = .ok (.bipush 9, 2) := by decide +kernel
theorem dX7_tightestLimit_57 : decode cX7_tightestLimit 57 = .ok (.ireturn, 1) := by decide +kernel
theorem dX7_layout_0 : decode cX7_layout 0 = .ok (.iload_n 1, 1) := by decide +kernel
theorem dX7_layout_1 : decode cX7_layout 1 = .ok (.iconst 0, 1) := by decide +kernel
theorem dX7_layout_2 : decode cX7_layout 2 = .ok (.iconst 4, 1) := by decide +kernel
theorem dX7_layout_3 : decode cX7_layout 3 = .ok (.invokestatic 45, 3) := by decide +kernel
theorem dX7_layout_6 : decode cX7_layout 6 = .ok (.ifCond .ne 6, 3) := by decide +kernel
theorem dX7_layout_9 : decode cX7_layout 9 = .ok (.bipush (-3), 2) := by decide +kernel
theorem dX7_layout_11 : decode cX7_layout 11 = .ok (.ireturn, 1) := by decide +kernel
theorem dX7_layout_12 : decode cX7_layout 12 = .ok (.aload_n 0, 1) := by decide +kernel
theorem dX7_layout_13 : decode cX7_layout 13 = .ok (.getfield 10, 3) := by decide +kernel
theorem dX7_layout_16 : decode cX7_layout 16 = .ok (.getfield 121, 3) := by decide +kernel
theorem dX7_layout_19 : decode cX7_layout 19 = .ok (.ifnonnull 6, 3) := by decide +kernel
theorem dX7_layout_22 : decode cX7_layout 22 = .ok (.bipush (-4), 2) := by decide +kernel
theorem dX7_layout_24 : decode cX7_layout 24 = .ok (.ireturn, 1) := by decide +kernel
theorem dX7_layout_25 : decode cX7_layout 25 = .ok (.aload_n 0, 1) := by decide +kernel
theorem dX7_layout_26 : decode cX7_layout 26 = .ok (.getfield 10, 3) := by decide +kernel
theorem dX7_layout_29 : decode cX7_layout 29 = .ok (.getfield 121, 3) := by decide +kernel
theorem dX7_layout_32 : decode cX7_layout 32 = .ok (.getfield 144, 3) := by decide +kernel
theorem dX7_layout_35 : decode cX7_layout 35 = .ok (.iload_n 1, 1) := by decide +kernel
theorem dX7_layout_36 : decode cX7_layout 36 = .ok (.iaload, 1) := by decide +kernel
theorem dX7_layout_37 : decode cX7_layout 37 = .ok (.ireturn, 1) := by decide +kernel
theorem dX7_line_0 : decode cX7_line 0 = .ok (.aload_n 0, 1) := by decide +kernel
theorem dX7_line_1 : decode cX7_line 1 = .ok (.getfield 10, 3) := by decide +kernel
theorem dX7_line_4 : decode cX7_line 4 = .ok (.getfield 121, 3) := by decide +kernel
theorem dX7_line_7 : decode cX7_line 7 = .ok (.ifnonnull 6, 3) := by decide +kernel
theorem dX7_line_10 : decode cX7_line 10 = .ok (.bipush (-4), 2) := by decide +kernel
theorem dX7_line_12 : decode cX7_line 12 = .ok (.ireturn, 1) := by decide +kernel
theorem dX7_line_13 : decode cX7_line 13 = .ok (.iload_n 1, 1) := by decide +kernel
theorem dX7_line_14 : decode cX7_line 14 = .ok (.iconst 0, 1) := by decide +kernel
theorem dX7_line_15 : decode cX7_line 15 = .ok (.aload_n 0, 1) := by decide +kernel
theorem dX7_line_16 : decode cX7_line 16 = .ok (.getfield 10, 3) := by decide +kernel
theorem dX7_line_19 : decode cX7_line 19 = .ok (.getfield 121, 3) := by decide +kernel
theorem dX7_line_22 : decode cX7_line 22 = .ok (.getfield 149, 3) := by decide +kernel
theorem dX7_line_25 : decode cX7_line 25 = .ok (.iconst 1, 1) := by decide +kernel
theorem dX7_line_26 : decode cX7_line 26 = .ok (.isub, 1) := by decide +kernel
theorem dX7_line_27 : decode cX7_line 27 = .ok (.invokestatic 45, 3) := by decide +kernel
theorem dX7_line_30 : decode cX7_line 30 = .ok (.ifCond .ne 6, 3) := by decide +kernel
theorem dX7_line_33 : decode cX7_line 33 = .ok (.bipush (-2), 2) := by decide +kernel
theorem dX7_line_35 : decode cX7_line 35 = .ok (.ireturn, 1) := by decide +kernel
theorem dX7_line_36 : decode cX7_line 36 = .ok (.iload_n 2, 1) := by decide +kernel
theorem dX7_line_37 : decode cX7_line 37 = .ok (.iconst 0, 1) := by decide +kernel
theorem dX7_line_38 : decode cX7_line 38 = .ok (.bipush 6, 2) := by decide +kernel
theorem dX7_line_40 : decode cX7_line 40 = .ok (.invokestatic 45, 3) := by decide +kernel
theorem dX7_line_43 : decode cX7_line 43 = .ok (.ifCond .ne 6, 3) := by decide +kernel
theorem dX7_line_46 : decode cX7_line 46 = .ok (.bipush (-3), 2) := by decide +kernel
theorem dX7_line_48 : decode cX7_line 48 = .ok (.ireturn, 1) := by decide +kernel
theorem dX7_line_49 : decode cX7_line 49 = .ok (.aload_n 0, 1) := by decide +kernel
theorem dX7_line_50 : decode cX7_line 50 = .ok (.getfield 10, 3) := by decide +kernel
theorem dX7_line_53 : decode cX7_line 53 = .ok (.getfield 121, 3) := by decide +kernel
theorem dX7_line_56 : decode cX7_line 56 = .ok (.getfield 152, 3) := by decide +kernel
theorem dX7_line_59 : decode cX7_line 59 = .ok (.iload_n 1, 1) := by decide +kernel
theorem dX7_line_60 : decode cX7_line 60 = .ok (.bipush 7, 2) := by decide +kernel
theorem dX7_line_62 : decode cX7_line 62 = .ok (.imul, 1) := by decide +kernel
theorem dX7_line_63 : decode cX7_line 63 = .ok (.iload_n 2, 1) := by decide +kernel
theorem dX7_line_64 : decode cX7_line 64 = .ok (.iadd, 1) := by decide +kernel
theorem dX7_line_65 : decode cX7_line 65 = .ok (.iaload, 1) := by decide +kernel
theorem dX7_line_66 : decode cX7_line 66 = .ok (.ireturn, 1) := by decide +kernel
theorem dX7_placed_0 : decode cX7_placed 0 = .ok (.aload_n 0, 1) := by decide +kernel
theorem dX7_placed_1 : decode cX7_placed 1 = .ok (.getfield 10, 3) := by decide +kernel
theorem dX7_placed_4 : decode cX7_placed 4 = .ok (.getfield 121, 3) := by decide +kernel
theorem dX7_placed_7 : decode cX7_placed 7 = .ok (.ifnonnull 6, 3) := by decide +kernel
theorem dX7_placed_10 : decode cX7_placed 10 = .ok (.bipush (-4), 2) := by decide +kernel
theorem dX7_placed_12 : decode cX7_placed 12 = .ok (.ireturn, 1) := by decide +kernel
theorem dX7_placed_13 : decode cX7_placed 13 = .ok (.iload_n 1, 1) := by decide +kernel
theorem dX7_placed_14 : decode cX7_placed 14 = .ok (.iconst 0, 1) := by decide +kernel
theorem dX7_placed_15 : decode cX7_placed 15 = .ok (.aload_n 0, 1) := by decide +kernel
theorem dX7_placed_16 : decode cX7_placed 16 = .ok (.getfield 10, 3) := by decide +kernel
theorem dX7_placed_19 : decode cX7_placed 19 = .ok (.getfield 121, 3) := by decide +kernel
theorem dX7_placed_22 : decode cX7_placed 22 = .ok (.getfield 155, 3) := by decide +kernel
theorem dX7_placed_25 : decode cX7_placed 25 = .ok (.iconst 1, 1) := by decide +kernel
theorem dX7_placed_26 : decode cX7_placed 26 = .ok (.isub, 1) := by decide +kernel
theorem dX7_placed_27 : decode cX7_placed 27 = .ok (.invokestatic 45, 3) := by decide +kernel
theorem dX7_placed_30 : decode cX7_placed 30 = .ok (.ifCond .ne 6, 3) := by decide +kernel
theorem dX7_placed_33 : decode cX7_placed 33 = .ok (.bipush (-2), 2) := by decide +kernel
theorem dX7_placed_35 : decode cX7_placed 35 = .ok (.ireturn, 1) := by decide +kernel
theorem dX7_placed_36 : decode cX7_placed 36 = .ok (.iload_n 2, 1) := by decide +kernel
theorem dX7_placed_37 : decode cX7_placed 37 = .ok (.iconst 0, 1) := by decide +kernel
theorem dX7_placed_38 : decode cX7_placed 38 = .ok (.iconst 4, 1) := by decide +kernel
theorem dX7_placed_39 : decode cX7_placed 39 = .ok (.invokestatic 45, 3) := by decide +kernel
theorem dX7_placed_42 : decode cX7_placed 42 = .ok (.ifCond .ne 6, 3) := by decide +kernel
theorem dX7_placed_45 : decode cX7_placed 45 = .ok (.bipush (-3), 2) := by decide +kernel
theorem dX7_placed_47 : decode cX7_placed 47 = .ok (.ireturn, 1) := by decide +kernel
theorem dX7_placed_48 : decode cX7_placed 48 = .ok (.aload_n 0, 1) := by decide +kernel
theorem dX7_placed_49 : decode cX7_placed 49 = .ok (.getfield 10, 3) := by decide +kernel
theorem dX7_placed_52 : decode cX7_placed 52 = .ok (.getfield 121, 3) := by decide +kernel
theorem dX7_placed_55 : decode cX7_placed 55 = .ok (.getfield 156, 3) := by decide +kernel
theorem dX7_placed_58 : decode cX7_placed 58 = .ok (.iload_n 1, 1) := by decide +kernel
theorem dX7_placed_59 : decode cX7_placed 59 = .ok (.iconst 5, 1) := by decide +kernel
theorem dX7_placed_60 : decode cX7_placed 60 = .ok (.imul, 1) := by decide +kernel
theorem dX7_placed_61 : decode cX7_placed 61 = .ok (.iload_n 2, 1) := by decide +kernel
theorem dX7_placed_62 : decode cX7_placed 62 = .ok (.iadd, 1) := by decide +kernel
theorem dX7_placed_63 : decode cX7_placed 63 = .ok (.iaload, 1) := by decide +kernel
theorem dX7_placed_64 : decode cX7_placed 64 = .ok (.ireturn, 1) := by decide +kernel
theorem dX7_type_0 : decode cX7_type 0 = .ok (.iload_n 1, 1) := by decide +kernel
theorem dX7_type_1 : decode cX7_type 1 = .ok (.iconst 0, 1) := by decide +kernel
theorem dX7_type_2 : decode cX7_type 2 = .ok (.sipush 255, 3) := by decide +kernel
theorem dX7_type_5 : decode cX7_type 5 = .ok (.invokestatic 45, 3) := by decide +kernel
theorem dX7_type_8 : decode cX7_type 8 = .ok (.ifCond .ne 6, 3) := by decide +kernel
theorem dX7_type_11 : decode cX7_type 11 = .ok (.bipush (-3), 2) := by decide +kernel
theorem dX7_type_13 : decode cX7_type 13 = .ok (.ireturn, 1) := by decide +kernel
theorem dX7_type_14 : decode cX7_type 14 = .ok (.aload_n 0, 1) := by decide +kernel
theorem dX7_type_15 : decode cX7_type 15 = .ok (.getfield 28, 3) := by decide +kernel
theorem dX7_type_18 : decode cX7_type 18 = .ok (.bipush 80, 2) := by decide +kernel
theorem dX7_type_20 : decode cX7_type 20 = .ok (.if_icmp .lt 6, 3) := by decide +kernel
theorem dX7_type_23 : decode cX7_type 23 = .ok (.bipush (-5), 2) := by decide +kernel
theorem dX7_type_25 : decode cX7_type 25 = .ok (.ireturn, 1) := by decide +kernel
theorem dX7_type_26 : decode cX7_type 26 = .ok (.aload_n 0, 1) := by decide +kernel
theorem dX7_type_27 : decode cX7_type 27 = .ok (.getfield 24, 3) := by decide +kernel
theorem dX7_type_30 : decode cX7_type 30 = .ok (.aload_n 0, 1) := by decide +kernel
theorem dX7_type_31 : decode cX7_type 31 = .ok (.getfield 28, 3) := by decide +kernel
theorem dX7_type_34 : decode cX7_type 34 = .ok (.iload_n 1, 1) := by decide +kernel
theorem dX7_type_35 : decode cX7_type 35 = .ok (.iastore, 1) := by decide +kernel
theorem dX7_type_36 : decode cX7_type 36 = .ok (.aload_n 0, 1) := by decide +kernel
theorem dX7_type_37 : decode cX7_type 37 = .ok (.dup, 1) := by decide +kernel
theorem dX7_type_38 : decode cX7_type 38 = .ok (.getfield 28, 3) := by decide +kernel
theorem dX7_type_41 : decode cX7_type 41 = .ok (.iconst 1, 1) := by decide +kernel
theorem dX7_type_42 : decode cX7_type 42 = .ok (.iadd, 1) := by decide +kernel
theorem dX7_type_43 : decode cX7_type 43 = .ok (.putfield 28, 3) := by decide +kernel
theorem dX7_type_46 : decode cX7_type 46 = .ok (.aload_n 0, 1) := by decide +kernel
theorem dX7_type_47 : decode cX7_type 47 = .ok (.getfield 28, 3) := by decide +kernel
theorem dX7_type_50 : decode cX7_type 50 = .ok (.ireturn, 1) := by decide +kernel
theorem dX7_clearText_0 : decode cX7_clearText 0 = .ok (.aload_n 0, 1) := by decide +kernel
theorem dX7_clearText_1 : decode cX7_clearText 1 = .ok (.getfield 28, 3) := by decide +kernel
theorem dX7_clearText_4 : decode cX7_clearText 4 = .ok (.istore_n 1, 1) := by decide +kernel
theorem dX7_clearText_5 : decode cX7_clearText 5 = .ok (.aload_n 0, 1) := by decide +kernel
theorem dX7_clearText_6 : decode cX7_clearText 6 = .ok (.iconst 0, 1) := by decide +kernel
theorem dX7_clearText_7 : decode cX7_clearText 7 = .ok (.putfield 28, 3) := by decide +kernel
theorem dX7_clearText_10 : decode cX7_clearText 10 = .ok (.iload_n 1, 1) := by decide +kernel
theorem dX7_clearText_11 : decode cX7_clearText 11 = .ok (.ireturn, 1) := by decide +kernel
theorem dX7_textFault_0 : decode cX7_textFault 0 = .ok (.aload_n 0, 1) := by decide +kernel
theorem dX7_textFault_1 : decode cX7_textFault 1 = .ok (.getfield 34, 3) := by decide +kernel
theorem dX7_textFault_4 : decode cX7_textFault 4 = .ok (.aload_n 0, 1) := by decide +kernel
theorem dX7_textFault_5 : decode cX7_textFault 5 = .ok (.getfield 24, 3) := by decide +kernel
theorem dX7_textFault_8 : decode cX7_textFault 8 = .ok (.aload_n 0, 1) := by decide +kernel
theorem dX7_textFault_9 : decode cX7_textFault 9 = .ok (.getfield 28, 3) := by decide +kernel
theorem dX7_textFault_12 : decode cX7_textFault 12 = .ok (.invokevirtual 159, 3) := by decide +kernel
theorem dX7_textFault_15 : decode cX7_textFault 15 = .ok (.ireturn, 1) := by decide +kernel
theorem dX7_load_0 : decode cX7_load 0 = .ok (.aload_n 0, 1) := by decide +kernel
theorem dX7_load_1 : decode cX7_load 1 = .ok (.getfield 34, 3) := by decide +kernel
theorem dX7_load_4 : decode cX7_load 4 = .ok (.aload_n 0, 1) := by decide +kernel
theorem dX7_load_5 : decode cX7_load 5 = .ok (.getfield 24, 3) := by decide +kernel
theorem dX7_load_8 : decode cX7_load 8 = .ok (.aload_n 0, 1) := by decide +kernel
theorem dX7_load_9 : decode cX7_load 9 = .ok (.getfield 28, 3) := by decide +kernel
theorem dX7_load_12 : decode cX7_load 12 = .ok (.invokevirtual 159, 3) := by decide +kernel
theorem dX7_load_15 : decode cX7_load 15 = .ok (.iconst (-1), 1) := by decide +kernel
theorem dX7_load_16 : decode cX7_load 16 = .ok (.if_icmp .eq 6, 3) := by decide +kernel
theorem dX7_load_19 : decode cX7_load 19 = .ok (.bipush (-4), 2) := by decide +kernel
theorem dX7_load_21 : decode cX7_load 21 = .ok (.ireturn, 1) := by decide +kernel
theorem dX7_load_22 : decode cX7_load 22 = .ok (.aload_n 0, 1) := by decide +kernel
theorem dX7_load_23 : decode cX7_load 23 = .ok (.invokevirtual 62, 3) := by decide +kernel
theorem dX7_load_26 : decode cX7_load 26 = .ok (.aload_n 0, 1) := by decide +kernel
theorem dX7_load_27 : decode cX7_load 27 = .ok (.getfield 10, 3) := by decide +kernel
theorem dX7_load_30 : decode cX7_load 30 = .ok (.aload_n 0, 1) := by decide +kernel
theorem dX7_load_31 : decode cX7_load 31 = .ok (.getfield 34, 3) := by decide +kernel
theorem dX7_load_34 : decode cX7_load 34 = .ok (.getfield 163, 3) := by decide +kernel
theorem dX7_load_37 : decode cX7_load 37 = .ok (.putfield 108, 3) := by decide +kernel
theorem dX7_load_40 : decode cX7_load 40 = .ok (.aload_n 0, 1) := by decide +kernel
theorem dX7_load_41 : decode cX7_load 41 = .ok (.getfield 34, 3) := by decide +kernel
theorem dX7_load_44 : decode cX7_load 44 = .ok (.getfield 164, 3) := by decide +kernel
theorem dX7_load_47 : decode cX7_load 47 = .ok (.iconst 0, 1) := by decide +kernel
theorem dX7_load_48 : decode cX7_load 48 = .ok (.aload_n 0, 1) := by decide +kernel
theorem dX7_load_49 : decode cX7_load 49 = .ok (.getfield 10, 3) := by decide +kernel
theorem dX7_load_52 : decode cX7_load 52 = .ok (.getfield 165, 3) := by decide +kernel
theorem dX7_load_55 : decode cX7_load 55 = .ok (.iconst 0, 1) := by decide +kernel
theorem dX7_load_56 : decode cX7_load 56 = .ok (.aload_n 0, 1) := by decide +kernel
theorem dX7_load_57 : decode cX7_load 57 = .ok (.getfield 10, 3) := by decide +kernel
theorem dX7_load_60 : decode cX7_load 60 = .ok (.getfield 165, 3) := by decide +kernel
theorem dX7_load_63 : decode cX7_load 63 = .ok (.arraylength, 1) := by decide +kernel
theorem dX7_load_64 : decode cX7_load 64 = .ok (.invokestatic 166, 3) := by decide +kernel
theorem dX7_load_67 : decode cX7_load 67 = .ok (.aload_n 0, 1) := by decide +kernel
theorem dX7_load_68 : decode cX7_load 68 = .ok (.getfield 10, 3) := by decide +kernel
theorem dX7_load_71 : decode cX7_load 71 = .ok (.getfield 108, 3) := by decide +kernel
theorem dX7_load_74 : decode cX7_load 74 = .ok (.ireturn, 1) := by decide +kernel
theorem dX7_undo_0 : decode cX7_undo 0 = .ok (.aload_n 0, 1) := by decide +kernel
theorem dX7_undo_1 : decode cX7_undo 1 = .ok (.getfield 20, 3) := by decide +kernel
theorem dX7_undo_4 : decode cX7_undo 4 = .ok (.ifCond .gt 6, 3) := by decide +kernel
theorem dX7_undo_7 : decode cX7_undo 7 = .ok (.bipush (-4), 2) := by decide +kernel
theorem dX7_undo_9 : decode cX7_undo 9 = .ok (.ireturn, 1) := by decide +kernel
theorem dX7_undo_10 : decode cX7_undo 10 = .ok (.aload_n 0, 1) := by decide +kernel
theorem dX7_undo_11 : decode cX7_undo 11 = .ok (.dup, 1) := by decide +kernel
theorem dX7_undo_12 : decode cX7_undo 12 = .ok (.getfield 20, 3) := by decide +kernel
theorem dX7_undo_15 : decode cX7_undo 15 = .ok (.iconst 1, 1) := by decide +kernel
theorem dX7_undo_16 : decode cX7_undo 16 = .ok (.isub, 1) := by decide +kernel
theorem dX7_undo_17 : decode cX7_undo 17 = .ok (.putfield 20, 3) := by decide +kernel
theorem dX7_undo_20 : decode cX7_undo 20 = .ok (.aload_n 0, 1) := by decide +kernel
theorem dX7_undo_21 : decode cX7_undo 21 = .ok (.getfield 10, 3) := by decide +kernel
theorem dX7_undo_24 : decode cX7_undo 24 = .ok (.aload_n 0, 1) := by decide +kernel
theorem dX7_undo_25 : decode cX7_undo 25 = .ok (.getfield 16, 3) := by decide +kernel
theorem dX7_undo_28 : decode cX7_undo 28 = .ok (.aload_n 0, 1) := by decide +kernel
theorem dX7_undo_29 : decode cX7_undo 29 = .ok (.getfield 20, 3) := by decide +kernel
theorem dX7_undo_32 : decode cX7_undo 32 = .ok (.aaload, 1) := by decide +kernel
theorem dX7_undo_33 : decode cX7_undo 33 = .ok (.invokevirtual 172, 3) := by decide +kernel
theorem dX7_undo_36 : decode cX7_undo 36 = .ok (.aload_n 0, 1) := by decide +kernel
theorem dX7_undo_37 : decode cX7_undo 37 = .ok (.getfield 20, 3) := by decide +kernel
theorem dX7_undo_40 : decode cX7_undo 40 = .ok (.ireturn, 1) := by decide +kernel
theorem dX7_digest_0 : decode cX7_digest 0 = .ok (.ldc2_w 176, 3) := by decide +kernel
theorem dX7_digest_3 : decode cX7_digest 3 = .ok (.lstore_n 1, 1) := by decide +kernel
theorem dX7_digest_4 : decode cX7_digest 4 = .ok (.iconst 0, 1) := by decide +kernel
theorem dX7_digest_5 : decode cX7_digest 5 = .ok (.istore_n 3, 1) := by decide +kernel
theorem dX7_digest_6 : decode cX7_digest 6 = .ok (.iload_n 3, 1) := by decide +kernel
theorem dX7_digest_7 : decode cX7_digest 7 = .ok (.bipush 11, 2) := by decide +kernel
theorem dX7_digest_9 : decode cX7_digest 9 = .ok (.if_icmp .gt 22, 3) := by decide +kernel
theorem dX7_digest_12 : decode cX7_digest 12 = .ok (.ldc2_w 178, 3) := by decide +kernel
theorem dX7_digest_15 : decode cX7_digest 15 = .ok (.lload_n 1, 1) := by decide +kernel
theorem dX7_digest_16 : decode cX7_digest 16 = .ok (.lmul, 1) := by decide +kernel
theorem dX7_digest_17 : decode cX7_digest 17 = .ok (.aload_n 0, 1) := by decide +kernel
theorem dX7_digest_18 : decode cX7_digest 18 = .ok (.iload_n 3, 1) := by decide +kernel
theorem dX7_digest_19 : decode cX7_digest 19 = .ok (.invokevirtual 180, 3) := by decide +kernel
theorem dX7_digest_22 : decode cX7_digest 22 = .ok (.i2l, 1) := by decide +kernel
theorem dX7_digest_23 : decode cX7_digest 23 = .ok (.ladd, 1) := by decide +kernel
theorem dX7_digest_24 : decode cX7_digest 24 = .ok (.lstore_n 1, 1) := by decide +kernel
theorem dX7_digest_25 : decode cX7_digest 25 = .ok (.iinc 3 1, 3) := by decide +kernel
theorem dX7_digest_28 : decode cX7_digest 28 = .ok (.goto (-22), 3) := by decide +kernel
theorem dX7_digest_31 : decode cX7_digest 31 = .ok (.iconst 0, 1) := by decide +kernel
theorem dX7_digest_32 : decode cX7_digest 32 = .ok (.istore_n 3, 1) := by decide +kernel
theorem dX7_digest_33 : decode cX7_digest 33 = .ok (.iload_n 3, 1) := by decide +kernel
theorem dX7_digest_34 : decode cX7_digest 34 = .ok (.bipush 36, 2) := by decide +kernel
theorem dX7_digest_36 : decode cX7_digest 36 = .ok (.if_icmp .ge 39, 3) := by decide +kernel
theorem dX7_digest_39 : decode cX7_digest 39 = .ok (.ldc2_w 178, 3) := by decide +kernel
theorem dX7_digest_42 : decode cX7_digest 42 = .ok (.lload_n 1, 1) := by decide +kernel
theorem dX7_digest_43 : decode cX7_digest 43 = .ok (.lmul, 1) := by decide +kernel
theorem dX7_digest_44 : decode cX7_digest 44 = .ok (.aload_n 0, 1) := by decide +kernel
theorem dX7_digest_45 : decode cX7_digest 45 = .ok (.iload_n 3, 1) := by decide +kernel
theorem dX7_digest_46 : decode cX7_digest 46 = .ok (.iconst 1, 1) := by decide +kernel
theorem dX7_digest_47 : decode cX7_digest 47 = .ok (.iconst 0, 1) := by decide +kernel
theorem dX7_digest_48 : decode cX7_digest 48 = .ok (.invokevirtual 183, 3) := by decide +kernel
theorem dX7_digest_51 : decode cX7_digest 51 = .ok (.i2l, 1) := by decide +kernel
theorem dX7_digest_52 : decode cX7_digest 52 = .ok (.ladd, 1) := by decide +kernel
theorem dX7_digest_53 : decode cX7_digest 53 = .ok (.lstore_n 1, 1) := by decide +kernel
theorem dX7_digest_54 : decode cX7_digest 54 = .ok (.ldc2_w 178, 3) := by decide +kernel
theorem dX7_digest_57 : decode cX7_digest 57 = .ok (.lload_n 1, 1) := by decide +kernel
theorem dX7_digest_58 : decode cX7_digest 58 = .ok (.lmul, 1) := by decide +kernel
theorem dX7_digest_59 : decode cX7_digest 59 = .ok (.aload_n 0, 1) := by decide +kernel
theorem dX7_digest_60 : decode cX7_digest 60 = .ok (.iload_n 3, 1) := by decide +kernel
theorem dX7_digest_61 : decode cX7_digest 61 = .ok (.iconst 1, 1) := by decide +kernel
theorem dX7_digest_62 : decode cX7_digest 62 = .ok (.iconst 1, 1) := by decide +kernel
theorem dX7_digest_63 : decode cX7_digest 63 = .ok (.invokevirtual 183, 3) := by decide +kernel
theorem dX7_digest_66 : decode cX7_digest 66 = .ok (.i2l, 1) := by decide +kernel
theorem dX7_digest_67 : decode cX7_digest 67 = .ok (.ladd, 1) := by decide +kernel
theorem dX7_digest_68 : decode cX7_digest 68 = .ok (.lstore_n 1, 1) := by decide +kernel
theorem dX7_digest_69 : decode cX7_digest 69 = .ok (.iinc 3 1, 3) := by decide +kernel
theorem dX7_digest_72 : decode cX7_digest 72 = .ok (.goto (-39), 3) := by decide +kernel
theorem dX7_digest_75 : decode cX7_digest 75 = .ok (.lload_n 1, 1) := by decide +kernel
theorem dX7_digest_76 : decode cX7_digest 76 = .ok (.aload_n 0, 1) := by decide +kernel
theorem dX7_digest_77 : decode cX7_digest 77 = .ok (.getfield 10, 3) := by decide +kernel
theorem dX7_digest_80 : decode cX7_digest 80 = .ok (.getfield 165, 3) := by decide +kernel
theorem dX7_digest_83 : decode cX7_digest 83 = .ok (.aload_n 0, 1) := by decide +kernel
theorem dX7_digest_84 : decode cX7_digest 84 = .ok (.getfield 10, 3) := by decide +kernel
theorem dX7_digest_87 : decode cX7_digest 87 = .ok (.getfield 108, 3) := by decide +kernel
theorem dX7_digest_90 : decode cX7_digest 90 = .ok (.iconst 3, 1) := by decide +kernel
theorem dX7_digest_91 : decode cX7_digest 91 = .ok (.imul, 1) := by decide +kernel
theorem dX7_digest_92 : decode cX7_digest 92 = .ok (.invokestatic 187, 3) := by decide +kernel
theorem dX7_digest_95 : decode cX7_digest 95 = .ok (.lstore_n 1, 1) := by decide +kernel
theorem dX7_digest_96 : decode cX7_digest 96 = .ok (.aload_n 0, 1) := by decide +kernel
theorem dX7_digest_97 : decode cX7_digest 97 = .ok (.getfield 10, 3) := by decide +kernel
theorem dX7_digest_100 : decode cX7_digest 100 = .ok (.getfield 121, 3) := by decide +kernel
theorem dX7_digest_103 : decode cX7_digest 103 = .ok (.ifnull 74, 3) := by decide +kernel
theorem dX7_digest_106 : decode cX7_digest 106 = .ok (.lload_n 1, 1) := by decide +kernel
theorem dX7_digest_107 : decode cX7_digest 107 = .ok (.aload_n 0, 1) := by decide +kernel
theorem dX7_digest_108 : decode cX7_digest 108 = .ok (.getfield 10, 3) := by decide +kernel
theorem dX7_digest_111 : decode cX7_digest 111 = .ok (.getfield 121, 3) := by decide +kernel
theorem dX7_digest_114 : decode cX7_digest 114 = .ok (.getfield 144, 3) := by decide +kernel
theorem dX7_digest_117 : decode cX7_digest 117 = .ok (.iconst 5, 1) := by decide +kernel
theorem dX7_digest_118 : decode cX7_digest 118 = .ok (.invokestatic 187, 3) := by decide +kernel
theorem dX7_digest_121 : decode cX7_digest 121 = .ok (.lstore_n 1, 1) := by decide +kernel
theorem dX7_digest_122 : decode cX7_digest 122 = .ok (.lload_n 1, 1) := by decide +kernel
theorem dX7_digest_123 : decode cX7_digest 123 = .ok (.aload_n 0, 1) := by decide +kernel
theorem dX7_digest_124 : decode cX7_digest 124 = .ok (.getfield 10, 3) := by decide +kernel
theorem dX7_digest_127 : decode cX7_digest 127 = .ok (.getfield 121, 3) := by decide +kernel
theorem dX7_digest_130 : decode cX7_digest 130 = .ok (.getfield 152, 3) := by decide +kernel
theorem dX7_digest_133 : decode cX7_digest 133 = .ok (.aload_n 0, 1) := by decide +kernel
theorem dX7_digest_134 : decode cX7_digest 134 = .ok (.getfield 10, 3) := by decide +kernel
theorem dX7_digest_137 : decode cX7_digest 137 = .ok (.getfield 121, 3) := by decide +kernel
theorem dX7_digest_140 : decode cX7_digest 140 = .ok (.getfield 149, 3) := by decide +kernel
theorem dX7_digest_143 : decode cX7_digest 143 = .ok (.bipush 7, 2) := by decide +kernel
theorem dX7_digest_145 : decode cX7_digest 145 = .ok (.imul, 1) := by decide +kernel
theorem dX7_digest_146 : decode cX7_digest 146 = .ok (.invokestatic 187, 3) := by decide +kernel
theorem dX7_digest_149 : decode cX7_digest 149 = .ok (.lstore_n 1, 1) := by decide +kernel
theorem dX7_digest_150 : decode cX7_digest 150 = .ok (.lload_n 1, 1) := by decide +kernel
theorem dX7_digest_151 : decode cX7_digest 151 = .ok (.aload_n 0, 1) := by decide +kernel
theorem dX7_digest_152 : decode cX7_digest 152 = .ok (.getfield 10, 3) := by decide +kernel
theorem dX7_digest_155 : decode cX7_digest 155 = .ok (.getfield 121, 3) := by decide +kernel
theorem dX7_digest_158 : decode cX7_digest 158 = .ok (.getfield 156, 3) := by decide +kernel
theorem dX7_digest_161 : decode cX7_digest 161 = .ok (.aload_n 0, 1) := by decide +kernel
theorem dX7_digest_162 : decode cX7_digest 162 = .ok (.getfield 10, 3) := by decide +kernel
theorem dX7_digest_165 : decode cX7_digest 165 = .ok (.getfield 121, 3) := by decide +kernel
theorem dX7_digest_168 : decode cX7_digest 168 = .ok (.getfield 155, 3) := by decide +kernel
theorem dX7_digest_171 : decode cX7_digest 171 = .ok (.iconst 5, 1) := by decide +kernel
theorem dX7_digest_172 : decode cX7_digest 172 = .ok (.imul, 1) := by decide +kernel
theorem dX7_digest_173 : decode cX7_digest 173 = .ok (.invokestatic 187, 3) := by decide +kernel
theorem dX7_digest_176 : decode cX7_digest 176 = .ok (.lstore_n 1, 1) := by decide +kernel
theorem dX7_digest_177 : decode cX7_digest 177 = .ok (.lload_n 1, 1) := by decide +kernel
theorem dX7_digest_178 : decode cX7_digest 178 = .ok (.lreturn, 1) := by decide +kernel
theorem dX7_isIn_0 : decode cX7_isIn 0 = .ok (.iload_n 0, 1) := by decide +kernel
theorem dX7_isIn_1 : decode cX7_isIn 1 = .ok (.iload_n 1, 1) := by decide +kernel
theorem dX7_isIn_2 : decode cX7_isIn 2 = .ok (.if_icmp .lt 12, 3) := by decide +kernel
theorem dX7_isIn_5 : decode cX7_isIn 5 = .ok (.iload_n 0, 1) := by decide +kernel
theorem dX7_isIn_6 : decode cX7_isIn 6 = .ok (.iload_n 2, 1) := by decide +kernel
theorem dX7_isIn_7 : decode cX7_isIn 7 = .ok (.if_icmp .gt 7, 3) := by decide +kernel
theorem dX7_isIn_10 : decode cX7_isIn 10 = .ok (.iconst 1, 1) := by decide +kernel
theorem dX7_isIn_11 : decode cX7_isIn 11 = .ok (.goto 4, 3) := by decide +kernel
theorem dX7_isIn_14 : decode cX7_isIn 14 = .ok (.iconst 0, 1) := by decide +kernel
theorem dX7_isIn_15 : decode cX7_isIn 15 = .ok (.ireturn, 1) := by decide +kernel
theorem dX7_isBox_0 : decode cX7_isBox 0 = .ok (.iload_n 0, 1) := by decide +kernel
theorem dX7_isBox_1 : decode cX7_isBox 1 = .ok (.iconst 0, 1) := by decide +kernel
theorem dX7_isBox_2 : decode cX7_isBox 2 = .ok (.bipush 47, 2) := by decide +kernel
theorem dX7_isBox_4 : decode cX7_isBox 4 = .ok (.invokestatic 45, 3) := by decide +kernel
theorem dX7_isBox_7 : decode cX7_isBox 7 = .ok (.ifCond .eq 37, 3) := by decide +kernel
theorem dX7_isBox_10 : decode cX7_isBox 10 = .ok (.iload_n 1, 1) := by decide +kernel
theorem dX7_isBox_11 : decode cX7_isBox 11 = .ok (.iconst 0, 1) := by decide +kernel
theorem dX7_isBox_12 : decode cX7_isBox 12 = .ok (.bipush 35, 2) := by decide +kernel
theorem dX7_isBox_14 : decode cX7_isBox 14 = .ok (.invokestatic 45, 3) := by decide +kernel
theorem dX7_isBox_17 : decode cX7_isBox 17 = .ok (.ifCond .eq 27, 3) := by decide +kernel
theorem dX7_isBox_20 : decode cX7_isBox 20 = .ok (.iload_n 2, 1) := by decide +kernel
theorem dX7_isBox_21 : decode cX7_isBox 21 = .ok (.iload_n 0, 1) := by decide +kernel
theorem dX7_isBox_22 : decode cX7_isBox 22 = .ok (.bipush 47, 2) := by decide +kernel
theorem dX7_isBox_24 : decode cX7_isBox 24 = .ok (.invokestatic 45, 3) := by decide +kernel
theorem dX7_isBox_27 : decode cX7_isBox 27 = .ok (.ifCond .eq 17, 3) := by decide +kernel
theorem dX7_isBox_30 : decode cX7_isBox 30 = .ok (.iload_n 3, 1) := by decide +kernel
theorem dX7_isBox_31 : decode cX7_isBox 31 = .ok (.iload_n 1, 1) := by decide +kernel
theorem dX7_isBox_32 : decode cX7_isBox 32 = .ok (.bipush 35, 2) := by decide +kernel
theorem dX7_isBox_34 : decode cX7_isBox 34 = .ok (.invokestatic 45, 3) := by decide +kernel
theorem dX7_isBox_37 : decode cX7_isBox 37 = .ok (.ifCond .eq 7, 3) := by decide +kernel
theorem dX7_isBox_40 : decode cX7_isBox 40 = .ok (.iconst 1, 1) := by decide +kernel
theorem dX7_isBox_41 : decode cX7_isBox 41 = .ok (.goto 4, 3) := by decide +kernel
theorem dX7_isBox_44 : decode cX7_isBox 44 = .ok (.iconst 0, 1) := by decide +kernel
theorem dX7_isBox_45 : decode cX7_isBox 45 = .ok (.ireturn, 1) := by decide +kernel
theorem dX7_isBand_0 : decode cX7_isBand 0 = .ok (.iload_n 0, 1) := by decide +kernel
theorem dX7_isBand_1 : decode cX7_isBand 1 = .ok (.iconst 0, 1) := by decide +kernel
theorem dX7_isBand_2 : decode cX7_isBand 2 = .ok (.bipush 35, 2) := by decide +kernel
theorem dX7_isBand_4 : decode cX7_isBand 4 = .ok (.invokestatic 45, 3) := by decide +kernel
theorem dX7_isBand_7 : decode cX7_isBand 7 = .ok (.ifCond .eq 25, 3) := by decide +kernel
theorem dX7_isBand_10 : decode cX7_isBand 10 = .ok (.iload_n 1, 1) := by decide +kernel
theorem dX7_isBand_11 : decode cX7_isBand 11 = .ok (.iconst 1, 1) := by decide +kernel
theorem dX7_isBand_12 : decode cX7_isBand 12 = .ok (.bipush 36, 2) := by decide +kernel
theorem dX7_isBand_14 : decode cX7_isBand 14 = .ok (.invokestatic 45, 3) := by decide +kernel
theorem dX7_isBand_17 : decode cX7_isBand 17 = .ok (.ifCond .eq 15, 3) := by decide +kernel
theorem dX7_isBand_20 : decode cX7_isBand 20 = .ok (.iload_n 0, 1) := by decide +kernel
theorem dX7_isBand_21 : decode cX7_isBand 21 = .ok (.iload_n 1, 1) := by decide +kernel
theorem dX7_isBand_22 : decode cX7_isBand 22 = .ok (.iadd, 1) := by decide +kernel
theorem dX7_isBand_23 : decode cX7_isBand 23 = .ok (.bipush 36, 2) := by decide +kernel
theorem dX7_isBand_25 : decode cX7_isBand 25 = .ok (.if_icmp .gt 7, 3) := by decide +kernel
theorem dX7_isBand_28 : decode cX7_isBand 28 = .ok (.iconst 1, 1) := by decide +kernel
theorem dX7_isBand_29 : decode cX7_isBand 29 = .ok (.goto 4, 3) := by decide +kernel
theorem dX7_isBand_32 : decode cX7_isBand 32 = .ok (.iconst 0, 1) := by decide +kernel
theorem dX7_isBand_33 : decode cX7_isBand 33 = .ok (.ireturn, 1) := by decide +kernel
theorem dX7_addAll_0 : decode cX7_addAll 0 = .ok (.lload_n 0, 1) := by decide +kernel
theorem dX7_addAll_1 : decode cX7_addAll 1 = .ok (.lstore 4, 2) := by decide +kernel
theorem dX7_addAll_3 : decode cX7_addAll 3 = .ok (.iconst 0, 1) := by decide +kernel
theorem dX7_addAll_4 : decode cX7_addAll 4 = .ok (.istore 6, 2) := by decide +kernel
theorem dX7_addAll_6 : decode cX7_addAll 6 = .ok (.iload 6, 2) := by decide +kernel
theorem dX7_addAll_8 : decode cX7_addAll 8 = .ok (.iload_n 3, 1) := by decide +kernel
theorem dX7_addAll_9 : decode cX7_addAll 9 = .ok (.if_icmp .ge 30, 3) := by decide +kernel
theorem dX7_addAll_12 : decode cX7_addAll 12 = .ok (.iload 6, 2) := by decide +kernel
theorem dX7_addAll_14 : decode cX7_addAll 14 = .ok (.aload_n 2, 1) := by decide +kernel
theorem dX7_addAll_15 : decode cX7_addAll 15 = .ok (.arraylength, 1) := by decide +kernel
theorem dX7_addAll_16 : decode cX7_addAll 16 = .ok (.if_icmp .ge 23, 3) := by decide +kernel
theorem dX7_addAll_19 : decode cX7_addAll 19 = .ok (.ldc2_w 178, 3) := by decide +kernel
theorem dX7_addAll_22 : decode cX7_addAll 22 = .ok (.lload 4, 2) := by decide +kernel
theorem dX7_addAll_24 : decode cX7_addAll 24 = .ok (.lmul, 1) := by decide +kernel
theorem dX7_addAll_25 : decode cX7_addAll 25 = .ok (.aload_n 2, 1) := by decide +kernel
theorem dX7_addAll_26 : decode cX7_addAll 26 = .ok (.iload 6, 2) := by decide +kernel
theorem dX7_addAll_28 : decode cX7_addAll 28 = .ok (.iaload, 1) := by decide +kernel
theorem dX7_addAll_29 : decode cX7_addAll 29 = .ok (.i2l, 1) := by decide +kernel
theorem dX7_addAll_30 : decode cX7_addAll 30 = .ok (.ladd, 1) := by decide +kernel
theorem dX7_addAll_31 : decode cX7_addAll 31 = .ok (.lstore 4, 2) := by decide +kernel
theorem dX7_addAll_33 : decode cX7_addAll 33 = .ok (.iinc 6 1, 3) := by decide +kernel
theorem dX7_addAll_36 : decode cX7_addAll 36 = .ok (.goto (-30), 3) := by decide +kernel
theorem dX7_addAll_39 : decode cX7_addAll 39 = .ok (.lload 4, 2) := by decide +kernel
theorem dX7_addAll_41 : decode cX7_addAll 41 = .ok (.lreturn, 1) := by decide +kernel
theorem dX7_remember_0 : decode cX7_remember 0 = .ok (.aload_n 0, 1) := by decide +kernel
theorem dX7_remember_1 : decode cX7_remember 1 = .ok (.getfield 20, 3) := by decide +kernel
theorem dX7_remember_4 : decode cX7_remember 4 = .ok (.iconst 4, 1) := by decide +kernel
theorem dX7_remember_5 : decode cX7_remember 5 = .ok (.if_icmp .lt 7, 3) := by decide +kernel
theorem dX7_remember_8 : decode cX7_remember 8 = .ok (.aload_n 0, 1) := by decide +kernel
theorem dX7_remember_9 : decode cX7_remember 9 = .ok (.invokevirtual 191, 3) := by decide +kernel
theorem dX7_remember_12 : decode cX7_remember 12 = .ok (.aload_n 0, 1) := by decide +kernel
theorem dX7_remember_13 : decode cX7_remember 13 = .ok (.getfield 16, 3) := by decide +kernel
theorem dX7_remember_16 : decode cX7_remember 16 = .ok (.aload_n 0, 1) := by decide +kernel
theorem dX7_remember_17 : decode cX7_remember 17 = .ok (.getfield 20, 3) := by decide +kernel
theorem dX7_remember_20 : decode cX7_remember 20 = .ok (.aaload, 1) := by decide +kernel
theorem dX7_remember_21 : decode cX7_remember 21 = .ok (.aload_n 0, 1) := by decide +kernel
theorem dX7_remember_22 : decode cX7_remember 22 = .ok (.getfield 10, 3) := by decide +kernel
theorem dX7_remember_25 : decode cX7_remember 25 = .ok (.invokevirtual 172, 3) := by decide +kernel
theorem dX7_remember_28 : decode cX7_remember 28 = .ok (.aload_n 0, 1) := by decide +kernel
theorem dX7_remember_29 : decode cX7_remember 29 = .ok (.dup, 1) := by decide +kernel
theorem dX7_remember_30 : decode cX7_remember 30 = .ok (.getfield 20, 3) := by decide +kernel
theorem dX7_remember_33 : decode cX7_remember 33 = .ok (.iconst 1, 1) := by decide +kernel
theorem dX7_remember_34 : decode cX7_remember 34 = .ok (.iadd, 1) := by decide +kernel
theorem dX7_remember_35 : decode cX7_remember 35 = .ok (.putfield 20, 3) := by decide +kernel
theorem dX7_remember_38 : decode cX7_remember 38 = .ok (.return_, 1) := by decide +kernel
theorem dX7_dropOldest_0 : decode cX7_dropOldest 0 = .ok (.aload_n 0, 1) := by decide +kernel
theorem dX7_dropOldest_1 : decode cX7_dropOldest 1 = .ok (.getfield 16, 3) := by decide +kernel
theorem dX7_dropOldest_4 : decode cX7_dropOldest 4 = .ok (.iconst 0, 1) := by decide +kernel
theorem dX7_dropOldest_5 : decode cX7_dropOldest 5 = .ok (.aaload, 1) := by decide +kernel
theorem dX7_dropOldest_6 : decode cX7_dropOldest 6 = .ok (.astore_n 1, 1) := by decide +kernel
theorem dX7_dropOldest_7 : decode cX7_dropOldest 7 = .ok (.iconst 1, 1) := by decide +kernel
theorem dX7_dropOldest_8 : decode cX7_dropOldest 8 = .ok (.istore_n 2, 1) := by decide +kernel
theorem dX7_dropOldest_9 : decode cX7_dropOldest 9 = .ok (.iload_n 2, 1) := by decide +kernel
theorem dX7_dropOldest_10 : decode cX7_dropOldest 10 = .ok (.iconst 4, 1) := by decide +kernel
theorem dX7_dropOldest_11 : decode cX7_dropOldest 11 = .ok (.if_icmp .ge 23, 3) := by decide +kernel
theorem dX7_dropOldest_14 : decode cX7_dropOldest 14 = .ok (.aload_n 0, 1) := by decide +kernel
theorem dX7_dropOldest_15 : decode cX7_dropOldest 15 = .ok (.getfield 16, 3) := by decide +kernel
theorem dX7_dropOldest_18 : decode cX7_dropOldest 18 = .ok (.iload_n 2, 1) := by decide +kernel
theorem dX7_dropOldest_19 : decode cX7_dropOldest 19 = .ok (.iconst 1, 1) := by decide +kernel
theorem dX7_dropOldest_20 : decode cX7_dropOldest 20 = .ok (.isub, 1) := by decide +kernel
theorem dX7_dropOldest_21 : decode cX7_dropOldest 21 = .ok (.aload_n 0, 1) := by decide +kernel
theorem dX7_dropOldest_22 : decode cX7_dropOldest 22 = .ok (.getfield 16, 3) := by decide +kernel
theorem dX7_dropOldest_25 : decode cX7_dropOldest 25 = .ok (.iload_n 2, 1) := by decide +kernel
theorem dX7_dropOldest_26 : decode cX7_dropOldest 26 = .ok (.aaload, 1) := by decide +kernel
theorem dX7_dropOldest_27 : decode cX7_dropOldest 27 = .ok (.aastore, 1) := by decide +kernel
theorem dX7_dropOldest_28 : decode cX7_dropOldest 28 = .ok (.iinc 2 1, 3) := by decide +kernel
theorem dX7_dropOldest_31 : decode cX7_dropOldest 31 = .ok (.goto (-22), 3) := by decide +kernel
theorem dX7_dropOldest_34 : decode cX7_dropOldest 34 = .ok (.aload_n 0, 1) := by decide +kernel
theorem dX7_dropOldest_35 : decode cX7_dropOldest 35 = .ok (.getfield 16, 3) := by decide +kernel
theorem dX7_dropOldest_38 : decode cX7_dropOldest 38 = .ok (.iconst 3, 1) := by decide +kernel
theorem dX7_dropOldest_39 : decode cX7_dropOldest 39 = .ok (.aload_n 1, 1) := by decide +kernel
theorem dX7_dropOldest_40 : decode cX7_dropOldest 40 = .ok (.aastore, 1) := by decide +kernel
theorem dX7_dropOldest_41 : decode cX7_dropOldest 41 = .ok (.aload_n 0, 1) := by decide +kernel
theorem dX7_dropOldest_42 : decode cX7_dropOldest 42 = .ok (.iconst 3, 1) := by decide +kernel
theorem dX7_dropOldest_43 : decode cX7_dropOldest 43 = .ok (.putfield 20, 3) := by decide +kernel
theorem dX7_dropOldest_46 : decode cX7_dropOldest 46 = .ok (.return_, 1) := by decide +kernel
theorem dX7_greatestBase_0 : decode cX7_greatestBase 0 = .ok (.bipush 12, 2) := by decide +kernel
theorem dX7_greatestBase_2 : decode cX7_greatestBase 2 = .ok (.istore_n 2, 1) := by decide +kernel
theorem dX7_greatestBase_3 : decode cX7_greatestBase 3 = .ok (.iload_n 2, 1) := by decide +kernel
theorem dX7_greatestBase_4 : decode cX7_greatestBase 4 = .ok (.iconst 1, 1) := by decide +kernel
theorem dX7_greatestBase_5 : decode cX7_greatestBase 5 = .ok (.if_icmp .lt 36, 3) := by decide +kernel
theorem dX7_greatestBase_8 : decode cX7_greatestBase 8 = .ok (.aload_n 0, 1) := by decide +kernel
theorem dX7_greatestBase_9 : decode cX7_greatestBase 9 = .ok (.getfield 41, 3) := by decide +kernel
theorem dX7_greatestBase_12 : decode cX7_greatestBase 12 = .ok (.aload_n 0, 1) := by decide +kernel
theorem dX7_greatestBase_13 : decode cX7_greatestBase 13 = .ok (.getfield 10, 3) := by decide +kernel
theorem dX7_greatestBase_16 : decode cX7_greatestBase 16 = .ok (.iload_n 2, 1) := by decide +kernel
theorem dX7_greatestBase_17 : decode cX7_greatestBase 17 = .ok (.aload_n 0, 1) := by decide +kernel
theorem dX7_greatestBase_18 : decode cX7_greatestBase 18 = .ok (.getfield 10, 3) := by decide +kernel
theorem dX7_greatestBase_21 : decode cX7_greatestBase 21 = .ok (.getfield 118, 3) := by decide +kernel
theorem dX7_greatestBase_24 : decode cX7_greatestBase 24 = .ok (.iconst 0, 1) := by decide +kernel
theorem dX7_greatestBase_25 : decode cX7_greatestBase 25 = .ok (.iaload, 1) := by decide +kernel
theorem dX7_greatestBase_26 : decode cX7_greatestBase 26 = .ok (.iload_n 1, 1) := by decide +kernel
theorem dX7_greatestBase_27 : decode cX7_greatestBase 27 = .ok (.invokevirtual 140, 3) := by decide +kernel
theorem dX7_greatestBase_30 : decode cX7_greatestBase 30 = .ok (.ifCond .eq 5, 3) := by decide +kernel
theorem dX7_greatestBase_33 : decode cX7_greatestBase 33 = .ok (.iload_n 2, 1) := by decide +kernel
theorem dX7_greatestBase_34 : decode cX7_greatestBase 34 = .ok (.ireturn, 1) := by decide +kernel
theorem dX7_greatestBase_35 : decode cX7_greatestBase 35 = .ok (.iinc 2 (-1), 3) := by decide +kernel
theorem dX7_greatestBase_38 : decode cX7_greatestBase 38 = .ok (.goto (-35), 3) := by decide +kernel
theorem dX7_greatestBase_41 : decode cX7_greatestBase 41 = .ok (.iconst (-1), 1) := by decide +kernel
theorem dX7_greatestBase_42 : decode cX7_greatestBase 42 = .ok (.ireturn, 1) := by decide +kernel
theorem dJ13_bitCount_95d88_0 : decode cJ13_bitCount_95d88 0 = .ok (.lload_n 0, 1) := by decide +kernel
theorem dJ13_bitCount_95d88_1 : decode cJ13_bitCount_95d88 1 = .ok (.lload_n 0, 1) := by decide +kernel
theorem dJ13_bitCount_95d88_2 : decode cJ13_bitCount_95d88 2 = .ok (.iconst 1, 1) := by decide +kernel
theorem dJ13_bitCount_95d88_3 : decode cJ13_bitCount_95d88 3 = .ok (.lushr, 1) := by decide +kernel
theorem dJ13_bitCount_95d88_4 : decode cJ13_bitCount_95d88 4 = .ok (.ldc2_w 314, 3) := by decide +kernel
theorem dJ13_bitCount_95d88_7 : decode cJ13_bitCount_95d88 7 = .ok (.land, 1) := by decide +kernel
theorem dJ13_bitCount_95d88_8 : decode cJ13_bitCount_95d88 8 = .ok (.lsub, 1) := by decide +kernel
theorem dJ13_bitCount_95d88_9 : decode cJ13_bitCount_95d88 9 = .ok (.lstore_n 0, 1) := by decide +kernel
theorem dJ13_bitCount_95d88_10 : decode cJ13_bitCount_95d88 10 = .ok (.lload_n 0, 1) := by decide +kernel
theorem dJ13_bitCount_95d88_11 : decode cJ13_bitCount_95d88 11 = .ok (.ldc2_w 316, 3) := by decide +kernel
theorem dJ13_bitCount_95d88_14 : decode cJ13_bitCount_95d88 14 = .ok (.land, 1) := by decide +kernel
theorem dJ13_bitCount_95d88_15 : decode cJ13_bitCount_95d88 15 = .ok (.lload_n 0, 1) := by decide +kernel
theorem dJ13_bitCount_95d88_16 : decode cJ13_bitCount_95d88 16 = .ok (.iconst 2, 1) := by decide +kernel
theorem dJ13_bitCount_95d88_17 : decode cJ13_bitCount_95d88 17 = .ok (.lushr, 1) := by decide +kernel
theorem dJ13_bitCount_95d88_18 : decode cJ13_bitCount_95d88 18 = .ok (.ldc2_w 316, 3) := by decide +kernel
theorem dJ13_bitCount_95d88_21 : decode cJ13_bitCount_95d88 21 = .ok (.land, 1) := by decide +kernel
theorem dJ13_bitCount_95d88_22 : decode cJ13_bitCount_95d88 22 = .ok (.ladd, 1) := by decide +kernel
theorem dJ13_bitCount_95d88_23 : decode cJ13_bitCount_95d88 23 = .ok (.lstore_n 0, 1) := by decide +kernel
theorem dJ13_bitCount_95d88_24 : decode cJ13_bitCount_95d88 24 = .ok (.lload_n 0, 1) := by decide +kernel
theorem dJ13_bitCount_95d88_25 : decode cJ13_bitCount_95d88 25 = .ok (.lload_n 0, 1) := by decide +kernel
theorem dJ13_bitCount_95d88_26 : decode cJ13_bitCount_95d88 26 = .ok (.iconst 4, 1) := by decide +kernel
theorem dJ13_bitCount_95d88_27 : decode cJ13_bitCount_95d88 27 = .ok (.lushr, 1) := by decide +kernel
theorem dJ13_bitCount_95d88_28 : decode cJ13_bitCount_95d88 28 = .ok (.ladd, 1) := by decide +kernel
theorem dJ13_bitCount_95d88_29 : decode cJ13_bitCount_95d88 29 = .ok (.ldc2_w 318, 3) := by decide +kernel
theorem dJ13_bitCount_95d88_32 : decode cJ13_bitCount_95d88 32 = .ok (.land, 1) := by decide +kernel
theorem dJ13_bitCount_95d88_33 : decode cJ13_bitCount_95d88 33 = .ok (.lstore_n 0, 1) := by decide +kernel
theorem dJ13_bitCount_95d88_34 : decode cJ13_bitCount_95d88 34 = .ok (.lload_n 0, 1) := by decide +kernel
theorem dJ13_bitCount_95d88_35 : decode cJ13_bitCount_95d88 35 = .ok (.lload_n 0, 1) := by decide +kernel
theorem dJ13_bitCount_95d88_36 : decode cJ13_bitCount_95d88 36 = .ok (.bipush 8, 2) := by decide +kernel
theorem dJ13_bitCount_95d88_38 : decode cJ13_bitCount_95d88 38 = .ok (.lushr, 1) := by decide +kernel
theorem dJ13_bitCount_95d88_39 : decode cJ13_bitCount_95d88 39 = .ok (.ladd, 1) := by decide +kernel
theorem dJ13_bitCount_95d88_40 : decode cJ13_bitCount_95d88 40 = .ok (.lstore_n 0, 1) := by decide +kernel
theorem dJ13_bitCount_95d88_41 : decode cJ13_bitCount_95d88 41 = .ok (.lload_n 0, 1) := by decide +kernel
theorem dJ13_bitCount_95d88_42 : decode cJ13_bitCount_95d88 42 = .ok (.lload_n 0, 1) := by decide +kernel
theorem dJ13_bitCount_95d88_43 : decode cJ13_bitCount_95d88 43 = .ok (.bipush 16, 2) := by decide +kernel
theorem dJ13_bitCount_95d88_45 : decode cJ13_bitCount_95d88 45 = .ok (.lushr, 1) := by decide +kernel
theorem dJ13_bitCount_95d88_46 : decode cJ13_bitCount_95d88 46 = .ok (.ladd, 1) := by decide +kernel
theorem dJ13_bitCount_95d88_47 : decode cJ13_bitCount_95d88 47 = .ok (.lstore_n 0, 1) := by decide +kernel
theorem dJ13_bitCount_95d88_48 : decode cJ13_bitCount_95d88 48 = .ok (.lload_n 0, 1) := by decide +kernel
theorem dJ13_bitCount_95d88_49 : decode cJ13_bitCount_95d88 49 = .ok (.lload_n 0, 1) := by decide +kernel
theorem dJ13_bitCount_95d88_50 : decode cJ13_bitCount_95d88 50 = .ok (.bipush 32, 2) := by decide +kernel
theorem dJ13_bitCount_95d88_52 : decode cJ13_bitCount_95d88 52 = .ok (.lushr, 1) := by decide +kernel
theorem dJ13_bitCount_95d88_53 : decode cJ13_bitCount_95d88 53 = .ok (.ladd, 1) := by decide +kernel
theorem dJ13_bitCount_95d88_54 : decode cJ13_bitCount_95d88 54 = .ok (.lstore_n 0, 1) := by decide +kernel
theorem dJ13_bitCount_95d88_55 : decode cJ13_bitCount_95d88 55 = .ok (.lload_n 0, 1) := by decide +kernel
theorem dJ13_bitCount_95d88_56 : decode cJ13_bitCount_95d88 56 = .ok (.l2i, 1) := by decide +kernel
theorem dJ13_bitCount_95d88_57 : decode cJ13_bitCount_95d88 57 = .ok (.bipush 127, 2) := by decide +kernel
theorem dJ13_bitCount_95d88_59 : decode cJ13_bitCount_95d88 59 = .ok (.iand, 1) := by decide +kernel
theorem dJ13_bitCount_95d88_60 : decode cJ13_bitCount_95d88 60 = .ok (.ireturn, 1) := by decide +kernel
theorem dJ9_abs_0f7a4_0 : decode cJ9_abs_0f7a4 0 = .ok (.iload_n 0, 1) := by decide +kernel
theorem dJ9_abs_0f7a4_1 : decode cJ9_abs_0f7a4 1 = .ok (.ifCond .ge 8, 3) := by decide +kernel
theorem dJ9_abs_0f7a4_4 : decode cJ9_abs_0f7a4 4 = .ok (.iload_n 0, 1) := by decide +kernel
theorem dJ9_abs_0f7a4_5 : decode cJ9_abs_0f7a4 5 = .ok (.ineg, 1) := by decide +kernel
theorem dJ9_abs_0f7a4_6 : decode cJ9_abs_0f7a4 6 = .ok (.goto 4, 3) := by decide +kernel
theorem dJ9_abs_0f7a4_9 : decode cJ9_abs_0f7a4 9 = .ok (.iload_n 0, 1) := by decide +kernel
theorem dJ9_abs_0f7a4_10 : decode cJ9_abs_0f7a4 10 = .ok (.ireturn, 1) := by decide +kernel
theorem dJ9_max_7cf53_0 : decode cJ9_max_7cf53 0 = .ok (.iload_n 0, 1) := by decide +kernel
theorem dJ9_max_7cf53_1 : decode cJ9_max_7cf53 1 = .ok (.iload_n 1, 1) := by decide +kernel
theorem dJ9_max_7cf53_2 : decode cJ9_max_7cf53 2 = .ok (.if_icmp .lt 7, 3) := by decide +kernel
theorem dJ9_max_7cf53_5 : decode cJ9_max_7cf53 5 = .ok (.iload_n 0, 1) := by decide +kernel
theorem dJ9_max_7cf53_6 : decode cJ9_max_7cf53 6 = .ok (.goto 4, 3) := by decide +kernel
theorem dJ9_max_7cf53_9 : decode cJ9_max_7cf53 9 = .ok (.iload_n 1, 1) := by decide +kernel
theorem dJ9_max_7cf53_10 : decode cJ9_max_7cf53 10 = .ok (.ireturn, 1) := by decide +kernel
theorem dJ9_min_7cf53_0 : decode cJ9_min_7cf53 0 = .ok (.iload_n 0, 1) := by decide +kernel
theorem dJ9_min_7cf53_1 : decode cJ9_min_7cf53 1 = .ok (.iload_n 1, 1) := by decide +kernel
theorem dJ9_min_7cf53_2 : decode cJ9_min_7cf53 2 = .ok (.if_icmp .gt 7, 3) := by decide +kernel
theorem dJ9_min_7cf53_5 : decode cJ9_min_7cf53 5 = .ok (.iload_n 0, 1) := by decide +kernel
theorem dJ9_min_7cf53_6 : decode cJ9_min_7cf53 6 = .ok (.goto 4, 3) := by decide +kernel
theorem dJ9_min_7cf53_9 : decode cJ9_min_7cf53 9 = .ok (.iload_n 1, 1) := by decide +kernel
theorem dJ9_min_7cf53_10 : decode cJ9_min_7cf53 10 = .ok (.ireturn, 1) := by decide +kernel
theorem dJ7_fill_53178_0 : decode cJ7_fill_53178 0 = .ok (.iconst 0, 1) := by decide +kernel
theorem dJ7_fill_53178_1 : decode cJ7_fill_53178 1 = .ok (.istore_n 2, 1) := by decide +kernel
theorem dJ7_fill_53178_2 : decode cJ7_fill_53178 2 = .ok (.aload_n 0, 1) := by decide +kernel
theorem dJ7_fill_53178_3 : decode cJ7_fill_53178 3 = .ok (.arraylength, 1) := by decide +kernel
theorem dJ7_fill_53178_4 : decode cJ7_fill_53178 4 = .ok (.istore_n 3, 1) := by decide +kernel
theorem dJ7_fill_53178_5 : decode cJ7_fill_53178 5 = .ok (.iload_n 2, 1) := by decide +kernel
theorem dJ7_fill_53178_6 : decode cJ7_fill_53178 6 = .ok (.iload_n 3, 1) := by decide +kernel
theorem dJ7_fill_53178_7 : decode cJ7_fill_53178 7 = .ok (.if_icmp .ge 13, 3) := by decide +kernel
theorem dJ7_fill_53178_10 : decode cJ7_fill_53178 10 = .ok (.aload_n 0, 1) := by decide +kernel
theorem dJ7_fill_53178_11 : decode cJ7_fill_53178 11 = .ok (.iload_n 2, 1) := by decide +kernel
theorem dJ7_fill_53178_12 : decode cJ7_fill_53178 12 = .ok (.iload_n 1, 1) := by decide +kernel
theorem dJ7_fill_53178_13 : decode cJ7_fill_53178 13 = .ok (.iastore, 1) := by decide +kernel
theorem dJ7_fill_53178_14 : decode cJ7_fill_53178 14 = .ok (.iinc 2 1, 3) := by decide +kernel
theorem dJ7_fill_53178_17 : decode cJ7_fill_53178 17 = .ok (.goto (-12), 3) := by decide +kernel
theorem dJ7_fill_53178_20 : decode cJ7_fill_53178 20 = .ok (.return_, 1) := by decide +kernel

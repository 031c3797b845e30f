theorem dX0_init_0 : decode cX0_init 0 = .ok (.aload_n 0, 1) := by decide +kernel
theorem dX0_init_1 : decode cX0_init 1 = .ok (.invokespecial 3, 3) := by decide +kernel
theorem dX0_init_4 : decode cX0_init 4 = .ok (.aload_n 0, 1) := by decide +kernel
theorem dX0_init_5 : decode cX0_init 5 = .ok (.iconst 0, 1) := by decide +kernel
theorem dX0_init_6 : decode cX0_init 6 = .ok (.putfield 9, 3) := by decide +kernel
theorem dX0_init_9 : decode cX0_init 9 = .ok (.aload_n 0, 1) := by decide +kernel
theorem dX0_init_10 : decode cX0_init 10 = .ok (.bipush 100, 2) := by decide +kernel
theorem dX0_init_12 : decode cX0_init 12 = .ok (.newarray .int, 2) := by decide +kernel
theorem dX0_init_14 : decode cX0_init 14 = .ok (.putfield 15, 3) := by decide +kernel
theorem dX0_init_17 : decode cX0_init 17 = .ok (.return_, 1) := by decide +kernel
theorem dX0_copyFrom_0 : decode cX0_copyFrom 0 = .ok (.aload_n 0, 1) := by decide +kernel
theorem dX0_copyFrom_1 : decode cX0_copyFrom 1 = .ok (.aload_n 1, 1) := by decide +kernel
theorem dX0_copyFrom_2 : decode cX0_copyFrom 2 = .ok (.getfield 9, 3) := by decide +kernel
theorem dX0_copyFrom_5 : decode cX0_copyFrom 5 = .ok (.putfield 9, 3) := by decide +kernel
theorem dX0_copyFrom_8 : decode cX0_copyFrom 8 = .ok (.aload_n 1, 1) := by decide +kernel
theorem dX0_copyFrom_9 : decode cX0_copyFrom 9 = .ok (.getfield 15, 3) := by decide +kernel
theorem dX0_copyFrom_12 : decode cX0_copyFrom 12 = .ok (.iconst 0, 1) := by decide +kernel
theorem dX0_copyFrom_13 : decode cX0_copyFrom 13 = .ok (.aload_n 0, 1) := by decide +kernel
theorem dX0_copyFrom_14 : decode cX0_copyFrom 14 = .ok (.getfield 15, 3) := by decide +kernel
theorem dX0_copyFrom_17 : decode cX0_copyFrom 17 = .ok (.iconst 0, 1) := by decide +kernel
theorem dX0_copyFrom_18 : decode cX0_copyFrom 18 = .ok (.aload_n 0, 1) := by decide +kernel
theorem dX0_copyFrom_19 : decode cX0_copyFrom 19 = .ok (.getfield 15, 3) := by decide +kernel
theorem dX0_copyFrom_22 : decode cX0_copyFrom 22 = .ok (.arraylength, 1) := by decide +kernel
theorem dX0_copyFrom_23 : decode cX0_copyFrom 23 = .ok (.invokestatic 19, 3) := by decide +kernel
theorem dX0_copyFrom_26 : decode cX0_copyFrom 26 = .ok (.return_, 1) := by decide +kernel
theorem dX0_add_0 : decode cX0_add 0 = .ok (.aload_n 0, 1) := by decide +kernel
theorem dX0_add_1 : decode cX0_add 1 = .ok (.getfield 9, 3) := by decide +kernel
theorem dX0_add_4 : decode cX0_add 4 = .ok (.bipush 25, 2) := by decide +kernel
theorem dX0_add_6 : decode cX0_add 6 = .ok (.if_icmp .ne 32, 3) := by decide +kernel
theorem dX0_add_9 : decode cX0_add 9 = .ok (.aload_n 0, 1) := by decide +kernel
theorem dX0_add_10 : decode cX0_add 10 = .ok (.dup, 1) := by decide +kernel
theorem dX0_add_11 : decode cX0_add 11 = .ok (.getfield 9, 3) := by decide +kernel
theorem dX0_add_14 : decode cX0_add 14 = .ok (.iconst 1, 1) := by decide +kernel
theorem dX0_add_15 : decode cX0_add 15 = .ok (.isub, 1) := by decide +kernel
theorem dX0_add_16 : decode cX0_add 16 = .ok (.putfield 9, 3) := by decide +kernel
theorem dX0_add_19 : decode cX0_add 19 = .ok (.aload_n 0, 1) := by decide +kernel
theorem dX0_add_20 : decode cX0_add 20 = .ok (.getfield 15, 3) := by decide +kernel
theorem dX0_add_23 : decode cX0_add 23 = .ok (.iconst 4, 1) := by decide +kernel
theorem dX0_add_24 : decode cX0_add 24 = .ok (.aload_n 0, 1) := by decide +kernel
theorem dX0_add_25 : decode cX0_add 25 = .ok (.getfield 15, 3) := by decide +kernel
theorem dX0_add_28 : decode cX0_add 28 = .ok (.iconst 0, 1) := by decide +kernel
theorem dX0_add_29 : decode cX0_add 29 = .ok (.aload_n 0, 1) := by decide +kernel
theorem dX0_add_30 : decode cX0_add 30 = .ok (.getfield 9, 3) := by decide +kernel
theorem dX0_add_33 : decode cX0_add 33 = .ok (.iconst 4, 1) := by decide +kernel
theorem dX0_add_34 : decode cX0_add 34 = .ok (.imul, 1) := by decide +kernel
theorem dX0_add_35 : decode cX0_add 35 = .ok (.invokestatic 19, 3) := by decide +kernel
theorem dX0_add_38 : decode cX0_add 38 = .ok (.aload_n 0, 1) := by decide +kernel
theorem dX0_add_39 : decode cX0_add 39 = .ok (.getfield 9, 3) := by decide +kernel
theorem dX0_add_42 : decode cX0_add 42 = .ok (.iconst 4, 1) := by decide +kernel
theorem dX0_add_43 : decode cX0_add 43 = .ok (.imul, 1) := by decide +kernel
theorem dX0_add_44 : decode cX0_add 44 = .ok (.istore 5, 2) := by decide +kernel
theorem dX0_add_46 : decode cX0_add 46 = .ok (.aload_n 0, 1) := by decide +kernel
theorem dX0_add_47 : decode cX0_add 47 = .ok (.getfield 15, 3) := by decide +kernel
theorem dX0_add_50 : decode cX0_add 50 = .ok (.iload 5, 2) := by decide +kernel
theorem dX0_add_52 : decode cX0_add 52 = .ok (.iload_n 1, 1) := by decide +kernel
theorem dX0_add_53 : decode cX0_add 53 = .ok (.iastore, 1) := by decide +kernel
theorem dX0_add_54 : decode cX0_add 54 = .ok (.aload_n 0, 1) := by decide +kernel
theorem dX0_add_55 : decode cX0_add 55 = .ok (.getfield 15, 3) := by decide +kernel
theorem dX0_add_58 : decode cX0_add 58 = .ok (.iload 5, 2) := by decide +kernel
theorem dX0_add_60 : decode cX0_add 60 = .ok (.iconst 1, 1) := by decide +kernel
theorem dX0_add_61 : decode cX0_add 61 = .ok (.iadd, 1) := by decide +kernel
theorem dX0_add_62 : decode cX0_add 62 = .ok (.iload_n 2, 1) := by decide +kernel
theorem dX0_add_63 : decode cX0_add 63 = .ok (.iastore, 1) := by decide +kernel
theorem dX0_add_64 : decode cX0_add 64 = .ok (.aload_n 0, 1) := by decide +kernel
theorem dX0_add_65 : decode cX0_add 65 = .ok (.getfield 15, 3) := by decide +kernel
theorem dX0_add_68 : decode cX0_add 68 = .ok (.iload 5, 2) := by decide +kernel
theorem dX0_add_70 : decode cX0_add 70 = .ok (.iconst 2, 1) := by decide +kernel
theorem dX0_add_71 : decode cX0_add 71 = .ok (.iadd, 1) := by decide +kernel
theorem dX0_add_72 : decode cX0_add 72 = .ok (.iload_n 3, 1) := by decide +kernel
theorem dX0_add_73 : decode cX0_add 73 = .ok (.iastore, 1) := by decide +kernel
theorem dX0_add_74 : decode cX0_add 74 = .ok (.aload_n 0, 1) := by decide +kernel
theorem dX0_add_75 : decode cX0_add 75 = .ok (.getfield 15, 3) := by decide +kernel
theorem dX0_add_78 : decode cX0_add 78 = .ok (.iload 5, 2) := by decide +kernel
theorem dX0_add_80 : decode cX0_add 80 = .ok (.iconst 3, 1) := by decide +kernel
theorem dX0_add_81 : decode cX0_add 81 = .ok (.iadd, 1) := by decide +kernel
theorem dX0_add_82 : decode cX0_add 82 = .ok (.iload 4, 2) := by decide +kernel
theorem dX0_add_84 : decode cX0_add 84 = .ok (.iastore, 1) := by decide +kernel
theorem dX0_add_85 : decode cX0_add 85 = .ok (.aload_n 0, 1) := by decide +kernel
theorem dX0_add_86 : decode cX0_add 86 = .ok (.dup, 1) := by decide +kernel
theorem dX0_add_87 : decode cX0_add 87 = .ok (.getfield 9, 3) := by decide +kernel
theorem dX0_add_90 : decode cX0_add 90 = .ok (.iconst 1, 1) := by decide +kernel
theorem dX0_add_91 : decode cX0_add 91 = .ok (.iadd, 1) := by decide +kernel
theorem dX0_add_92 : decode cX0_add 92 = .ok (.putfield 9, 3) := by decide +kernel
theorem dX0_add_95 : decode cX0_add 95 = .ok (.return_, 1) := by decide +kernel
theorem dX0_detail_0 : decode cX0_detail 0 = .ok (.iload_n 1, 1) := by decide +kernel
theorem dX0_detail_1 : decode cX0_detail 1 = .ok (.iconst (-1), 1) := by decide +kernel
theorem dX0_detail_2 : decode cX0_detail 2 = .ok (.if_icmp .ne 8, 3) := by decide +kernel
theorem dX0_detail_5 : decode cX0_detail 5 = .ok (.aload_n 0, 1) := by decide +kernel
theorem dX0_detail_6 : decode cX0_detail 6 = .ok (.getfield 9, 3) := by decide +kernel
theorem dX0_detail_9 : decode cX0_detail 9 = .ok (.ireturn, 1) := by decide +kernel
theorem dX0_detail_10 : decode cX0_detail 10 = .ok (.iload_n 1, 1) := by decide +kernel
theorem dX0_detail_11 : decode cX0_detail 11 = .ok (.ifCond .lt 20, 3) := by decide +kernel
theorem dX0_detail_14 : decode cX0_detail 14 = .ok (.iload_n 1, 1) := by decide +kernel
theorem dX0_detail_15 : decode cX0_detail 15 = .ok (.aload_n 0, 1) := by decide +kernel
theorem dX0_detail_16 : decode cX0_detail 16 = .ok (.getfield 9, 3) := by decide +kernel
theorem dX0_detail_19 : decode cX0_detail 19 = .ok (.if_icmp .ge 12, 3) := by decide +kernel
theorem dX0_detail_22 : decode cX0_detail 22 = .ok (.iload_n 2, 1) := by decide +kernel
theorem dX0_detail_23 : decode cX0_detail 23 = .ok (.ifCond .lt 8, 3) := by decide +kernel
theorem dX0_detail_26 : decode cX0_detail 26 = .ok (.iload_n 2, 1) := by decide +kernel
theorem dX0_detail_27 : decode cX0_detail 27 = .ok (.iconst 4, 1) := by decide +kernel
theorem dX0_detail_28 : decode cX0_detail 28 = .ok (.if_icmp .lt 6, 3) := by decide +kernel
theorem dX0_detail_31 : decode cX0_detail 31 = .ok (.bipush (-2), 2) := by decide +kernel
theorem dX0_detail_33 : decode cX0_detail 33 = .ok (.ireturn, 1) := by decide +kernel
theorem dX0_detail_34 : decode cX0_detail 34 = .ok (.aload_n 0, 1) := by decide +kernel
theorem dX0_detail_35 : decode cX0_detail 35 = .ok (.getfield 15, 3) := by decide +kernel
theorem dX0_detail_38 : decode cX0_detail 38 = .ok (.iload_n 1, 1) := by decide +kernel
theorem dX0_detail_39 : decode cX0_detail 39 = .ok (.iconst 4, 1) := by decide +kernel
theorem dX0_detail_40 : decode cX0_detail 40 = .ok (.imul, 1) := by decide +kernel
theorem dX0_detail_41 : decode cX0_detail 41 = .ok (.iload_n 2, 1) := by decide +kernel
theorem dX0_detail_42 : decode cX0_detail 42 = .ok (.iadd, 1) := by decide +kernel
theorem dX0_detail_43 : decode cX0_detail 43 = .ok (.iaload, 1) := by decide +kernel
theorem dX0_detail_44 : decode cX0_detail 44 = .ok (.ireturn, 1) := by decide +kernel
theorem dX0_linesOf_0 : decode cX0_linesOf 0 = .ok (.iconst 0, 1) := by decide +kernel
theorem dX0_linesOf_1 : decode cX0_linesOf 1 = .ok (.istore_n 2, 1) := by decide +kernel
theorem dX0_linesOf_2 : decode cX0_linesOf 2 = .ok (.iconst 0, 1) := by decide +kernel
theorem dX0_linesOf_3 : decode cX0_linesOf 3 = .ok (.istore_n 3, 1) := by decide +kernel
theorem dX0_linesOf_4 : decode cX0_linesOf 4 = .ok (.iload_n 3, 1) := by decide +kernel
theorem dX0_linesOf_5 : decode cX0_linesOf 5 = .ok (.aload_n 0, 1) := by decide +kernel
theorem dX0_linesOf_6 : decode cX0_linesOf 6 = .ok (.getfield 9, 3) := by decide +kernel
theorem dX0_linesOf_9 : decode cX0_linesOf 9 = .ok (.if_icmp .ge 31, 3) := by decide +kernel
theorem dX0_linesOf_12 : decode cX0_linesOf 12 = .ok (.iload_n 2, 1) := by decide +kernel
theorem dX0_linesOf_13 : decode cX0_linesOf 13 = .ok (.aload_n 0, 1) := by decide +kernel
theorem dX0_linesOf_14 : decode cX0_linesOf 14 = .ok (.getfield 15, 3) := by decide +kernel
theorem dX0_linesOf_17 : decode cX0_linesOf 17 = .ok (.iload_n 3, 1) := by decide +kernel
theorem dX0_linesOf_18 : decode cX0_linesOf 18 = .ok (.iconst 4, 1) := by decide +kernel
theorem dX0_linesOf_19 : decode cX0_linesOf 19 = .ok (.imul, 1) := by decide +kernel
theorem dX0_linesOf_20 : decode cX0_linesOf 20 = .ok (.iconst 1, 1) := by decide +kernel
theorem dX0_linesOf_21 : decode cX0_linesOf 21 = .ok (.iadd, 1) := by decide +kernel
theorem dX0_linesOf_22 : decode cX0_linesOf 22 = .ok (.iaload, 1) := by decide +kernel
theorem dX0_linesOf_23 : decode cX0_linesOf 23 = .ok (.iload_n 1, 1) := by decide +kernel
theorem dX0_linesOf_24 : decode cX0_linesOf 24 = .ok (.if_icmp .ne 7, 3) := by decide +kernel
theorem dX0_linesOf_27 : decode cX0_linesOf 27 = .ok (.iconst 1, 1) := by decide +kernel
theorem dX0_linesOf_28 : decode cX0_linesOf 28 = .ok (.goto 4, 3) := by decide +kernel
theorem dX0_linesOf_31 : decode cX0_linesOf 31 = .ok (.iconst 0, 1) := by decide +kernel
theorem dX0_linesOf_32 : decode cX0_linesOf 32 = .ok (.iadd, 1) := by decide +kernel
theorem dX0_linesOf_33 : decode cX0_linesOf 33 = .ok (.istore_n 2, 1) := by decide +kernel
theorem dX0_linesOf_34 : decode cX0_linesOf 34 = .ok (.iinc 3 1, 3) := by decide +kernel
theorem dX0_linesOf_37 : decode cX0_linesOf 37 = .ok (.goto (-33), 3) := by decide +kernel
theorem dX0_linesOf_40 : decode cX0_linesOf 40 = .ok (.iload_n 2, 1) := by decide +kernel
theorem dX0_linesOf_41 : decode cX0_linesOf 41 = .ok (.ireturn, 1) := by decide +kernel
theorem dX1_init_0 : decode cX1_init 0 = .ok (.aload_n 0, 1) := by decide +kernel
theorem dX1_init_1 : decode cX1_init 1 = .ok (.invokespecial 3, 3) := by decide +kernel
theorem dX1_init_4 : decode cX1_init 4 = .ok (.aload_n 0, 1) := by decide +kernel
theorem dX1_init_5 : decode cX1_init 5 = .ok (.bipush 23, 2) := by decide +kernel
theorem dX1_init_7 : decode cX1_init 7 = .ok (.newarray .int, 2) := by decide +kernel
theorem dX1_init_9 : decode cX1_init 9 = .ok (.putfield 9, 3) := by decide +kernel
theorem dX1_init_12 : decode cX1_init 12 = .ok (.aload_n 0, 1) := by decide +kernel
theorem dX1_init_13 : decode cX1_init 13 = .ok (.bipush 9, 2) := by decide +kernel
theorem dX1_init_15 : decode cX1_init 15 = .ok (.newarray .int, 2) := by decide +kernel
theorem dX1_init_17 : decode cX1_init 17 = .ok (.putfield 15, 3) := by decide +kernel
theorem dX1_init_20 : decode cX1_init 20 = .ok (.aload_n 0, 1) := by decide +kernel
theorem dX1_init_21 : decode cX1_init 21 = .ok (.bipush 23, 2) := by decide +kernel
theorem dX1_init_23 : decode cX1_init 23 = .ok (.newarray .int, 2) := by decide +kernel
theorem dX1_init_25 : decode cX1_init 25 = .ok (.putfield 18, 3) := by decide +kernel
theorem dX1_init_28 : decode cX1_init 28 = .ok (.aload_n 0, 1) := by decide +kernel
theorem dX1_init_29 : decode cX1_init 29 = .ok (.bipush 9, 2) := by decide +kernel
theorem dX1_init_31 : decode cX1_init 31 = .ok (.newarray .int, 2) := by decide +kernel
theorem dX1_init_33 : decode cX1_init 33 = .ok (.putfield 21, 3) := by decide +kernel
theorem dX1_init_36 : decode cX1_init 36 = .ok (.iconst 0, 1) := by decide +kernel
theorem dX1_init_37 : decode cX1_init 37 = .ok (.istore_n 1, 1) := by decide +kernel
theorem dX1_init_38 : decode cX1_init 38 = .ok (.iload_n 1, 1) := by decide +kernel
theorem dX1_init_39 : decode cX1_init 39 = .ok (.bipush 23, 2) := by decide +kernel
theorem dX1_init_41 : decode cX1_init 41 = .ok (.if_icmp .ge 23, 3) := by decide +kernel
theorem dX1_init_44 : decode cX1_init 44 = .ok (.aload_n 0, 1) := by decide +kernel
theorem dX1_init_45 : decode cX1_init 45 = .ok (.getfield 9, 3) := by decide +kernel
theorem dX1_init_48 : decode cX1_init 48 = .ok (.iload_n 1, 1) := by decide +kernel
theorem dX1_init_49 : decode cX1_init 49 = .ok (.iload_n 1, 1) := by decide +kernel
theorem dX1_init_50 : decode cX1_init 50 = .ok (.iastore, 1) := by decide +kernel
theorem dX1_init_51 : decode cX1_init 51 = .ok (.aload_n 0, 1) := by decide +kernel
theorem dX1_init_52 : decode cX1_init 52 = .ok (.getfield 18, 3) := by decide +kernel
theorem dX1_init_55 : decode cX1_init 55 = .ok (.iload_n 1, 1) := by decide +kernel
theorem dX1_init_56 : decode cX1_init 56 = .ok (.iconst (-1), 1) := by decide +kernel
theorem dX1_init_57 : decode cX1_init 57 = .ok (.iastore, 1) := by decide +kernel
theorem dX1_init_58 : decode cX1_init 58 = .ok (.iinc 1 1, 3) := by decide +kernel
theorem dX1_init_61 : decode cX1_init 61 = .ok (.goto (-23), 3) := by decide +kernel
theorem dX1_init_64 : decode cX1_init 64 = .ok (.iconst 0, 1) := by decide +kernel
theorem dX1_init_65 : decode cX1_init 65 = .ok (.istore_n 1, 1) := by decide +kernel
theorem dX1_init_66 : decode cX1_init 66 = .ok (.iload_n 1, 1) := by decide +kernel
theorem dX1_init_67 : decode cX1_init 67 = .ok (.bipush 9, 2) := by decide +kernel
theorem dX1_init_69 : decode cX1_init 69 = .ok (.if_icmp .ge 16, 3) := by decide +kernel
theorem dX1_init_72 : decode cX1_init 72 = .ok (.aload_n 0, 1) := by decide +kernel
theorem dX1_init_73 : decode cX1_init 73 = .ok (.getfield 21, 3) := by decide +kernel
theorem dX1_init_76 : decode cX1_init 76 = .ok (.iload_n 1, 1) := by decide +kernel
theorem dX1_init_77 : decode cX1_init 77 = .ok (.iconst (-1), 1) := by decide +kernel
theorem dX1_init_78 : decode cX1_init 78 = .ok (.iastore, 1) := by decide +kernel
theorem dX1_init_79 : decode cX1_init 79 = .ok (.iinc 1 1, 3) := by decide +kernel
theorem dX1_init_82 : decode cX1_init 82 = .ok (.goto (-16), 3) := by decide +kernel
theorem dX1_init_85 : decode cX1_init 85 = .ok (.return_, 1) := by decide +kernel
theorem dX1_copyFrom_0 : decode cX1_copyFrom 0 = .ok (.aload_n 1, 1) := by decide +kernel
theorem dX1_copyFrom_1 : decode cX1_copyFrom 1 = .ok (.getfield 9, 3) := by decide +kernel
theorem dX1_copyFrom_4 : decode cX1_copyFrom 4 = .ok (.iconst 0, 1) := by decide +kernel
theorem dX1_copyFrom_5 : decode cX1_copyFrom 5 = .ok (.aload_n 0, 1) := by decide +kernel
theorem dX1_copyFrom_6 : decode cX1_copyFrom 6 = .ok (.getfield 9, 3) := by decide +kernel
theorem dX1_copyFrom_9 : decode cX1_copyFrom 9 = .ok (.iconst 0, 1) := by decide +kernel
theorem dX1_copyFrom_10 : decode cX1_copyFrom 10 = .ok (.bipush 23, 2) := by decide +kernel
theorem dX1_copyFrom_12 : decode cX1_copyFrom 12 = .ok (.invokestatic 24, 3) := by decide +kernel
theorem dX1_copyFrom_15 : decode cX1_copyFrom 15 = .ok (.aload_n 1, 1) := by decide +kernel
theorem dX1_copyFrom_16 : decode cX1_copyFrom 16 = .ok (.getfield 15, 3) := by decide +kernel
theorem dX1_copyFrom_19 : decode cX1_copyFrom 19 = .ok (.iconst 0, 1) := by decide +kernel
theorem dX1_copyFrom_20 : decode cX1_copyFrom 20 = .ok (.aload_n 0, 1) := by decide +kernel
theorem dX1_copyFrom_21 : decode cX1_copyFrom 21 = .ok (.getfield 15, 3) := by decide +kernel
theorem dX1_copyFrom_24 : decode cX1_copyFrom 24 = .ok (.iconst 0, 1) := by decide +kernel
theorem dX1_copyFrom_25 : decode cX1_copyFrom 25 = .ok (.bipush 9, 2) := by decide +kernel
theorem dX1_copyFrom_27 : decode cX1_copyFrom 27 = .ok (.invokestatic 24, 3) := by decide +kernel
theorem dX1_copyFrom_30 : decode cX1_copyFrom 30 = .ok (.aload_n 1, 1) := by decide +kernel
theorem dX1_copyFrom_31 : decode cX1_copyFrom 31 = .ok (.getfield 18, 3) := by decide +kernel
theorem dX1_copyFrom_34 : decode cX1_copyFrom 34 = .ok (.iconst 0, 1) := by decide +kernel
theorem dX1_copyFrom_35 : decode cX1_copyFrom 35 = .ok (.aload_n 0, 1) := by decide +kernel
theorem dX1_copyFrom_36 : decode cX1_copyFrom 36 = .ok (.getfield 18, 3) := by decide +kernel
theorem dX1_copyFrom_39 : decode cX1_copyFrom 39 = .ok (.iconst 0, 1) := by decide +kernel
theorem dX1_copyFrom_40 : decode cX1_copyFrom 40 = .ok (.bipush 23, 2) := by decide +kernel
theorem dX1_copyFrom_42 : decode cX1_copyFrom 42 = .ok (.invokestatic 24, 3) := by decide +kernel
theorem dX1_copyFrom_45 : decode cX1_copyFrom 45 = .ok (.aload_n 1, 1) := by decide +kernel
theorem dX1_copyFrom_46 : decode cX1_copyFrom 46 = .ok (.getfield 21, 3) := by decide +kernel
theorem dX1_copyFrom_49 : decode cX1_copyFrom 49 = .ok (.iconst 0, 1) := by decide +kernel
theorem dX1_copyFrom_50 : decode cX1_copyFrom 50 = .ok (.aload_n 0, 1) := by decide +kernel
theorem dX1_copyFrom_51 : decode cX1_copyFrom 51 = .ok (.getfield 21, 3) := by decide +kernel
theorem dX1_copyFrom_54 : decode cX1_copyFrom 54 = .ok (.iconst 0, 1) := by decide +kernel
theorem dX1_copyFrom_55 : decode cX1_copyFrom 55 = .ok (.bipush 9, 2) := by decide +kernel
theorem dX1_copyFrom_57 : decode cX1_copyFrom 57 = .ok (.invokestatic 24, 3) := by decide +kernel
theorem dX1_copyFrom_60 : decode cX1_copyFrom 60 = .ok (.return_, 1) := by decide +kernel
theorem dX1_lowestFree_0 : decode cX1_lowestFree 0 = .ok (.iload_n 1, 1) := by decide +kernel
theorem dX1_lowestFree_1 : decode cX1_lowestFree 1 = .ok (.istore_n 2, 1) := by decide +kernel
theorem dX1_lowestFree_2 : decode cX1_lowestFree 2 = .ok (.iload_n 2, 1) := by decide +kernel
theorem dX1_lowestFree_3 : decode cX1_lowestFree 3 = .ok (.bipush 9, 2) := by decide +kernel
theorem dX1_lowestFree_5 : decode cX1_lowestFree 5 = .ok (.if_icmp .ge 21, 3) := by decide +kernel
theorem dX1_lowestFree_8 : decode cX1_lowestFree 8 = .ok (.aload_n 0, 1) := by decide +kernel
theorem dX1_lowestFree_9 : decode cX1_lowestFree 9 = .ok (.getfield 21, 3) := by decide +kernel
theorem dX1_lowestFree_12 : decode cX1_lowestFree 12 = .ok (.iload_n 2, 1) := by decide +kernel
theorem dX1_lowestFree_13 : decode cX1_lowestFree 13 = .ok (.iaload, 1) := by decide +kernel
theorem dX1_lowestFree_14 : decode cX1_lowestFree 14 = .ok (.iconst (-1), 1) := by decide +kernel
theorem dX1_lowestFree_15 : decode cX1_lowestFree 15 = .ok (.if_icmp .ne 5, 3) := by decide +kernel
theorem dX1_lowestFree_18 : decode cX1_lowestFree 18 = .ok (.iload_n 2, 1) := by decide +kernel
theorem dX1_lowestFree_19 : decode cX1_lowestFree 19 = .ok (.ireturn, 1) := by decide +kernel
theorem dX1_lowestFree_20 : decode cX1_lowestFree 20 = .ok (.iinc 2 1, 3) := by decide +kernel
theorem dX1_lowestFree_23 : decode cX1_lowestFree 23 = .ok (.goto (-21), 3) := by decide +kernel
theorem dX1_lowestFree_26 : decode cX1_lowestFree 26 = .ok (.iconst (-1), 1) := by decide +kernel
theorem dX1_lowestFree_27 : decode cX1_lowestFree 27 = .ok (.ireturn, 1) := by decide +kernel
theorem dX1_freeSlots_0 : decode cX1_freeSlots 0 = .ok (.iconst 0, 1) := by decide +kernel
theorem dX1_freeSlots_1 : decode cX1_freeSlots 1 = .ok (.istore_n 1, 1) := by decide +kernel
theorem dX1_freeSlots_2 : decode cX1_freeSlots 2 = .ok (.iconst 0, 1) := by decide +kernel
theorem dX1_freeSlots_3 : decode cX1_freeSlots 3 = .ok (.istore_n 2, 1) := by decide +kernel
theorem dX1_freeSlots_4 : decode cX1_freeSlots 4 = .ok (.iload_n 2, 1) := by decide +kernel
theorem dX1_freeSlots_5 : decode cX1_freeSlots 5 = .ok (.bipush 9, 2) := by decide +kernel
theorem dX1_freeSlots_7 : decode cX1_freeSlots 7 = .ok (.if_icmp .ge 27, 3) := by decide +kernel
theorem dX1_freeSlots_10 : decode cX1_freeSlots 10 = .ok (.iload_n 1, 1) := by decide +kernel
theorem dX1_freeSlots_11 : decode cX1_freeSlots 11 = .ok (.aload_n 0, 1) := by decide +kernel
theorem dX1_freeSlots_12 : decode cX1_freeSlots 12 = .ok (.getfield 21, 3) := by decide +kernel
theorem dX1_freeSlots_15 : decode cX1_freeSlots 15 = .ok (.iload_n 2, 1) := by decide +kernel
theorem dX1_freeSlots_16 : decode cX1_freeSlots 16 = .ok (.iaload, 1) := by decide +kernel
theorem dX1_freeSlots_17 : decode cX1_freeSlots 17 = .ok (.iconst (-1), 1) := by decide +kernel
theorem dX1_freeSlots_18 : decode cX1_freeSlots 18 = .ok (.if_icmp .ne 7, 3) := by decide +kernel
theorem dX1_freeSlots_21 : decode cX1_freeSlots 21 = .ok (.iconst 1, 1) := by decide +kernel
theorem dX1_freeSlots_22 : decode cX1_freeSlots 22 = .ok (.goto 4, 3) := by decide +kernel
theorem dX1_freeSlots_25 : decode cX1_freeSlots 25 = .ok (.iconst 0, 1) := by decide +kernel
theorem dX1_freeSlots_26 : decode cX1_freeSlots 26 = .ok (.iadd, 1) := by decide +kernel
theorem dX1_freeSlots_27 : decode cX1_freeSlots 27 = .ok (.istore_n 1, 1) := by decide +kernel
theorem dX1_freeSlots_28 : decode cX1_freeSlots 28 = .ok (.iinc 2 1, 3) := by decide +kernel
theorem dX1_freeSlots_31 : decode cX1_freeSlots 31 = .ok (.goto (-27), 3) := by decide +kernel
theorem dX1_freeSlots_34 : decode cX1_freeSlots 34 = .ok (.iload_n 1, 1) := by decide +kernel
theorem dX1_freeSlots_35 : decode cX1_freeSlots 35 = .ok (.ireturn, 1) := by decide +kernel
theorem dX1_takeSlots_0 : decode cX1_takeSlots 0 = .ok (.getstatic 30, 3) := by decide +kernel
theorem dX1_takeSlots_3 : decode cX1_takeSlots 3 = .ok (.iload_n 1, 1) := by decide +kernel
theorem dX1_takeSlots_4 : decode cX1_takeSlots 4 = .ok (.iaload, 1) := by decide +kernel
theorem dX1_takeSlots_5 : decode cX1_takeSlots 5 = .ok (.istore_n 2, 1) := by decide +kernel
theorem dX1_takeSlots_6 : decode cX1_takeSlots 6 = .ok (.iload_n 2, 1) := by decide +kernel
theorem dX1_takeSlots_7 : decode cX1_takeSlots 7 = .ok (.getstatic 33, 3) := by decide +kernel
theorem dX1_takeSlots_10 : decode cX1_takeSlots 10 = .ok (.iload_n 1, 1) := by decide +kernel
theorem dX1_takeSlots_11 : decode cX1_takeSlots 11 = .ok (.iaload, 1) := by decide +kernel
theorem dX1_takeSlots_12 : decode cX1_takeSlots 12 = .ok (.iadd, 1) := by decide +kernel
theorem dX1_takeSlots_13 : decode cX1_takeSlots 13 = .ok (.istore_n 3, 1) := by decide +kernel
theorem dX1_takeSlots_14 : decode cX1_takeSlots 14 = .ok (.iconst 0, 1) := by decide +kernel
theorem dX1_takeSlots_15 : decode cX1_takeSlots 15 = .ok (.istore 4, 2) := by decide +kernel
theorem dX1_takeSlots_17 : decode cX1_takeSlots 17 = .ok (.iload 4, 2) := by decide +kernel
theorem dX1_takeSlots_19 : decode cX1_takeSlots 19 = .ok (.bipush 9, 2) := by decide +kernel
theorem dX1_takeSlots_21 : decode cX1_takeSlots 21 = .ok (.if_icmp .ge 44, 3) := by decide +kernel
theorem dX1_takeSlots_24 : decode cX1_takeSlots 24 = .ok (.iload_n 2, 1) := by decide +kernel
theorem dX1_takeSlots_25 : decode cX1_takeSlots 25 = .ok (.iload_n 3, 1) := by decide +kernel
theorem dX1_takeSlots_26 : decode cX1_takeSlots 26 = .ok (.if_icmp .ge 39, 3) := by decide +kernel
theorem dX1_takeSlots_29 : decode cX1_takeSlots 29 = .ok (.aload_n 0, 1) := by decide +kernel
theorem dX1_takeSlots_30 : decode cX1_takeSlots 30 = .ok (.getfield 21, 3) := by decide +kernel
theorem dX1_takeSlots_33 : decode cX1_takeSlots 33 = .ok (.iload 4, 2) := by decide +kernel
theorem dX1_takeSlots_35 : decode cX1_takeSlots 35 = .ok (.iaload, 1) := by decide +kernel
theorem dX1_takeSlots_36 : decode cX1_takeSlots 36 = .ok (.iconst (-1), 1) := by decide +kernel
theorem dX1_takeSlots_37 : decode cX1_takeSlots 37 = .ok (.if_icmp .ne 22, 3) := by decide +kernel
theorem dX1_takeSlots_40 : decode cX1_takeSlots 40 = .ok (.aload_n 0, 1) := by decide +kernel
theorem dX1_takeSlots_41 : decode cX1_takeSlots 41 = .ok (.getfield 21, 3) := by decide +kernel
theorem dX1_takeSlots_44 : decode cX1_takeSlots 44 = .ok (.iload 4, 2) := by decide +kernel
theorem dX1_takeSlots_46 : decode cX1_takeSlots 46 = .ok (.iload_n 2, 1) := by decide +kernel
theorem dX1_takeSlots_47 : decode cX1_takeSlots 47 = .ok (.iastore, 1) := by decide +kernel
theorem dX1_takeSlots_48 : decode cX1_takeSlots 48 = .ok (.aload_n 0, 1) := by decide +kernel
theorem dX1_takeSlots_49 : decode cX1_takeSlots 49 = .ok (.getfield 18, 3) := by decide +kernel
theorem dX1_takeSlots_52 : decode cX1_takeSlots 52 = .ok (.iload_n 2, 1) := by decide +kernel
theorem dX1_takeSlots_53 : decode cX1_takeSlots 53 = .ok (.iload 4, 2) := by decide +kernel
theorem dX1_takeSlots_55 : decode cX1_takeSlots 55 = .ok (.iastore, 1) := by decide +kernel
theorem dX1_takeSlots_56 : decode cX1_takeSlots 56 = .ok (.iinc 2 1, 3) := by decide +kernel
theorem dX1_takeSlots_59 : decode cX1_takeSlots 59 = .ok (.iinc 4 1, 3) := by decide +kernel
theorem dX1_takeSlots_62 : decode cX1_takeSlots 62 = .ok (.goto (-45), 3) := by decide +kernel
theorem dX1_takeSlots_65 : decode cX1_takeSlots 65 = .ok (.return_, 1) := by decide +kernel
theorem dX1_leaveSlots_0 : decode cX1_leaveSlots 0 = .ok (.getstatic 30, 3) := by decide +kernel
theorem dX1_leaveSlots_3 : decode cX1_leaveSlots 3 = .ok (.iload_n 1, 1) := by decide +kernel
theorem dX1_leaveSlots_4 : decode cX1_leaveSlots 4 = .ok (.iaload, 1) := by decide +kernel
theorem dX1_leaveSlots_5 : decode cX1_leaveSlots 5 = .ok (.istore_n 2, 1) := by decide +kernel
theorem dX1_leaveSlots_6 : decode cX1_leaveSlots 6 = .ok (.iload_n 2, 1) := by decide +kernel
theorem dX1_leaveSlots_7 : decode cX1_leaveSlots 7 = .ok (.getstatic 30, 3) := by decide +kernel
theorem dX1_leaveSlots_10 : decode cX1_leaveSlots 10 = .ok (.iload_n 1, 1) := by decide +kernel
theorem dX1_leaveSlots_11 : decode cX1_leaveSlots 11 = .ok (.iaload, 1) := by decide +kernel
theorem dX1_leaveSlots_12 : decode cX1_leaveSlots 12 = .ok (.getstatic 33, 3) := by decide +kernel
theorem dX1_leaveSlots_15 : decode cX1_leaveSlots 15 = .ok (.iload_n 1, 1) := by decide +kernel
theorem dX1_leaveSlots_16 : decode cX1_leaveSlots 16 = .ok (.iaload, 1) := by decide +kernel
theorem dX1_leaveSlots_17 : decode cX1_leaveSlots 17 = .ok (.iadd, 1) := by decide +kernel
theorem dX1_leaveSlots_18 : decode cX1_leaveSlots 18 = .ok (.if_icmp .ge 40, 3) := by decide +kernel
theorem dX1_leaveSlots_21 : decode cX1_leaveSlots 21 = .ok (.aload_n 0, 1) := by decide +kernel
theorem dX1_leaveSlots_22 : decode cX1_leaveSlots 22 = .ok (.getfield 18, 3) := by decide +kernel
theorem dX1_leaveSlots_25 : decode cX1_leaveSlots 25 = .ok (.iload_n 2, 1) := by decide +kernel
theorem dX1_leaveSlots_26 : decode cX1_leaveSlots 26 = .ok (.iaload, 1) := by decide +kernel
theorem dX1_leaveSlots_27 : decode cX1_leaveSlots 27 = .ok (.istore_n 3, 1) := by decide +kernel
theorem dX1_leaveSlots_28 : decode cX1_leaveSlots 28 = .ok (.iload_n 3, 1) := by decide +kernel
theorem dX1_leaveSlots_29 : decode cX1_leaveSlots 29 = .ok (.ifCond .lt 16, 3) := by decide +kernel
theorem dX1_leaveSlots_32 : decode cX1_leaveSlots 32 = .ok (.iload_n 3, 1) := by decide +kernel
theorem dX1_leaveSlots_33 : decode cX1_leaveSlots 33 = .ok (.bipush 9, 2) := by decide +kernel
theorem dX1_leaveSlots_35 : decode cX1_leaveSlots 35 = .ok (.if_icmp .ge 10, 3) := by decide +kernel
theorem dX1_leaveSlots_38 : decode cX1_leaveSlots 38 = .ok (.aload_n 0, 1) := by decide +kernel
theorem dX1_leaveSlots_39 : decode cX1_leaveSlots 39 = .ok (.getfield 21, 3) := by decide +kernel
theorem dX1_leaveSlots_42 : decode cX1_leaveSlots 42 = .ok (.iload_n 3, 1) := by decide +kernel
theorem dX1_leaveSlots_43 : decode cX1_leaveSlots 43 = .ok (.iconst (-1), 1) := by decide +kernel
theorem dX1_leaveSlots_44 : decode cX1_leaveSlots 44 = .ok (.iastore, 1) := by decide +kernel
theorem dX1_leaveSlots_45 : decode cX1_leaveSlots 45 = .ok (.aload_n 0, 1) := by decide +kernel
theorem dX1_leaveSlots_46 : decode cX1_leaveSlots 46 = .ok (.getfield 18, 3) := by decide +kernel
theorem dX1_leaveSlots_49 : decode cX1_leaveSlots 49 = .ok (.iload_n 2, 1) := by decide +kernel
theorem dX1_leaveSlots_50 : decode cX1_leaveSlots 50 = .ok (.iconst (-1), 1) := by decide +kernel
theorem dX1_leaveSlots_51 : decode cX1_leaveSlots 51 = .ok (.iastore, 1) := by decide +kernel
theorem dX1_leaveSlots_52 : decode cX1_leaveSlots 52 = .ok (.iinc 2 1, 3) := by decide +kernel
theorem dX1_leaveSlots_55 : decode cX1_leaveSlots 55 = .ok (.goto (-49), 3) := by decide +kernel
theorem dX1_leaveSlots_58 : decode cX1_leaveSlots 58 = .ok (.return_, 1) := by decide +kernel
theorem dX1_fastAt_0 : decode cX1_fastAt 0 = .ok (.aload_n 0, 1) := by decide +kernel
theorem dX1_fastAt_1 : decode cX1_fastAt 1 = .ok (.getfield 18, 3) := by decide +kernel
theorem dX1_fastAt_4 : decode cX1_fastAt 4 = .ok (.iload_n 1, 1) := by decide +kernel
theorem dX1_fastAt_5 : decode cX1_fastAt 5 = .ok (.iaload, 1) := by decide +kernel
theorem dX1_fastAt_6 : decode cX1_fastAt 6 = .ok (.istore_n 2, 1) := by decide +kernel
theorem dX1_fastAt_7 : decode cX1_fastAt 7 = .ok (.iload_n 2, 1) := by decide +kernel
theorem dX1_fastAt_8 : decode cX1_fastAt 8 = .ok (.ifCond .lt 18, 3) := by decide +kernel
theorem dX1_fastAt_11 : decode cX1_fastAt 11 = .ok (.iload_n 2, 1) := by decide +kernel
theorem dX1_fastAt_12 : decode cX1_fastAt 12 = .ok (.bipush 9, 2) := by decide +kernel
theorem dX1_fastAt_14 : decode cX1_fastAt 14 = .ok (.if_icmp .ge 12, 3) := by decide +kernel
theorem dX1_fastAt_17 : decode cX1_fastAt 17 = .ok (.aload_n 0, 1) := by decide +kernel
theorem dX1_fastAt_18 : decode cX1_fastAt 18 = .ok (.getfield 15, 3) := by decide +kernel
theorem dX1_fastAt_21 : decode cX1_fastAt 21 = .ok (.iload_n 2, 1) := by decide +kernel
theorem dX1_fastAt_22 : decode cX1_fastAt 22 = .ok (.iaload, 1) := by decide +kernel
theorem dX1_fastAt_23 : decode cX1_fastAt 23 = .ok (.goto 4, 3) := by decide +kernel
theorem dX1_fastAt_26 : decode cX1_fastAt 26 = .ok (.iconst (-1), 1) := by decide +kernel
theorem dX1_fastAt_27 : decode cX1_fastAt 27 = .ok (.ireturn, 1) := by decide +kernel
theorem dX1_putFast_0 : decode cX1_putFast 0 = .ok (.aload_n 0, 1) := by decide +kernel
theorem dX1_putFast_1 : decode cX1_putFast 1 = .ok (.getfield 18, 3) := by decide +kernel
theorem dX1_putFast_4 : decode cX1_putFast 4 = .ok (.iload_n 1, 1) := by decide +kernel
theorem dX1_putFast_5 : decode cX1_putFast 5 = .ok (.iaload, 1) := by decide +kernel
theorem dX1_putFast_6 : decode cX1_putFast 6 = .ok (.istore_n 3, 1) := by decide +kernel
theorem dX1_putFast_7 : decode cX1_putFast 7 = .ok (.iload_n 3, 1) := by decide +kernel
theorem dX1_putFast_8 : decode cX1_putFast 8 = .ok (.ifCond .lt 16, 3) := by decide +kernel
theorem dX1_putFast_11 : decode cX1_putFast 11 = .ok (.iload_n 3, 1) := by decide +kernel
theorem dX1_putFast_12 : decode cX1_putFast 12 = .ok (.bipush 9, 2) := by decide +kernel
theorem dX1_putFast_14 : decode cX1_putFast 14 = .ok (.if_icmp .ge 10, 3) := by decide +kernel
theorem dX1_putFast_17 : decode cX1_putFast 17 = .ok (.aload_n 0, 1) := by decide +kernel
theorem dX1_putFast_18 : decode cX1_putFast 18 = .ok (.getfield 15, 3) := by decide +kernel
theorem dX1_putFast_21 : decode cX1_putFast 21 = .ok (.iload_n 3, 1) := by decide +kernel
theorem dX1_putFast_22 : decode cX1_putFast 22 = .ok (.iload_n 2, 1) := by decide +kernel
theorem dX1_putFast_23 : decode cX1_putFast 23 = .ok (.iastore, 1) := by decide +kernel
theorem dX1_putFast_24 : decode cX1_putFast 24 = .ok (.return_, 1) := by decide +kernel
theorem dX2_init_0 : decode cX2_init 0 = .ok (.aload_n 0, 1) := by decide +kernel
theorem dX2_init_1 : decode cX2_init 1 = .ok (.invokespecial 3, 3) := by decide +kernel
theorem dX2_init_4 : decode cX2_init 4 = .ok (.aload_n 0, 1) := by decide +kernel
theorem dX2_init_5 : decode cX2_init 5 = .ok (.bipush 10, 2) := by decide +kernel
theorem dX2_init_7 : decode cX2_init 7 = .ok (.newarray .int, 2) := by decide +kernel
theorem dX2_init_9 : decode cX2_init 9 = .ok (.putfield 9, 3) := by decide +kernel
theorem dX2_init_12 : decode cX2_init 12 = .ok (.aload_n 0, 1) := by decide +kernel
theorem dX2_init_13 : decode cX2_init 13 = .ok (.bipush 10, 2) := by decide +kernel
theorem dX2_init_15 : decode cX2_init 15 = .ok (.newarray .int, 2) := by decide +kernel
theorem dX2_init_17 : decode cX2_init 17 = .ok (.putfield 15, 3) := by decide +kernel
theorem dX2_init_20 : decode cX2_init 20 = .ok (.aload_n 0, 1) := by decide +kernel
theorem dX2_init_21 : decode cX2_init 21 = .ok (.bipush 10, 2) := by decide +kernel
theorem dX2_init_23 : decode cX2_init 23 = .ok (.newarray .int, 2) := by decide +kernel
theorem dX2_init_25 : decode cX2_init 25 = .ok (.putfield 18, 3) := by decide +kernel
theorem dX2_init_28 : decode cX2_init 28 = .ok (.aload_n 0, 1) := by decide +kernel
theorem dX2_init_29 : decode cX2_init 29 = .ok (.bipush 10, 2) := by decide +kernel
theorem dX2_init_31 : decode cX2_init 31 = .ok (.newarray .int, 2) := by decide +kernel
theorem dX2_init_33 : decode cX2_init 33 = .ok (.putfield 21, 3) := by decide +kernel
theorem dX2_init_36 : decode cX2_init 36 = .ok (.aload_n 0, 1) := by decide +kernel
theorem dX2_init_37 : decode cX2_init 37 = .ok (.bipush 10, 2) := by decide +kernel
theorem dX2_init_39 : decode cX2_init 39 = .ok (.newarray .int, 2) := by decide +kernel
theorem dX2_init_41 : decode cX2_init 41 = .ok (.putfield 24, 3) := by decide +kernel
theorem dX2_init_44 : decode cX2_init 44 = .ok (.aload_n 0, 1) := by decide +kernel
theorem dX2_init_45 : decode cX2_init 45 = .ok (.bipush 10, 2) := by decide +kernel
theorem dX2_init_47 : decode cX2_init 47 = .ok (.newarray .int, 2) := by decide +kernel
theorem dX2_init_49 : decode cX2_init 49 = .ok (.putfield 27, 3) := by decide +kernel
theorem dX2_init_52 : decode cX2_init 52 = .ok (.aload_n 0, 1) := by decide +kernel
theorem dX2_init_53 : decode cX2_init 53 = .ok (.bipush 10, 2) := by decide +kernel
theorem dX2_init_55 : decode cX2_init 55 = .ok (.newarray .int, 2) := by decide +kernel
theorem dX2_init_57 : decode cX2_init 57 = .ok (.putfield 30, 3) := by decide +kernel
theorem dX2_init_60 : decode cX2_init 60 = .ok (.aload_n 0, 1) := by decide +kernel
theorem dX2_init_61 : decode cX2_init 61 = .ok (.bipush 10, 2) := by decide +kernel
theorem dX2_init_63 : decode cX2_init 63 = .ok (.newarray .int, 2) := by decide +kernel
theorem dX2_init_65 : decode cX2_init 65 = .ok (.putfield 33, 3) := by decide +kernel
theorem dX2_init_68 : decode cX2_init 68 = .ok (.aload_n 0, 1) := by decide +kernel
theorem dX2_init_69 : decode cX2_init 69 = .ok (.bipush 10, 2) := by decide +kernel
theorem dX2_init_71 : decode cX2_init 71 = .ok (.newarray .int, 2) := by decide +kernel
theorem dX2_init_73 : decode cX2_init 73 = .ok (.putfield 36, 3) := by decide +kernel
theorem dX2_init_76 : decode cX2_init 76 = .ok (.aload_n 0, 1) := by decide +kernel
theorem dX2_init_77 : decode cX2_init 77 = .ok (.bipush 10, 2) := by decide +kernel
theorem dX2_init_79 : decode cX2_init 79 = .ok (.newarray .int, 2) := by decide +kernel
theorem dX2_init_81 : decode cX2_init 81 = .ok (.putfield 39, 3) := by decide +kernel
theorem dX2_init_84 : decode cX2_init 84 = .ok (.aload_n 0, 1) := by decide +kernel
theorem dX2_init_85 : decode cX2_init 85 = .ok (.bipush 10, 2) := by decide +kernel
theorem dX2_init_87 : decode cX2_init 87 = .ok (.newarray .int, 2) := by decide +kernel
theorem dX2_init_89 : decode cX2_init 89 = .ok (.putfield 42, 3) := by decide +kernel
theorem dX2_init_92 : decode cX2_init 92 = .ok (.aload_n 0, 1) := by decide +kernel
theorem dX2_init_93 : decode cX2_init 93 = .ok (.bipush 10, 2) := by decide +kernel
theorem dX2_init_95 : decode cX2_init 95 = .ok (.newarray .int, 2) := by decide +kernel
theorem dX2_init_97 : decode cX2_init 97 = .ok (.putfield 45, 3) := by decide +kernel
theorem dX2_init_100 : decode cX2_init 100 = .ok (.return_, 1) := by decide +kernel
theorem dX2_copyFrom_0 : decode cX2_copyFrom 0 = .ok (.aload_n 1, 1) := by decide +kernel
theorem dX2_copyFrom_1 : decode cX2_copyFrom 1 = .ok (.getfield 9, 3) := by decide +kernel
theorem dX2_copyFrom_4 : decode cX2_copyFrom 4 = .ok (.iconst 0, 1) := by decide +kernel
theorem dX2_copyFrom_5 : decode cX2_copyFrom 5 = .ok (.aload_n 0, 1) := by decide +kernel
theorem dX2_copyFrom_6 : decode cX2_copyFrom 6 = .ok (.getfield 9, 3) := by decide +kernel
theorem dX2_copyFrom_9 : decode cX2_copyFrom 9 = .ok (.iconst 0, 1) := by decide +kernel
theorem dX2_copyFrom_10 : decode cX2_copyFrom 10 = .ok (.bipush 10, 2) := by decide +kernel
theorem dX2_copyFrom_12 : decode cX2_copyFrom 12 = .ok (.invokestatic 48, 3) := by decide +kernel
theorem dX2_copyFrom_15 : decode cX2_copyFrom 15 = .ok (.aload_n 1, 1) := by decide +kernel
theorem dX2_copyFrom_16 : decode cX2_copyFrom 16 = .ok (.getfield 15, 3) := by decide +kernel
theorem dX2_copyFrom_19 : decode cX2_copyFrom 19 = .ok (.iconst 0, 1) := by decide +kernel
theorem dX2_copyFrom_20 : decode cX2_copyFrom 20 = .ok (.aload_n 0, 1) := by decide +kernel
theorem dX2_copyFrom_21 : decode cX2_copyFrom 21 = .ok (.getfield 15, 3) := by decide +kernel
theorem dX2_copyFrom_24 : decode cX2_copyFrom 24 = .ok (.iconst 0, 1) := by decide +kernel
theorem dX2_copyFrom_25 : decode cX2_copyFrom 25 = .ok (.bipush 10, 2) := by decide +kernel
theorem dX2_copyFrom_27 : decode cX2_copyFrom 27 = .ok (.invokestatic 48, 3) := by decide +kernel
theorem dX2_copyFrom_30 : decode cX2_copyFrom 30 = .ok (.aload_n 1, 1) := by decide +kernel
theorem dX2_copyFrom_31 : decode cX2_copyFrom 31 = .ok (.getfield 18, 3) := by decide +kernel
theorem dX2_copyFrom_34 : decode cX2_copyFrom 34 = .ok (.iconst 0, 1) := by decide +kernel
theorem dX2_copyFrom_35 : decode cX2_copyFrom 35 = .ok (.aload_n 0, 1) := by decide +kernel
theorem dX2_copyFrom_36 : decode cX2_copyFrom 36 = .ok (.getfield 18, 3) := by decide +kernel
theorem dX2_copyFrom_39 : decode cX2_copyFrom 39 = .ok (.iconst 0, 1) := by decide +kernel
theorem dX2_copyFrom_40 : decode cX2_copyFrom 40 = .ok (.bipush 10, 2) := by decide +kernel
theorem dX2_copyFrom_42 : decode cX2_copyFrom 42 = .ok (.invokestatic 48, 3) := by decide +kernel
theorem dX2_copyFrom_45 : decode cX2_copyFrom 45 = .ok (.aload_n 1, 1) := by decide +kernel
theorem dX2_copyFrom_46 : decode cX2_copyFrom 46 = .ok (.getfield 21, 3) := by decide +kernel
theorem dX2_copyFrom_49 : decode cX2_copyFrom 49 = .ok (.iconst 0, 1) := by decide +kernel
theorem dX2_copyFrom_50 : decode cX2_copyFrom 50 = .ok (.aload_n 0, 1) := by decide +kernel
theorem dX2_copyFrom_51 : decode cX2_copyFrom 51 = .ok (.getfield 21, 3) := by decide +kernel
theorem dX2_copyFrom_54 : decode cX2_copyFrom 54 = .ok (.iconst 0, 1) := by decide +kernel
theorem dX2_copyFrom_55 : decode cX2_copyFrom 55 = .ok (.bipush 10, 2) := by decide +kernel
theorem dX2_copyFrom_57 : decode cX2_copyFrom 57 = .ok (.invokestatic 48, 3) := by decide +kernel
theorem dX2_copyFrom_60 : decode cX2_copyFrom 60 = .ok (.aload_n 1, 1) := by decide +kernel
theorem dX2_copyFrom_61 : decode cX2_copyFrom 61 = .ok (.getfield 24, 3) := by decide +kernel
theorem dX2_copyFrom_64 : decode cX2_copyFrom 64 = .ok (.iconst 0, 1) := by decide +kernel
theorem dX2_copyFrom_65 : decode cX2_copyFrom 65 = .ok (.aload_n 0, 1) := by decide +kernel
theorem dX2_copyFrom_66 : decode cX2_copyFrom 66 = .ok (.getfield 24, 3) := by decide +kernel
theorem dX2_copyFrom_69 : decode cX2_copyFrom 69 = .ok (.iconst 0, 1) := by decide +kernel
theorem dX2_copyFrom_70 : decode cX2_copyFrom 70 = .ok (.bipush 10, 2) := by decide +kernel
theorem dX2_copyFrom_72 : decode cX2_copyFrom 72 = .ok (.invokestatic 48, 3) := by decide +kernel
theorem dX2_copyFrom_75 : decode cX2_copyFrom 75 = .ok (.aload_n 1, 1) := by decide +kernel
theorem dX2_copyFrom_76 : decode cX2_copyFrom 76 = .ok (.getfield 27, 3) := by decide +kernel
theorem dX2_copyFrom_79 : decode cX2_copyFrom 79 = .ok (.iconst 0, 1) := by decide +kernel
theorem dX2_copyFrom_80 : decode cX2_copyFrom 80 = .ok (.aload_n 0, 1) := by decide +kernel
theorem dX2_copyFrom_81 : decode cX2_copyFrom 81 = .ok (.getfield 27, 3) := by decide +kernel
theorem dX2_copyFrom_84 : decode cX2_copyFrom 84 = .ok (.iconst 0, 1) := by decide +kernel
theorem dX2_copyFrom_85 : decode cX2_copyFrom 85 = .ok (.bipush 10, 2) := by decide +kernel
theorem dX2_copyFrom_87 : decode cX2_copyFrom 87 = .ok (.invokestatic 48, 3) := by decide +kernel
theorem dX2_copyFrom_90 : decode cX2_copyFrom 90 = .ok (.aload_n 1, 1) := by decide +kernel
theorem dX2_copyFrom_91 : decode cX2_copyFrom 91 = .ok (.getfield 30, 3) := by decide +kernel
theorem dX2_copyFrom_94 : decode cX2_copyFrom 94 = .ok (.iconst 0, 1) := by decide +kernel
theorem dX2_copyFrom_95 : decode cX2_copyFrom 95 = .ok (.aload_n 0, 1) := by decide +kernel
theorem dX2_copyFrom_96 : decode cX2_copyFrom 96 = .ok (.getfield 30, 3) := by decide +kernel
theorem dX2_copyFrom_99 : decode cX2_copyFrom 99 = .ok (.iconst 0, 1) := by decide +kernel
theorem dX2_copyFrom_100 : decode cX2_copyFrom 100 = .ok (.bipush 10, 2) := by decide +kernel
theorem dX2_copyFrom_102 : decode cX2_copyFrom 102 = .ok (.invokestatic 48, 3) := by decide +kernel
theorem dX2_copyFrom_105 : decode cX2_copyFrom 105 = .ok (.aload_n 1, 1) := by decide +kernel
theorem dX2_copyFrom_106 : decode cX2_copyFrom 106 = .ok (.getfield 33, 3) := by decide +kernel
theorem dX2_copyFrom_109 : decode cX2_copyFrom 109 = .ok (.iconst 0, 1) := by decide +kernel
theorem dX2_copyFrom_110 : decode cX2_copyFrom 110 = .ok (.aload_n 0, 1) := by decide +kernel
theorem dX2_copyFrom_111 : decode cX2_copyFrom 111 = .ok (.getfield 33, 3) := by decide +kernel
theorem dX2_copyFrom_114 : decode cX2_copyFrom 114 = .ok (.iconst 0, 1) := by decide +kernel
theorem dX2_copyFrom_115 : decode cX2_copyFrom 115 = .ok (.bipush 10, 2) := by decide +kernel
theorem dX2_copyFrom_117 : decode cX2_copyFrom 117 = .ok (.invokestatic 48, 3) := by decide +kernel
theorem dX2_copyFrom_120 : decode cX2_copyFrom 120 = .ok (.aload_n 1, 1) := by decide +kernel
theorem dX2_copyFrom_121 : decode cX2_copyFrom 121 = .ok (.getfield 36, 3) := by decide +kernel
theorem dX2_copyFrom_124 : decode cX2_copyFrom 124 = .ok (.iconst 0, 1) := by decide +kernel
theorem dX2_copyFrom_125 : decode cX2_copyFrom 125 = .ok (.aload_n 0, 1) := by decide +kernel
theorem dX2_copyFrom_126 : decode cX2_copyFrom 126 = .ok (.getfield 36, 3) := by decide +kernel
theorem dX2_copyFrom_129 : decode cX2_copyFrom 129 = .ok (.iconst 0, 1) := by decide +kernel
theorem dX2_copyFrom_130 : decode cX2_copyFrom 130 = .ok (.bipush 10, 2) := by decide +kernel
theorem dX2_copyFrom_132 : decode cX2_copyFrom 132 = .ok (.invokestatic 48, 3) := by decide +kernel
theorem dX2_copyFrom_135 : decode cX2_copyFrom 135 = .ok (.aload_n 1, 1) := by decide +kernel
theorem dX2_copyFrom_136 : decode cX2_copyFrom 136 = .ok (.getfield 39, 3) := by decide +kernel
theorem dX2_copyFrom_139 : decode cX2_copyFrom 139 = .ok (.iconst 0, 1) := by decide +kernel
theorem dX2_copyFrom_140 : decode cX2_copyFrom 140 = .ok (.aload_n 0, 1) := by decide +kernel
theorem dX2_copyFrom_141 : decode cX2_copyFrom 141 = .ok (.getfield 39, 3) := by decide +kernel
theorem dX2_copyFrom_144 : decode cX2_copyFrom 144 = .ok (.iconst 0, 1) := by decide +kernel
theorem dX2_copyFrom_145 : decode cX2_copyFrom 145 = .ok (.bipush 10, 2) := by decide +kernel
theorem dX2_copyFrom_147 : decode cX2_copyFrom 147 = .ok (.invokestatic 48, 3) := by decide +kernel
theorem dX2_copyFrom_150 : decode cX2_copyFrom 150 = .ok (.aload_n 1, 1) := by decide +kernel
theorem dX2_copyFrom_151 : decode cX2_copyFrom 151 = .ok (.getfield 42, 3) := by decide +kernel
theorem dX2_copyFrom_154 : decode cX2_copyFrom 154 = .ok (.iconst 0, 1) := by decide +kernel
theorem dX2_copyFrom_155 : decode cX2_copyFrom 155 = .ok (.aload_n 0, 1) := by decide +kernel
theorem dX2_copyFrom_156 : decode cX2_copyFrom 156 = .ok (.getfield 42, 3) := by decide +kernel
theorem dX2_copyFrom_159 : decode cX2_copyFrom 159 = .ok (.iconst 0, 1) := by decide +kernel
theorem dX2_copyFrom_160 : decode cX2_copyFrom 160 = .ok (.bipush 10, 2) := by decide +kernel
theorem dX2_copyFrom_162 : decode cX2_copyFrom 162 = .ok (.invokestatic 48, 3) := by decide +kernel
theorem dX2_copyFrom_165 : decode cX2_copyFrom 165 = .ok (.aload_n 1, 1) := by decide +kernel
theorem dX2_copyFrom_166 : decode cX2_copyFrom 166 = .ok (.getfield 45, 3) := by decide +kernel
theorem dX2_copyFrom_169 : decode cX2_copyFrom 169 = .ok (.iconst 0, 1) := by decide +kernel
theorem dX2_copyFrom_170 : decode cX2_copyFrom 170 = .ok (.aload_n 0, 1) := by decide +kernel
theorem dX2_copyFrom_171 : decode cX2_copyFrom 171 = .ok (.getfield 45, 3) := by decide +kernel
theorem dX2_copyFrom_174 : decode cX2_copyFrom 174 = .ok (.iconst 0, 1) := by decide +kernel
theorem dX2_copyFrom_175 : decode cX2_copyFrom 175 = .ok (.bipush 10, 2) := by decide +kernel
theorem dX2_copyFrom_177 : decode cX2_copyFrom 177 = .ok (.invokestatic 48, 3) := by decide +kernel
theorem dX2_copyFrom_180 : decode cX2_copyFrom 180 = .ok (.return_, 1) := by decide +kernel
theorem dX2_warm_0 : decode cX2_warm 0 = .ok (.aload_n 0, 1) := by decide +kernel
theorem dX2_warm_1 : decode cX2_warm 1 = .ok (.getfield 30, 3) := by decide +kernel
theorem dX2_warm_4 : decode cX2_warm 4 = .ok (.iload_n 1, 1) := by decide +kernel
theorem dX2_warm_5 : decode cX2_warm 5 = .ok (.sipush 9999, 3) := by decide +kernel
theorem dX2_warm_8 : decode cX2_warm 8 = .ok (.aload_n 0, 1) := by decide +kernel
theorem dX2_warm_9 : decode cX2_warm 9 = .ok (.getfield 30, 3) := by decide +kernel
theorem dX2_warm_12 : decode cX2_warm 12 = .ok (.iload_n 1, 1) := by decide +kernel
theorem dX2_warm_13 : decode cX2_warm 13 = .ok (.iaload, 1) := by decide +kernel
theorem dX2_warm_14 : decode cX2_warm 14 = .ok (.iload_n 2, 1) := by decide +kernel
theorem dX2_warm_15 : decode cX2_warm 15 = .ok (.iadd, 1) := by decide +kernel
theorem dX2_warm_16 : decode cX2_warm 16 = .ok (.invokestatic 54, 3) := by decide +kernel
theorem dX2_warm_19 : decode cX2_warm 19 = .ok (.iastore, 1) := by decide +kernel
theorem dX2_warm_20 : decode cX2_warm 20 = .ok (.aload_n 0, 1) := by decide +kernel
theorem dX2_warm_21 : decode cX2_warm 21 = .ok (.getfield 33, 3) := by decide +kernel
theorem dX2_warm_24 : decode cX2_warm 24 = .ok (.iload_n 1, 1) := by decide +kernel
theorem dX2_warm_25 : decode cX2_warm 25 = .ok (.dup2, 1) := by decide +kernel
theorem dX2_warm_26 : decode cX2_warm 26 = .ok (.iaload, 1) := by decide +kernel
theorem dX2_warm_27 : decode cX2_warm 27 = .ok (.iconst 1, 1) := by decide +kernel
theorem dX2_warm_28 : decode cX2_warm 28 = .ok (.ior, 1) := by decide +kernel
theorem dX2_warm_29 : decode cX2_warm 29 = .ok (.iastore, 1) := by decide +kernel
theorem dX2_warm_30 : decode cX2_warm 30 = .ok (.aload_n 0, 1) := by decide +kernel
theorem dX2_warm_31 : decode cX2_warm 31 = .ok (.getfield 36, 3) := by decide +kernel
theorem dX2_warm_34 : decode cX2_warm 34 = .ok (.iload_n 1, 1) := by decide +kernel
theorem dX2_warm_35 : decode cX2_warm 35 = .ok (.dup2, 1) := by decide +kernel
theorem dX2_warm_36 : decode cX2_warm 36 = .ok (.iaload, 1) := by decide +kernel
theorem dX2_warm_37 : decode cX2_warm 37 = .ok (.iconst 1, 1) := by decide +kernel
theorem dX2_warm_38 : decode cX2_warm 38 = .ok (.iadd, 1) := by decide +kernel
theorem dX2_warm_39 : decode cX2_warm 39 = .ok (.iastore, 1) := by decide +kernel
theorem dX2_warm_40 : decode cX2_warm 40 = .ok (.return_, 1) := by decide +kernel
theorem dX2_age_0 : decode cX2_age 0 = .ok (.iconst 0, 1) := by decide +kernel
theorem dX2_age_1 : decode cX2_age 1 = .ok (.istore_n 1, 1) := by decide +kernel
theorem dX2_age_2 : decode cX2_age 2 = .ok (.iload_n 1, 1) := by decide +kernel
theorem dX2_age_3 : decode cX2_age 3 = .ok (.bipush 10, 2) := by decide +kernel
theorem dX2_age_5 : decode cX2_age 5 = .ok (.if_icmp .ge 75, 3) := by decide +kernel
theorem dX2_age_8 : decode cX2_age 8 = .ok (.aload_n 0, 1) := by decide +kernel
theorem dX2_age_9 : decode cX2_age 9 = .ok (.getfield 30, 3) := by decide +kernel
theorem dX2_age_12 : decode cX2_age 12 = .ok (.iload_n 1, 1) := by decide +kernel
theorem dX2_age_13 : decode cX2_age 13 = .ok (.dup2, 1) := by decide +kernel
theorem dX2_age_14 : decode cX2_age 14 = .ok (.iaload, 1) := by decide +kernel
theorem dX2_age_15 : decode cX2_age 15 = .ok (.iconst 1, 1) := by decide +kernel
theorem dX2_age_16 : decode cX2_age 16 = .ok (.ishr, 1) := by decide +kernel
theorem dX2_age_17 : decode cX2_age 17 = .ok (.iastore, 1) := by decide +kernel
theorem dX2_age_18 : decode cX2_age 18 = .ok (.aload_n 0, 1) := by decide +kernel
theorem dX2_age_19 : decode cX2_age 19 = .ok (.getfield 33, 3) := by decide +kernel
theorem dX2_age_22 : decode cX2_age 22 = .ok (.iload_n 1, 1) := by decide +kernel
theorem dX2_age_23 : decode cX2_age 23 = .ok (.aload_n 0, 1) := by decide +kernel
theorem dX2_age_24 : decode cX2_age 24 = .ok (.getfield 33, 3) := by decide +kernel
theorem dX2_age_27 : decode cX2_age 27 = .ok (.iload_n 1, 1) := by decide +kernel
theorem dX2_age_28 : decode cX2_age 28 = .ok (.iaload, 1) := by decide +kernel
theorem dX2_age_29 : decode cX2_age 29 = .ok (.iconst 1, 1) := by decide +kernel
theorem dX2_age_30 : decode cX2_age 30 = .ok (.ishl, 1) := by decide +kernel
theorem dX2_age_31 : decode cX2_age 31 = .ok (.sipush 255, 3) := by decide +kernel
theorem dX2_age_34 : decode cX2_age 34 = .ok (.iand, 1) := by decide +kernel
theorem dX2_age_35 : decode cX2_age 35 = .ok (.iastore, 1) := by decide +kernel
theorem dX2_age_36 : decode cX2_age 36 = .ok (.aload_n 0, 1) := by decide +kernel
theorem dX2_age_37 : decode cX2_age 37 = .ok (.getfield 36, 3) := by decide +kernel
theorem dX2_age_40 : decode cX2_age 40 = .ok (.iload_n 1, 1) := by decide +kernel
theorem dX2_age_41 : decode cX2_age 41 = .ok (.iconst 0, 1) := by decide +kernel
theorem dX2_age_42 : decode cX2_age 42 = .ok (.iastore, 1) := by decide +kernel
theorem dX2_age_43 : decode cX2_age 43 = .ok (.aload_n 0, 1) := by decide +kernel
theorem dX2_age_44 : decode cX2_age 44 = .ok (.getfield 39, 3) := by decide +kernel
theorem dX2_age_47 : decode cX2_age 47 = .ok (.iload_n 1, 1) := by decide +kernel
theorem dX2_age_48 : decode cX2_age 48 = .ok (.iconst 0, 1) := by decide +kernel
theorem dX2_age_49 : decode cX2_age 49 = .ok (.iastore, 1) := by decide +kernel
theorem dX2_age_50 : decode cX2_age 50 = .ok (.aload_n 0, 1) := by decide +kernel
theorem dX2_age_51 : decode cX2_age 51 = .ok (.getfield 42, 3) := by decide +kernel
theorem dX2_age_54 : decode cX2_age 54 = .ok (.iload_n 1, 1) := by decide +kernel
theorem dX2_age_55 : decode cX2_age 55 = .ok (.aload_n 0, 1) := by decide +kernel
theorem dX2_age_56 : decode cX2_age 56 = .ok (.getfield 30, 3) := by decide +kernel
theorem dX2_age_59 : decode cX2_age 59 = .ok (.iload_n 1, 1) := by decide +kernel
theorem dX2_age_60 : decode cX2_age 60 = .ok (.iaload, 1) := by decide +kernel
theorem dX2_age_61 : decode cX2_age 61 = .ok (.iastore, 1) := by decide +kernel
theorem dX2_age_62 : decode cX2_age 62 = .ok (.aload_n 0, 1) := by decide +kernel
theorem dX2_age_63 : decode cX2_age 63 = .ok (.getfield 45, 3) := by decide +kernel
theorem dX2_age_66 : decode cX2_age 66 = .ok (.iload_n 1, 1) := by decide +kernel
theorem dX2_age_67 : decode cX2_age 67 = .ok (.aload_n 0, 1) := by decide +kernel
theorem dX2_age_68 : decode cX2_age 68 = .ok (.getfield 33, 3) := by decide +kernel
theorem dX2_age_71 : decode cX2_age 71 = .ok (.iload_n 1, 1) := by decide +kernel
theorem dX2_age_72 : decode cX2_age 72 = .ok (.iaload, 1) := by decide +kernel
theorem dX2_age_73 : decode cX2_age 73 = .ok (.iastore, 1) := by decide +kernel
theorem dX2_age_74 : decode cX2_age 74 = .ok (.iinc 1 1, 3) := by decide +kernel
theorem dX2_age_77 : decode cX2_age 77 = .ok (.goto (-75), 3) := by decide +kernel
theorem dX2_age_80 : decode cX2_age 80 = .ok (.return_, 1) := by decide +kernel
theorem dX2_forget_0 : decode cX2_forget 0 = .ok (.iconst 0, 1) := by decide +kernel
theorem dX2_forget_1 : decode cX2_forget 1 = .ok (.istore_n 1, 1) := by decide +kernel
theorem dX2_forget_2 : decode cX2_forget 2 = .ok (.iload_n 1, 1) := by decide +kernel
theorem dX2_forget_3 : decode cX2_forget 3 = .ok (.bipush 10, 2) := by decide +kernel
theorem dX2_forget_5 : decode cX2_forget 5 = .ok (.if_icmp .ge 71, 3) := by decide +kernel
theorem dX2_forget_8 : decode cX2_forget 8 = .ok (.aload_n 0, 1) := by decide +kernel
theorem dX2_forget_9 : decode cX2_forget 9 = .ok (.getfield 30, 3) := by decide +kernel
theorem dX2_forget_12 : decode cX2_forget 12 = .ok (.iload_n 1, 1) := by decide +kernel
theorem dX2_forget_13 : decode cX2_forget 13 = .ok (.aload_n 0, 1) := by decide +kernel
theorem dX2_forget_14 : decode cX2_forget 14 = .ok (.getfield 42, 3) := by decide +kernel
theorem dX2_forget_17 : decode cX2_forget 17 = .ok (.iload_n 1, 1) := by decide +kernel
theorem dX2_forget_18 : decode cX2_forget 18 = .ok (.iaload, 1) := by decide +kernel
theorem dX2_forget_19 : decode cX2_forget 19 = .ok (.iastore, 1) := by decide +kernel
theorem dX2_forget_20 : decode cX2_forget 20 = .ok (.aload_n 0, 1) := by decide +kernel
theorem dX2_forget_21 : decode cX2_forget 21 = .ok (.getfield 33, 3) := by decide +kernel
theorem dX2_forget_24 : decode cX2_forget 24 = .ok (.iload_n 1, 1) := by decide +kernel
theorem dX2_forget_25 : decode cX2_forget 25 = .ok (.aload_n 0, 1) := by decide +kernel
theorem dX2_forget_26 : decode cX2_forget 26 = .ok (.getfield 45, 3) := by decide +kernel
theorem dX2_forget_29 : decode cX2_forget 29 = .ok (.iload_n 1, 1) := by decide +kernel
theorem dX2_forget_30 : decode cX2_forget 30 = .ok (.iaload, 1) := by decide +kernel
theorem dX2_forget_31 : decode cX2_forget 31 = .ok (.iastore, 1) := by decide +kernel
theorem dX2_forget_32 : decode cX2_forget 32 = .ok (.aload_n 0, 1) := by decide +kernel
theorem dX2_forget_33 : decode cX2_forget 33 = .ok (.getfield 36, 3) := by decide +kernel
theorem dX2_forget_36 : decode cX2_forget 36 = .ok (.iload_n 1, 1) := by decide +kernel
theorem dX2_forget_37 : decode cX2_forget 37 = .ok (.iconst 0, 1) := by decide +kernel
theorem dX2_forget_38 : decode cX2_forget 38 = .ok (.iastore, 1) := by decide +kernel
theorem dX2_forget_39 : decode cX2_forget 39 = .ok (.aload_n 0, 1) := by decide +kernel
theorem dX2_forget_40 : decode cX2_forget 40 = .ok (.getfield 39, 3) := by decide +kernel
theorem dX2_forget_43 : decode cX2_forget 43 = .ok (.iload_n 1, 1) := by decide +kernel
theorem dX2_forget_44 : decode cX2_forget 44 = .ok (.iconst 0, 1) := by decide +kernel
theorem dX2_forget_45 : decode cX2_forget 45 = .ok (.iastore, 1) := by decide +kernel
theorem dX2_forget_46 : decode cX2_forget 46 = .ok (.aload_n 0, 1) := by decide +kernel
theorem dX2_forget_47 : decode cX2_forget 47 = .ok (.getfield 21, 3) := by decide +kernel
theorem dX2_forget_50 : decode cX2_forget 50 = .ok (.iload_n 1, 1) := by decide +kernel
theorem dX2_forget_51 : decode cX2_forget 51 = .ok (.aload_n 0, 1) := by decide +kernel
theorem dX2_forget_52 : decode cX2_forget 52 = .ok (.getfield 9, 3) := by decide +kernel
theorem dX2_forget_55 : decode cX2_forget 55 = .ok (.iload_n 1, 1) := by decide +kernel
theorem dX2_forget_56 : decode cX2_forget 56 = .ok (.iaload, 1) := by decide +kernel
theorem dX2_forget_57 : decode cX2_forget 57 = .ok (.iconst 1, 1) := by decide +kernel
theorem dX2_forget_58 : decode cX2_forget 58 = .ok (.if_icmp .ne 10, 3) := by decide +kernel
theorem dX2_forget_61 : decode cX2_forget 61 = .ok (.iload_n 1, 1) := by decide +kernel
theorem dX2_forget_62 : decode cX2_forget 62 = .ok (.invokestatic 60, 3) := by decide +kernel
theorem dX2_forget_65 : decode cX2_forget 65 = .ok (.goto 4, 3) := by decide +kernel
theorem dX2_forget_68 : decode cX2_forget 68 = .ok (.iconst 0, 1) := by decide +kernel
theorem dX2_forget_69 : decode cX2_forget 69 = .ok (.iastore, 1) := by decide +kernel
theorem dX2_forget_70 : decode cX2_forget 70 = .ok (.iinc 1 1, 3) := by decide +kernel
theorem dX2_forget_73 : decode cX2_forget 73 = .ok (.goto (-71), 3) := by decide +kernel
theorem dX2_forget_76 : decode cX2_forget 76 = .ok (.return_, 1) := by decide +kernel
theorem dX2_hotter_0 : decode cX2_hotter 0 = .ok (.aload_n 0, 1) := by decide +kernel
theorem dX2_hotter_1 : decode cX2_hotter 1 = .ok (.getfield 30, 3) := by decide +kernel
theorem dX2_hotter_4 : decode cX2_hotter 4 = .ok (.iload_n 1, 1) := by decide +kernel
theorem dX2_hotter_5 : decode cX2_hotter 5 = .ok (.iaload, 1) := by decide +kernel
theorem dX2_hotter_6 : decode cX2_hotter 6 = .ok (.aload_n 0, 1) := by decide +kernel
theorem dX2_hotter_7 : decode cX2_hotter 7 = .ok (.getfield 30, 3) := by decide +kernel
theorem dX2_hotter_10 : decode cX2_hotter 10 = .ok (.iload_n 2, 1) := by decide +kernel
theorem dX2_hotter_11 : decode cX2_hotter 11 = .ok (.iaload, 1) := by decide +kernel
theorem dX2_hotter_12 : decode cX2_hotter 12 = .ok (.if_icmp .gt 23, 3) := by decide +kernel
theorem dX2_hotter_15 : decode cX2_hotter 15 = .ok (.aload_n 0, 1) := by decide +kernel
theorem dX2_hotter_16 : decode cX2_hotter 16 = .ok (.getfield 30, 3) := by decide +kernel
theorem dX2_hotter_19 : decode cX2_hotter 19 = .ok (.iload_n 1, 1) := by decide +kernel
theorem dX2_hotter_20 : decode cX2_hotter 20 = .ok (.iaload, 1) := by decide +kernel
theorem dX2_hotter_21 : decode cX2_hotter 21 = .ok (.aload_n 0, 1) := by decide +kernel
theorem dX2_hotter_22 : decode cX2_hotter 22 = .ok (.getfield 30, 3) := by decide +kernel
theorem dX2_hotter_25 : decode cX2_hotter 25 = .ok (.iload_n 2, 1) := by decide +kernel
theorem dX2_hotter_26 : decode cX2_hotter 26 = .ok (.iaload, 1) := by decide +kernel
theorem dX2_hotter_27 : decode cX2_hotter 27 = .ok (.if_icmp .ne 12, 3) := by decide +kernel
theorem dX2_hotter_30 : decode cX2_hotter 30 = .ok (.iload_n 1, 1) := by decide +kernel
theorem dX2_hotter_31 : decode cX2_hotter 31 = .ok (.iload_n 2, 1) := by decide +kernel
theorem dX2_hotter_32 : decode cX2_hotter 32 = .ok (.if_icmp .ge 7, 3) := by decide +kernel
theorem dX2_hotter_35 : decode cX2_hotter 35 = .ok (.iconst 1, 1) := by decide +kernel
theorem dX2_hotter_36 : decode cX2_hotter 36 = .ok (.goto 4, 3) := by decide +kernel
theorem dX2_hotter_39 : decode cX2_hotter 39 = .ok (.iconst 0, 1) := by decide +kernel
theorem dX2_hotter_40 : decode cX2_hotter 40 = .ok (.ireturn, 1) := by decide +kernel
theorem dX2_hotterThan_0 : decode cX2_hotterThan 0 = .ok (.iconst 0, 1) := by decide +kernel
theorem dX2_hotterThan_1 : decode cX2_hotterThan 1 = .ok (.istore_n 2, 1) := by decide +kernel
theorem dX2_hotterThan_2 : decode cX2_hotterThan 2 = .ok (.iconst 0, 1) := by decide +kernel
theorem dX2_hotterThan_3 : decode cX2_hotterThan 3 = .ok (.istore_n 3, 1) := by decide +kernel
theorem dX2_hotterThan_4 : decode cX2_hotterThan 4 = .ok (.iload_n 3, 1) := by decide +kernel
theorem dX2_hotterThan_5 : decode cX2_hotterThan 5 = .ok (.bipush 10, 2) := by decide +kernel
theorem dX2_hotterThan_7 : decode cX2_hotterThan 7 = .ok (.if_icmp .ge 26, 3) := by decide +kernel
theorem dX2_hotterThan_10 : decode cX2_hotterThan 10 = .ok (.iload_n 2, 1) := by decide +kernel
theorem dX2_hotterThan_11 : decode cX2_hotterThan 11 = .ok (.aload_n 0, 1) := by decide +kernel
theorem dX2_hotterThan_12 : decode cX2_hotterThan 12 = .ok (.iload_n 3, 1) := by decide +kernel
theorem dX2_hotterThan_13 : decode cX2_hotterThan 13 = .ok (.iload_n 1, 1) := by decide +kernel
theorem dX2_hotterThan_14 : decode cX2_hotterThan 14 = .ok (.invokevirtual 64, 3) := by decide +kernel
theorem dX2_hotterThan_17 : decode cX2_hotterThan 17 = .ok (.ifCond .eq 7, 3) := by decide +kernel
theorem dX2_hotterThan_20 : decode cX2_hotterThan 20 = .ok (.iconst 1, 1) := by decide +kernel
theorem dX2_hotterThan_21 : decode cX2_hotterThan 21 = .ok (.goto 4, 3) := by decide +kernel
theorem dX2_hotterThan_24 : decode cX2_hotterThan 24 = .ok (.iconst 0, 1) := by decide +kernel
theorem dX2_hotterThan_25 : decode cX2_hotterThan 25 = .ok (.iadd, 1) := by decide +kernel
theorem dX2_hotterThan_26 : decode cX2_hotterThan 26 = .ok (.istore_n 2, 1) := by decide +kernel
theorem dX2_hotterThan_27 : decode cX2_hotterThan 27 = .ok (.iinc 3 1, 3) := by decide +kernel
theorem dX2_hotterThan_30 : decode cX2_hotterThan 30 = .ok (.goto (-26), 3) := by decide +kernel
theorem dX2_hotterThan_33 : decode cX2_hotterThan 33 = .ok (.iload_n 2, 1) := by decide +kernel
theorem dX2_hotterThan_34 : decode cX2_hotterThan 34 = .ok (.ireturn, 1) := by decide +kernel
theorem dX2_detail_0 : decode cX2_detail 0 = .ok (.iload_n 2, 1) := by decide +kernel
theorem dX2_detail_1 : decode cX2_detail 1 = .ok (.tableswitch 114 0 8 #[51, 58, 65, 72, 79, 86, 93, 100, 107], 51) := by decide +kernel
theorem dX2_detail_52 : decode cX2_detail 52 = .ok (.aload_n 0, 1) := by decide +kernel
theorem dX2_detail_53 : decode cX2_detail 53 = .ok (.getfield 33, 3) := by decide +kernel
theorem dX2_detail_56 : decode cX2_detail 56 = .ok (.iload_n 1, 1) := by decide +kernel
theorem dX2_detail_57 : decode cX2_detail 57 = .ok (.iaload, 1) := by decide +kernel
theorem dX2_detail_58 : decode cX2_detail 58 = .ok (.ireturn, 1) := by decide +kernel
theorem dX2_detail_59 : decode cX2_detail 59 = .ok (.aload_n 0, 1) := by decide +kernel
theorem dX2_detail_60 : decode cX2_detail 60 = .ok (.getfield 36, 3) := by decide +kernel
theorem dX2_detail_63 : decode cX2_detail 63 = .ok (.iload_n 1, 1) := by decide +kernel
theorem dX2_detail_64 : decode cX2_detail 64 = .ok (.iaload, 1) := by decide +kernel
theorem dX2_detail_65 : decode cX2_detail 65 = .ok (.ireturn, 1) := by decide +kernel
theorem dX2_detail_66 : decode cX2_detail 66 = .ok (.aload_n 0, 1) := by decide +kernel
theorem dX2_detail_67 : decode cX2_detail 67 = .ok (.getfield 39, 3) := by decide +kernel
theorem dX2_detail_70 : decode cX2_detail 70 = .ok (.iload_n 1, 1) := by decide +kernel
theorem dX2_detail_71 : decode cX2_detail 71 = .ok (.iaload, 1) := by decide +kernel
theorem dX2_detail_72 : decode cX2_detail 72 = .ok (.ireturn, 1) := by decide +kernel
theorem dX2_detail_73 : decode cX2_detail 73 = .ok (.aload_n 0, 1) := by decide +kernel
theorem dX2_detail_74 : decode cX2_detail 74 = .ok (.getfield 18, 3) := by decide +kernel
theorem dX2_detail_77 : decode cX2_detail 77 = .ok (.iload_n 1, 1) := by decide +kernel
theorem dX2_detail_78 : decode cX2_detail 78 = .ok (.iaload, 1) := by decide +kernel
theorem dX2_detail_79 : decode cX2_detail 79 = .ok (.ireturn, 1) := by decide +kernel
theorem dX2_detail_80 : decode cX2_detail 80 = .ok (.aload_n 0, 1) := by decide +kernel
theorem dX2_detail_81 : decode cX2_detail 81 = .ok (.getfield 15, 3) := by decide +kernel
theorem dX2_detail_84 : decode cX2_detail 84 = .ok (.iload_n 1, 1) := by decide +kernel
theorem dX2_detail_85 : decode cX2_detail 85 = .ok (.iaload, 1) := by decide +kernel
theorem dX2_detail_86 : decode cX2_detail 86 = .ok (.ireturn, 1) := by decide +kernel
theorem dX2_detail_87 : decode cX2_detail 87 = .ok (.aload_n 0, 1) := by decide +kernel
theorem dX2_detail_88 : decode cX2_detail 88 = .ok (.getfield 21, 3) := by decide +kernel
theorem dX2_detail_91 : decode cX2_detail 91 = .ok (.iload_n 1, 1) := by decide +kernel
theorem dX2_detail_92 : decode cX2_detail 92 = .ok (.iaload, 1) := by decide +kernel
theorem dX2_detail_93 : decode cX2_detail 93 = .ok (.ireturn, 1) := by decide +kernel
theorem dX2_detail_94 : decode cX2_detail 94 = .ok (.aload_n 0, 1) := by decide +kernel
theorem dX2_detail_95 : decode cX2_detail 95 = .ok (.getfield 42, 3) := by decide +kernel
theorem dX2_detail_98 : decode cX2_detail 98 = .ok (.iload_n 1, 1) := by decide +kernel
theorem dX2_detail_99 : decode cX2_detail 99 = .ok (.iaload, 1) := by decide +kernel
theorem dX2_detail_100 : decode cX2_detail 100 = .ok (.ireturn, 1) := by decide +kernel
theorem dX2_detail_101 : decode cX2_detail 101 = .ok (.aload_n 0, 1) := by decide +kernel
theorem dX2_detail_102 : decode cX2_detail 102 = .ok (.getfield 45, 3) := by decide +kernel
theorem dX2_detail_105 : decode cX2_detail 105 = .ok (.iload_n 1, 1) := by decide +kernel
theorem dX2_detail_106 : decode cX2_detail 106 = .ok (.iaload, 1) := by decide +kernel
theorem dX2_detail_107 : decode cX2_detail 107 = .ok (.ireturn, 1) := by decide +kernel
theorem dX2_detail_108 : decode cX2_detail 108 = .ok (.aload_n 0, 1) := by decide +kernel
theorem dX2_detail_109 : decode cX2_detail 109 = .ok (.getfield 24, 3) := by decide +kernel
theorem dX2_detail_112 : decode cX2_detail 112 = .ok (.iload_n 1, 1) := by decide +kernel
theorem dX2_detail_113 : decode cX2_detail 113 = .ok (.iaload, 1) := by decide +kernel
theorem dX2_detail_114 : decode cX2_detail 114 = .ok (.ireturn, 1) := by decide +kernel
theorem dX2_detail_115 : decode cX2_detail 115 = .ok (.iconst (-1), 1) := by decide +kernel
theorem dX2_detail_116 : decode cX2_detail 116 = .ok (.ireturn, 1) := by decide +kernel
theorem dX2_allBlocks_0 : decode cX2_allBlocks 0 = .ok (.iconst 1, 1) := by decide +kernel
theorem dX2_allBlocks_1 : decode cX2_allBlocks 1 = .ok (.getstatic 68, 3) := by decide +kernel
theorem dX2_allBlocks_4 : decode cX2_allBlocks 4 = .ok (.iload_n 0, 1) := by decide +kernel
theorem dX2_allBlocks_5 : decode cX2_allBlocks 5 = .ok (.iaload, 1) := by decide +kernel
theorem dX2_allBlocks_6 : decode cX2_allBlocks 6 = .ok (.ishl, 1) := by decide +kernel
theorem dX2_allBlocks_7 : decode cX2_allBlocks 7 = .ok (.iconst 1, 1) := by decide +kernel
theorem dX2_allBlocks_8 : decode cX2_allBlocks 8 = .ok (.isub, 1) := by decide +kernel
theorem dX2_allBlocks_9 : decode cX2_allBlocks 9 = .ok (.ireturn, 1) := by decide +kernel
theorem dX3_init_0 : decode cX3_init 0 = .ok (.aload_n 0, 1) := by decide +kernel
theorem dX3_init_1 : decode cX3_init 1 = .ok (.invokespecial 3, 3) := by decide +kernel
theorem dX3_init_4 : decode cX3_init 4 = .ok (.aload_n 0, 1) := by decide +kernel
theorem dX3_init_5 : decode cX3_init 5 = .ok (.iconst 0, 1) := by decide +kernel
theorem dX3_init_6 : decode cX3_init 6 = .ok (.putfield 9, 3) := by decide +kernel
theorem dX3_init_9 : decode cX3_init 9 = .ok (.aload_n 0, 1) := by decide +kernel
theorem dX3_init_10 : decode cX3_init 10 = .ok (.iconst 3, 1) := by decide +kernel
theorem dX3_init_11 : decode cX3_init 11 = .ok (.newarray .int, 2) := by decide +kernel
theorem dX3_init_13 : decode cX3_init 13 = .ok (.putfield 15, 3) := by decide +kernel
theorem dX3_init_16 : decode cX3_init 16 = .ok (.aload_n 0, 1) := by decide +kernel
theorem dX3_init_17 : decode cX3_init 17 = .ok (.iconst 3, 1) := by decide +kernel
theorem dX3_init_18 : decode cX3_init 18 = .ok (.newarray .int, 2) := by decide +kernel
theorem dX3_init_20 : decode cX3_init 20 = .ok (.putfield 19, 3) := by decide +kernel
theorem dX3_init_23 : decode cX3_init 23 = .ok (.return_, 1) := by decide +kernel
theorem dX3_copyFrom_0 : decode cX3_copyFrom 0 = .ok (.aload_n 0, 1) := by decide +kernel
theorem dX3_copyFrom_1 : decode cX3_copyFrom 1 = .ok (.aload_n 1, 1) := by decide +kernel
theorem dX3_copyFrom_2 : decode cX3_copyFrom 2 = .ok (.getfield 9, 3) := by decide +kernel
theorem dX3_copyFrom_5 : decode cX3_copyFrom 5 = .ok (.putfield 9, 3) := by decide +kernel
theorem dX3_copyFrom_8 : decode cX3_copyFrom 8 = .ok (.aload_n 1, 1) := by decide +kernel
theorem dX3_copyFrom_9 : decode cX3_copyFrom 9 = .ok (.getfield 15, 3) := by decide +kernel
theorem dX3_copyFrom_12 : decode cX3_copyFrom 12 = .ok (.iconst 0, 1) := by decide +kernel
theorem dX3_copyFrom_13 : decode cX3_copyFrom 13 = .ok (.aload_n 0, 1) := by decide +kernel
theorem dX3_copyFrom_14 : decode cX3_copyFrom 14 = .ok (.getfield 15, 3) := by decide +kernel
theorem dX3_copyFrom_17 : decode cX3_copyFrom 17 = .ok (.iconst 0, 1) := by decide +kernel
theorem dX3_copyFrom_18 : decode cX3_copyFrom 18 = .ok (.iconst 3, 1) := by decide +kernel
theorem dX3_copyFrom_19 : decode cX3_copyFrom 19 = .ok (.invokestatic 22, 3) := by decide +kernel
theorem dX3_copyFrom_22 : decode cX3_copyFrom 22 = .ok (.aload_n 1, 1) := by decide +kernel
theorem dX3_copyFrom_23 : decode cX3_copyFrom 23 = .ok (.getfield 19, 3) := by decide +kernel
theorem dX3_copyFrom_26 : decode cX3_copyFrom 26 = .ok (.iconst 0, 1) := by decide +kernel
theorem dX3_copyFrom_27 : decode cX3_copyFrom 27 = .ok (.aload_n 0, 1) := by decide +kernel
theorem dX3_copyFrom_28 : decode cX3_copyFrom 28 = .ok (.getfield 19, 3) := by decide +kernel
theorem dX3_copyFrom_31 : decode cX3_copyFrom 31 = .ok (.iconst 0, 1) := by decide +kernel
theorem dX3_copyFrom_32 : decode cX3_copyFrom 32 = .ok (.iconst 3, 1) := by decide +kernel
theorem dX3_copyFrom_33 : decode cX3_copyFrom 33 = .ok (.invokestatic 22, 3) := by decide +kernel
theorem dX3_copyFrom_36 : decode cX3_copyFrom 36 = .ok (.return_, 1) := by decide +kernel
theorem dX3_advance_0 : decode cX3_advance 0 = .ok (.iconst 1, 1) := by decide +kernel
theorem dX3_advance_1 : decode cX3_advance 1 = .ok (.istore_n 2, 1) := by decide +kernel
theorem dX3_advance_2 : decode cX3_advance 2 = .ok (.iconst 0, 1) := by decide +kernel
theorem dX3_advance_3 : decode cX3_advance 3 = .ok (.istore_n 3, 1) := by decide +kernel
theorem dX3_advance_4 : decode cX3_advance 4 = .ok (.iconst 0, 1) := by decide +kernel
theorem dX3_advance_5 : decode cX3_advance 5 = .ok (.istore 4, 2) := by decide +kernel
theorem dX3_advance_7 : decode cX3_advance 7 = .ok (.iload 4, 2) := by decide +kernel
theorem dX3_advance_9 : decode cX3_advance 9 = .ok (.aload_n 0, 1) := by decide +kernel
theorem dX3_advance_10 : decode cX3_advance 10 = .ok (.getfield 9, 3) := by decide +kernel
theorem dX3_advance_13 : decode cX3_advance 13 = .ok (.if_icmp .ge 81, 3) := by decide +kernel
theorem dX3_advance_16 : decode cX3_advance 16 = .ok (.iload 4, 2) := by decide +kernel
theorem dX3_advance_18 : decode cX3_advance 18 = .ok (.iconst 3, 1) := by decide +kernel
theorem dX3_advance_19 : decode cX3_advance 19 = .ok (.if_icmp .ge 75, 3) := by decide +kernel
theorem dX3_advance_22 : decode cX3_advance 22 = .ok (.aload_n 0, 1) := by decide +kernel
theorem dX3_advance_23 : decode cX3_advance 23 = .ok (.getfield 15, 3) := by decide +kernel
theorem dX3_advance_26 : decode cX3_advance 26 = .ok (.iload 4, 2) := by decide +kernel
theorem dX3_advance_28 : decode cX3_advance 28 = .ok (.iaload, 1) := by decide +kernel
theorem dX3_advance_29 : decode cX3_advance 29 = .ok (.iload_n 1, 1) := by decide +kernel
theorem dX3_advance_30 : decode cX3_advance 30 = .ok (.if_icmp .ne 16, 3) := by decide +kernel
theorem dX3_advance_33 : decode cX3_advance 33 = .ok (.aload_n 0, 1) := by decide +kernel
theorem dX3_advance_34 : decode cX3_advance 34 = .ok (.getfield 19, 3) := by decide +kernel
theorem dX3_advance_37 : decode cX3_advance 37 = .ok (.iload 4, 2) := by decide +kernel
theorem dX3_advance_39 : decode cX3_advance 39 = .ok (.iaload, 1) := by decide +kernel
theorem dX3_advance_40 : decode cX3_advance 40 = .ok (.iconst 1, 1) := by decide +kernel
theorem dX3_advance_41 : decode cX3_advance 41 = .ok (.iadd, 1) := by decide +kernel
theorem dX3_advance_42 : decode cX3_advance 42 = .ok (.istore_n 2, 1) := by decide +kernel
theorem dX3_advance_43 : decode cX3_advance 43 = .ok (.goto 45, 3) := by decide +kernel
theorem dX3_advance_46 : decode cX3_advance 46 = .ok (.aload_n 0, 1) := by decide +kernel
theorem dX3_advance_47 : decode cX3_advance 47 = .ok (.getfield 15, 3) := by decide +kernel
theorem dX3_advance_50 : decode cX3_advance 50 = .ok (.iload 4, 2) := by decide +kernel
theorem dX3_advance_52 : decode cX3_advance 52 = .ok (.iaload, 1) := by decide +kernel
theorem dX3_advance_53 : decode cX3_advance 53 = .ok (.iload_n 1, 1) := by decide +kernel
theorem dX3_advance_54 : decode cX3_advance 54 = .ok (.iconst 1, 1) := by decide +kernel
theorem dX3_advance_55 : decode cX3_advance 55 = .ok (.iadd, 1) := by decide +kernel
theorem dX3_advance_56 : decode cX3_advance 56 = .ok (.if_icmp .eq 32, 3) := by decide +kernel
theorem dX3_advance_59 : decode cX3_advance 59 = .ok (.aload_n 0, 1) := by decide +kernel
theorem dX3_advance_60 : decode cX3_advance 60 = .ok (.getfield 15, 3) := by decide +kernel
theorem dX3_advance_63 : decode cX3_advance 63 = .ok (.iload_n 3, 1) := by decide +kernel
theorem dX3_advance_64 : decode cX3_advance 64 = .ok (.aload_n 0, 1) := by decide +kernel
theorem dX3_advance_65 : decode cX3_advance 65 = .ok (.getfield 15, 3) := by decide +kernel
theorem dX3_advance_68 : decode cX3_advance 68 = .ok (.iload 4, 2) := by decide +kernel
theorem dX3_advance_70 : decode cX3_advance 70 = .ok (.iaload, 1) := by decide +kernel
theorem dX3_advance_71 : decode cX3_advance 71 = .ok (.iastore, 1) := by decide +kernel
theorem dX3_advance_72 : decode cX3_advance 72 = .ok (.aload_n 0, 1) := by decide +kernel
theorem dX3_advance_73 : decode cX3_advance 73 = .ok (.getfield 19, 3) := by decide +kernel
theorem dX3_advance_76 : decode cX3_advance 76 = .ok (.iload_n 3, 1) := by decide +kernel
theorem dX3_advance_77 : decode cX3_advance 77 = .ok (.aload_n 0, 1) := by decide +kernel
theorem dX3_advance_78 : decode cX3_advance 78 = .ok (.getfield 19, 3) := by decide +kernel
theorem dX3_advance_81 : decode cX3_advance 81 = .ok (.iload 4, 2) := by decide +kernel
theorem dX3_advance_83 : decode cX3_advance 83 = .ok (.iaload, 1) := by decide +kernel
theorem dX3_advance_84 : decode cX3_advance 84 = .ok (.iastore, 1) := by decide +kernel
theorem dX3_advance_85 : decode cX3_advance 85 = .ok (.iinc 3 1, 3) := by decide +kernel
theorem dX3_advance_88 : decode cX3_advance 88 = .ok (.iinc 4 1, 3) := by decide +kernel
theorem dX3_advance_91 : decode cX3_advance 91 = .ok (.goto (-84), 3) := by decide +kernel
theorem dX3_advance_94 : decode cX3_advance 94 = .ok (.iload_n 3, 1) := by decide +kernel
theorem dX3_advance_95 : decode cX3_advance 95 = .ok (.iconst 3, 1) := by decide +kernel
theorem dX3_advance_96 : decode cX3_advance 96 = .ok (.if_icmp .ne 34, 3) := by decide +kernel
theorem dX3_advance_99 : decode cX3_advance 99 = .ok (.iinc 3 (-1), 3) := by decide +kernel
theorem dX3_advance_102 : decode cX3_advance 102 = .ok (.aload_n 0, 1) := by decide +kernel
theorem dX3_advance_103 : decode cX3_advance 103 = .ok (.getfield 15, 3) := by decide +kernel
theorem dX3_advance_106 : decode cX3_advance 106 = .ok (.iconst 1, 1) := by decide +kernel
theorem dX3_advance_107 : decode cX3_advance 107 = .ok (.aload_n 0, 1) := by decide +kernel
theorem dX3_advance_108 : decode cX3_advance 108 = .ok (.getfield 15, 3) := by decide +kernel
theorem dX3_advance_111 : decode cX3_advance 111 = .ok (.iconst 0, 1) := by decide +kernel
theorem dX3_advance_112 : decode cX3_advance 112 = .ok (.iload_n 3, 1) := by decide +kernel
theorem dX3_advance_113 : decode cX3_advance 113 = .ok (.invokestatic 22, 3) := by decide +kernel
theorem dX3_advance_116 : decode cX3_advance 116 = .ok (.aload_n 0, 1) := by decide +kernel
theorem dX3_advance_117 : decode cX3_advance 117 = .ok (.getfield 19, 3) := by decide +kernel
theorem dX3_advance_120 : decode cX3_advance 120 = .ok (.iconst 1, 1) := by decide +kernel
theorem dX3_advance_121 : decode cX3_advance 121 = .ok (.aload_n 0, 1) := by decide +kernel
theorem dX3_advance_122 : decode cX3_advance 122 = .ok (.getfield 19, 3) := by decide +kernel
theorem dX3_advance_125 : decode cX3_advance 125 = .ok (.iconst 0, 1) := by decide +kernel
theorem dX3_advance_126 : decode cX3_advance 126 = .ok (.iload_n 3, 1) := by decide +kernel
theorem dX3_advance_127 : decode cX3_advance 127 = .ok (.invokestatic 22, 3) := by decide +kernel
theorem dX3_advance_130 : decode cX3_advance 130 = .ok (.aload_n 0, 1) := by decide +kernel
theorem dX3_advance_131 : decode cX3_advance 131 = .ok (.getfield 15, 3) := by decide +kernel
theorem dX3_advance_134 : decode cX3_advance 134 = .ok (.iload_n 3, 1) := by decide +kernel
theorem dX3_advance_135 : decode cX3_advance 135 = .ok (.iload_n 1, 1) := by decide +kernel
theorem dX3_advance_136 : decode cX3_advance 136 = .ok (.iconst 1, 1) := by decide +kernel
theorem dX3_advance_137 : decode cX3_advance 137 = .ok (.iadd, 1) := by decide +kernel
theorem dX3_advance_138 : decode cX3_advance 138 = .ok (.iastore, 1) := by decide +kernel
theorem dX3_advance_139 : decode cX3_advance 139 = .ok (.aload_n 0, 1) := by decide +kernel
theorem dX3_advance_140 : decode cX3_advance 140 = .ok (.getfield 19, 3) := by decide +kernel
theorem dX3_advance_143 : decode cX3_advance 143 = .ok (.iload_n 3, 1) := by decide +kernel
theorem dX3_advance_144 : decode cX3_advance 144 = .ok (.iload_n 2, 1) := by decide +kernel
theorem dX3_advance_145 : decode cX3_advance 145 = .ok (.iastore, 1) := by decide +kernel
theorem dX3_advance_146 : decode cX3_advance 146 = .ok (.aload_n 0, 1) := by decide +kernel
theorem dX3_advance_147 : decode cX3_advance 147 = .ok (.iload_n 3, 1) := by decide +kernel
theorem dX3_advance_148 : decode cX3_advance 148 = .ok (.iconst 1, 1) := by decide +kernel
theorem dX3_advance_149 : decode cX3_advance 149 = .ok (.iadd, 1) := by decide +kernel
theorem dX3_advance_150 : decode cX3_advance 150 = .ok (.putfield 9, 3) := by decide +kernel
theorem dX3_advance_153 : decode cX3_advance 153 = .ok (.iload_n 2, 1) := by decide +kernel
theorem dX3_advance_154 : decode cX3_advance 154 = .ok (.ireturn, 1) := by decide +kernel
theorem dX3_detail_0 : decode cX3_detail 0 = .ok (.iload_n 1, 1) := by decide +kernel
theorem dX3_detail_1 : decode cX3_detail 1 = .ok (.iconst (-1), 1) := by decide +kernel
theorem dX3_detail_2 : decode cX3_detail 2 = .ok (.if_icmp .ne 8, 3) := by decide +kernel
theorem dX3_detail_5 : decode cX3_detail 5 = .ok (.aload_n 0, 1) := by decide +kernel
theorem dX3_detail_6 : decode cX3_detail 6 = .ok (.getfield 9, 3) := by decide +kernel
theorem dX3_detail_9 : decode cX3_detail 9 = .ok (.ireturn, 1) := by decide +kernel
theorem dX3_detail_10 : decode cX3_detail 10 = .ok (.iload_n 1, 1) := by decide +kernel
theorem dX3_detail_11 : decode cX3_detail 11 = .ok (.ifCond .lt 20, 3) := by decide +kernel
theorem dX3_detail_14 : decode cX3_detail 14 = .ok (.iload_n 1, 1) := by decide +kernel
theorem dX3_detail_15 : decode cX3_detail 15 = .ok (.aload_n 0, 1) := by decide +kernel
theorem dX3_detail_16 : decode cX3_detail 16 = .ok (.getfield 9, 3) := by decide +kernel
theorem dX3_detail_19 : decode cX3_detail 19 = .ok (.if_icmp .ge 12, 3) := by decide +kernel
theorem dX3_detail_22 : decode cX3_detail 22 = .ok (.iload_n 2, 1) := by decide +kernel
theorem dX3_detail_23 : decode cX3_detail 23 = .ok (.ifCond .lt 8, 3) := by decide +kernel
theorem dX3_detail_26 : decode cX3_detail 26 = .ok (.iload_n 2, 1) := by decide +kernel
theorem dX3_detail_27 : decode cX3_detail 27 = .ok (.iconst 1, 1) := by decide +kernel
theorem dX3_detail_28 : decode cX3_detail 28 = .ok (.if_icmp .le 6, 3) := by decide +kernel
theorem dX3_detail_31 : decode cX3_detail 31 = .ok (.bipush (-2), 2) := by decide +kernel
theorem dX3_detail_33 : decode cX3_detail 33 = .ok (.ireturn, 1) := by decide +kernel
theorem dX3_detail_34 : decode cX3_detail 34 = .ok (.iload_n 2, 1) := by decide +kernel
theorem dX3_detail_35 : decode cX3_detail 35 = .ok (.ifCond .ne 12, 3) := by decide +kernel
theorem dX3_detail_38 : decode cX3_detail 38 = .ok (.aload_n 0, 1) := by decide +kernel
theorem dX3_detail_39 : decode cX3_detail 39 = .ok (.getfield 15, 3) := by decide +kernel
theorem dX3_detail_42 : decode cX3_detail 42 = .ok (.iload_n 1, 1) := by decide +kernel
theorem dX3_detail_43 : decode cX3_detail 43 = .ok (.iaload, 1) := by decide +kernel
theorem dX3_detail_44 : decode cX3_detail 44 = .ok (.goto 9, 3) := by decide +kernel
theorem dX3_detail_47 : decode cX3_detail 47 = .ok (.aload_n 0, 1) := by decide +kernel
theorem dX3_detail_48 : decode cX3_detail 48 = .ok (.getfield 19, 3) := by decide +kernel
theorem dX3_detail_51 : decode cX3_detail 51 = .ok (.iload_n 1, 1) := by decide +kernel
theorem dX3_detail_52 : decode cX3_detail 52 = .ok (.iaload, 1) := by decide +kernel
theorem dX3_detail_53 : decode cX3_detail 53 = .ok (.ireturn, 1) := by decide +kernel
theorem dX4_init_0 : decode cX4_init 0 = .ok (.aload_n 0, 1) := by decide +kernel
theorem dX4_init_1 : decode cX4_init 1 = .ok (.invokespecial 3, 3) := by decide +kernel
theorem dX4_init_4 : decode cX4_init 4 = .ok (.aload_n 0, 1) := by decide +kernel
theorem dX4_init_5 : decode cX4_init 5 = .ok (.bipush 30, 2) := by decide +kernel
theorem dX4_init_7 : decode cX4_init 7 = .ok (.anewarray 9, 3) := by decide +kernel
theorem dX4_init_10 : decode cX4_init 10 = .ok (.putfield 11, 3) := by decide +kernel
theorem dX4_init_13 : decode cX4_init 13 = .ok (.aload_n 0, 1) := by decide +kernel
theorem dX4_init_14 : decode cX4_init 14 = .ok (.iconst 0, 1) := by decide +kernel
theorem dX4_init_15 : decode cX4_init 15 = .ok (.putfield 17, 3) := by decide +kernel
theorem dX4_init_18 : decode cX4_init 18 = .ok (.aload_n 0, 1) := by decide +kernel
theorem dX4_init_19 : decode cX4_init 19 = .ok (.iconst 0, 1) := by decide +kernel
theorem dX4_init_20 : decode cX4_init 20 = .ok (.putfield 21, 3) := by decide +kernel
theorem dX4_init_23 : decode cX4_init 23 = .ok (.iconst 0, 1) := by decide +kernel
theorem dX4_init_24 : decode cX4_init 24 = .ok (.istore_n 1, 1) := by decide +kernel
theorem dX4_init_25 : decode cX4_init 25 = .ok (.iload_n 1, 1) := by decide +kernel
theorem dX4_init_26 : decode cX4_init 26 = .ok (.bipush 30, 2) := by decide +kernel
theorem dX4_init_28 : decode cX4_init 28 = .ok (.if_icmp .ge 22, 3) := by decide +kernel
theorem dX4_init_31 : decode cX4_init 31 = .ok (.aload_n 0, 1) := by decide +kernel
theorem dX4_init_32 : decode cX4_init 32 = .ok (.getfield 11, 3) := by decide +kernel
theorem dX4_init_35 : decode cX4_init 35 = .ok (.iload_n 1, 1) := by decide +kernel
theorem dX4_init_36 : decode cX4_init 36 = .ok (.new 9, 3) := by decide +kernel
theorem dX4_init_39 : decode cX4_init 39 = .ok (.dup, 1) := by decide +kernel
theorem dX4_init_40 : decode cX4_init 40 = .ok (.invokespecial 24, 3) := by decide +kernel
theorem dX4_init_43 : decode cX4_init 43 = .ok (.aastore, 1) := by decide +kernel
theorem dX4_init_44 : decode cX4_init 44 = .ok (.iinc 1 1, 3) := by decide +kernel
theorem dX4_init_47 : decode cX4_init 47 = .ok (.goto (-22), 3) := by decide +kernel
theorem dX4_init_50 : decode cX4_init 50 = .ok (.return_, 1) := by decide +kernel
theorem dX4_copyFrom_0 : decode cX4_copyFrom 0 = .ok (.aload_n 0, 1) := by decide +kernel
theorem dX4_copyFrom_1 : decode cX4_copyFrom 1 = .ok (.aload_n 1, 1) := by decide +kernel
theorem dX4_copyFrom_2 : decode cX4_copyFrom 2 = .ok (.getfield 21, 3) := by decide +kernel
theorem dX4_copyFrom_5 : decode cX4_copyFrom 5 = .ok (.putfield 21, 3) := by decide +kernel
theorem dX4_copyFrom_8 : decode cX4_copyFrom 8 = .ok (.aload_n 0, 1) := by decide +kernel
theorem dX4_copyFrom_9 : decode cX4_copyFrom 9 = .ok (.iconst 0, 1) := by decide +kernel
theorem dX4_copyFrom_10 : decode cX4_copyFrom 10 = .ok (.putfield 17, 3) := by decide +kernel
theorem dX4_copyFrom_13 : decode cX4_copyFrom 13 = .ok (.iconst 0, 1) := by decide +kernel
theorem dX4_copyFrom_14 : decode cX4_copyFrom 14 = .ok (.istore_n 2, 1) := by decide +kernel
theorem dX4_copyFrom_15 : decode cX4_copyFrom 15 = .ok (.iload_n 2, 1) := by decide +kernel
theorem dX4_copyFrom_16 : decode cX4_copyFrom 16 = .ok (.aload_n 0, 1) := by decide +kernel
theorem dX4_copyFrom_17 : decode cX4_copyFrom 17 = .ok (.getfield 21, 3) := by decide +kernel
theorem dX4_copyFrom_20 : decode cX4_copyFrom 20 = .ok (.if_icmp .ge 32, 3) := by decide +kernel
theorem dX4_copyFrom_23 : decode cX4_copyFrom 23 = .ok (.aload_n 0, 1) := by decide +kernel
theorem dX4_copyFrom_24 : decode cX4_copyFrom 24 = .ok (.getfield 11, 3) := by decide +kernel
theorem dX4_copyFrom_27 : decode cX4_copyFrom 27 = .ok (.iload_n 2, 1) := by decide +kernel
theorem dX4_copyFrom_28 : decode cX4_copyFrom 28 = .ok (.aaload, 1) := by decide +kernel
theorem dX4_copyFrom_29 : decode cX4_copyFrom 29 = .ok (.aload_n 1, 1) := by decide +kernel
theorem dX4_copyFrom_30 : decode cX4_copyFrom 30 = .ok (.getfield 11, 3) := by decide +kernel
theorem dX4_copyFrom_33 : decode cX4_copyFrom 33 = .ok (.aload_n 1, 1) := by decide +kernel
theorem dX4_copyFrom_34 : decode cX4_copyFrom 34 = .ok (.getfield 17, 3) := by decide +kernel
theorem dX4_copyFrom_37 : decode cX4_copyFrom 37 = .ok (.iload_n 2, 1) := by decide +kernel
theorem dX4_copyFrom_38 : decode cX4_copyFrom 38 = .ok (.iadd, 1) := by decide +kernel
theorem dX4_copyFrom_39 : decode cX4_copyFrom 39 = .ok (.bipush 30, 2) := by decide +kernel
theorem dX4_copyFrom_41 : decode cX4_copyFrom 41 = .ok (.irem, 1) := by decide +kernel
theorem dX4_copyFrom_42 : decode cX4_copyFrom 42 = .ok (.aaload, 1) := by decide +kernel
theorem dX4_copyFrom_43 : decode cX4_copyFrom 43 = .ok (.invokevirtual 25, 3) := by decide +kernel
theorem dX4_copyFrom_46 : decode cX4_copyFrom 46 = .ok (.iinc 2 1, 3) := by decide +kernel
theorem dX4_copyFrom_49 : decode cX4_copyFrom 49 = .ok (.goto (-34), 3) := by decide +kernel
theorem dX4_copyFrom_52 : decode cX4_copyFrom 52 = .ok (.return_, 1) := by decide +kernel
theorem dX4_push_0 : decode cX4_push 0 = .ok (.aload_n 0, 1) := by decide +kernel
theorem dX4_push_1 : decode cX4_push 1 = .ok (.getfield 11, 3) := by decide +kernel
theorem dX4_push_4 : decode cX4_push 4 = .ok (.aload_n 0, 1) := by decide +kernel
theorem dX4_push_5 : decode cX4_push 5 = .ok (.getfield 17, 3) := by decide +kernel
theorem dX4_push_8 : decode cX4_push 8 = .ok (.aload_n 0, 1) := by decide +kernel
theorem dX4_push_9 : decode cX4_push 9 = .ok (.getfield 21, 3) := by decide +kernel
theorem dX4_push_12 : decode cX4_push 12 = .ok (.iadd, 1) := by decide +kernel
theorem dX4_push_13 : decode cX4_push 13 = .ok (.bipush 30, 2) := by decide +kernel
theorem dX4_push_15 : decode cX4_push 15 = .ok (.irem, 1) := by decide +kernel
theorem dX4_push_16 : decode cX4_push 16 = .ok (.aaload, 1) := by decide +kernel
theorem dX4_push_17 : decode cX4_push 17 = .ok (.aload_n 1, 1) := by decide +kernel
theorem dX4_push_18 : decode cX4_push 18 = .ok (.invokevirtual 25, 3) := by decide +kernel
theorem dX4_push_21 : decode cX4_push 21 = .ok (.aload_n 0, 1) := by decide +kernel
theorem dX4_push_22 : decode cX4_push 22 = .ok (.getfield 21, 3) := by decide +kernel
theorem dX4_push_25 : decode cX4_push 25 = .ok (.bipush 30, 2) := by decide +kernel
theorem dX4_push_27 : decode cX4_push 27 = .ok (.if_icmp .ge 16, 3) := by decide +kernel
theorem dX4_push_30 : decode cX4_push 30 = .ok (.aload_n 0, 1) := by decide +kernel
theorem dX4_push_31 : decode cX4_push 31 = .ok (.dup, 1) := by decide +kernel
theorem dX4_push_32 : decode cX4_push 32 = .ok (.getfield 21, 3) := by decide +kernel
theorem dX4_push_35 : decode cX4_push 35 = .ok (.iconst 1, 1) := by decide +kernel
theorem dX4_push_36 : decode cX4_push 36 = .ok (.iadd, 1) := by decide +kernel
theorem dX4_push_37 : decode cX4_push 37 = .ok (.putfield 21, 3) := by decide +kernel
theorem dX4_push_40 : decode cX4_push 40 = .ok (.goto 16, 3) := by decide +kernel
theorem dX4_push_43 : decode cX4_push 43 = .ok (.aload_n 0, 1) := by decide +kernel
theorem dX4_push_44 : decode cX4_push 44 = .ok (.aload_n 0, 1) := by decide +kernel
theorem dX4_push_45 : decode cX4_push 45 = .ok (.getfield 17, 3) := by decide +kernel
theorem dX4_push_48 : decode cX4_push 48 = .ok (.iconst 1, 1) := by decide +kernel
theorem dX4_push_49 : decode cX4_push 49 = .ok (.iadd, 1) := by decide +kernel
theorem dX4_push_50 : decode cX4_push 50 = .ok (.bipush 30, 2) := by decide +kernel
theorem dX4_push_52 : decode cX4_push 52 = .ok (.irem, 1) := by decide +kernel
theorem dX4_push_53 : decode cX4_push 53 = .ok (.putfield 17, 3) := by decide +kernel
theorem dX4_push_56 : decode cX4_push 56 = .ok (.return_, 1) := by decide +kernel
theorem dX4_pop_0 : decode cX4_pop 0 = .ok (.aload_n 0, 1) := by decide +kernel
theorem dX4_pop_1 : decode cX4_pop 1 = .ok (.getfield 21, 3) := by decide +kernel
theorem dX4_pop_4 : decode cX4_pop 4 = .ok (.ifCond .ne 5, 3) := by decide +kernel
theorem dX4_pop_7 : decode cX4_pop 7 = .ok (.iconst 0, 1) := by decide +kernel
theorem dX4_pop_8 : decode cX4_pop 8 = .ok (.ireturn, 1) := by decide +kernel
theorem dX4_pop_9 : decode cX4_pop 9 = .ok (.aload_n 0, 1) := by decide +kernel
theorem dX4_pop_10 : decode cX4_pop 10 = .ok (.dup, 1) := by decide +kernel
theorem dX4_pop_11 : decode cX4_pop 11 = .ok (.getfield 21, 3) := by decide +kernel
theorem dX4_pop_14 : decode cX4_pop 14 = .ok (.iconst 1, 1) := by decide +kernel
theorem dX4_pop_15 : decode cX4_pop 15 = .ok (.isub, 1) := by decide +kernel
theorem dX4_pop_16 : decode cX4_pop 16 = .ok (.putfield 21, 3) := by decide +kernel
theorem dX4_pop_19 : decode cX4_pop 19 = .ok (.aload_n 1, 1) := by decide +kernel
theorem dX4_pop_20 : decode cX4_pop 20 = .ok (.aload_n 0, 1) := by decide +kernel
theorem dX4_pop_21 : decode cX4_pop 21 = .ok (.getfield 11, 3) := by decide +kernel
theorem dX4_pop_24 : decode cX4_pop 24 = .ok (.aload_n 0, 1) := by decide +kernel
theorem dX4_pop_25 : decode cX4_pop 25 = .ok (.getfield 17, 3) := by decide +kernel
theorem dX4_pop_28 : decode cX4_pop 28 = .ok (.aload_n 0, 1) := by decide +kernel
theorem dX4_pop_29 : decode cX4_pop 29 = .ok (.getfield 21, 3) := by decide +kernel
theorem dX4_pop_32 : decode cX4_pop 32 = .ok (.iadd, 1) := by decide +kernel
theorem dX4_pop_33 : decode cX4_pop 33 = .ok (.bipush 30, 2) := by decide +kernel
theorem dX4_pop_35 : decode cX4_pop 35 = .ok (.irem, 1) := by decide +kernel
theorem dX4_pop_36 : decode cX4_pop 36 = .ok (.aaload, 1) := by decide +kernel
theorem dX4_pop_37 : decode cX4_pop 37 = .ok (.invokevirtual 25, 3) := by decide +kernel
theorem dX4_pop_40 : decode cX4_pop 40 = .ok (.iconst 1, 1) := by decide +kernel
theorem dX4_pop_41 : decode cX4_pop 41 = .ok (.ireturn, 1) := by decide +kernel
theorem dX5_init_0 : decode cX5_init 0 = .ok (.aload_n 0, 1) := by decide +kernel
theorem dX5_init_1 : decode cX5_init 1 = .ok (.invokespecial 3, 3) := by decide +kernel
theorem dX5_init_4 : decode cX5_init 4 = .ok (.aload_n 0, 1) := by decide +kernel
theorem dX5_init_5 : decode cX5_init 5 = .ok (.iconst 0, 1) := by decide +kernel
theorem dX5_init_6 : decode cX5_init 6 = .ok (.putfield 9, 3) := by decide +kernel
theorem dX5_init_9 : decode cX5_init 9 = .ok (.aload_n 0, 1) := by decide +kernel
theorem dX5_init_10 : decode cX5_init 10 = .ok (.bipush 10, 2) := by decide +kernel
theorem dX5_init_12 : decode cX5_init 12 = .ok (.newarray .int, 2) := by decide +kernel
theorem dX5_init_14 : decode cX5_init 14 = .ok (.putfield 15, 3) := by decide +kernel
theorem dX5_init_17 : decode cX5_init 17 = .ok (.aload_n 0, 1) := by decide +kernel
theorem dX5_init_18 : decode cX5_init 18 = .ok (.bipush 10, 2) := by decide +kernel
theorem dX5_init_20 : decode cX5_init 20 = .ok (.newarray .int, 2) := by decide +kernel
theorem dX5_init_22 : decode cX5_init 22 = .ok (.putfield 19, 3) := by decide +kernel
theorem dX5_init_25 : decode cX5_init 25 = .ok (.aload_n 0, 1) := by decide +kernel
theorem dX5_init_26 : decode cX5_init 26 = .ok (.bipush 10, 2) := by decide +kernel
theorem dX5_init_28 : decode cX5_init 28 = .ok (.newarray .int, 2) := by decide +kernel
theorem dX5_init_30 : decode cX5_init 30 = .ok (.putfield 22, 3) := by decide +kernel
theorem dX5_init_33 : decode cX5_init 33 = .ok (.aload_n 0, 1) := by decide +kernel
theorem dX5_init_34 : decode cX5_init 34 = .ok (.bipush 10, 2) := by decide +kernel
theorem dX5_init_36 : decode cX5_init 36 = .ok (.newarray .int, 2) := by decide +kernel
theorem dX5_init_38 : decode cX5_init 38 = .ok (.putfield 25, 3) := by decide +kernel
theorem dX5_init_41 : decode cX5_init 41 = .ok (.return_, 1) := by decide +kernel
theorem dX5_copyFrom_0 : decode cX5_copyFrom 0 = .ok (.aload_n 0, 1) := by decide +kernel
theorem dX5_copyFrom_1 : decode cX5_copyFrom 1 = .ok (.aload_n 1, 1) := by decide +kernel
theorem dX5_copyFrom_2 : decode cX5_copyFrom 2 = .ok (.getfield 9, 3) := by decide +kernel
theorem dX5_copyFrom_5 : decode cX5_copyFrom 5 = .ok (.putfield 9, 3) := by decide +kernel
theorem dX5_copyFrom_8 : decode cX5_copyFrom 8 = .ok (.aload_n 1, 1) := by decide +kernel
theorem dX5_copyFrom_9 : decode cX5_copyFrom 9 = .ok (.getfield 15, 3) := by decide +kernel
theorem dX5_copyFrom_12 : decode cX5_copyFrom 12 = .ok (.iconst 0, 1) := by decide +kernel
theorem dX5_copyFrom_13 : decode cX5_copyFrom 13 = .ok (.aload_n 0, 1) := by decide +kernel
theorem dX5_copyFrom_14 : decode cX5_copyFrom 14 = .ok (.getfield 15, 3) := by decide +kernel
theorem dX5_copyFrom_17 : decode cX5_copyFrom 17 = .ok (.iconst 0, 1) := by decide +kernel
theorem dX5_copyFrom_18 : decode cX5_copyFrom 18 = .ok (.bipush 10, 2) := by decide +kernel
theorem dX5_copyFrom_20 : decode cX5_copyFrom 20 = .ok (.invokestatic 28, 3) := by decide +kernel
theorem dX5_copyFrom_23 : decode cX5_copyFrom 23 = .ok (.aload_n 1, 1) := by decide +kernel
theorem dX5_copyFrom_24 : decode cX5_copyFrom 24 = .ok (.getfield 19, 3) := by decide +kernel
theorem dX5_copyFrom_27 : decode cX5_copyFrom 27 = .ok (.iconst 0, 1) := by decide +kernel
theorem dX5_copyFrom_28 : decode cX5_copyFrom 28 = .ok (.aload_n 0, 1) := by decide +kernel
theorem dX5_copyFrom_29 : decode cX5_copyFrom 29 = .ok (.getfield 19, 3) := by decide +kernel
theorem dX5_copyFrom_32 : decode cX5_copyFrom 32 = .ok (.iconst 0, 1) := by decide +kernel
theorem dX5_copyFrom_33 : decode cX5_copyFrom 33 = .ok (.bipush 10, 2) := by decide +kernel
theorem dX5_copyFrom_35 : decode cX5_copyFrom 35 = .ok (.invokestatic 28, 3) := by decide +kernel
theorem dX5_copyFrom_38 : decode cX5_copyFrom 38 = .ok (.aload_n 1, 1) := by decide +kernel
theorem dX5_copyFrom_39 : decode cX5_copyFrom 39 = .ok (.getfield 22, 3) := by decide +kernel
theorem dX5_copyFrom_42 : decode cX5_copyFrom 42 = .ok (.iconst 0, 1) := by decide +kernel
theorem dX5_copyFrom_43 : decode cX5_copyFrom 43 = .ok (.aload_n 0, 1) := by decide +kernel
theorem dX5_copyFrom_44 : decode cX5_copyFrom 44 = .ok (.getfield 22, 3) := by decide +kernel
theorem dX5_copyFrom_47 : decode cX5_copyFrom 47 = .ok (.iconst 0, 1) := by decide +kernel
theorem dX5_copyFrom_48 : decode cX5_copyFrom 48 = .ok (.bipush 10, 2) := by decide +kernel
theorem dX5_copyFrom_50 : decode cX5_copyFrom 50 = .ok (.invokestatic 28, 3) := by decide +kernel
theorem dX5_copyFrom_53 : decode cX5_copyFrom 53 = .ok (.aload_n 1, 1) := by decide +kernel
theorem dX5_copyFrom_54 : decode cX5_copyFrom 54 = .ok (.getfield 25, 3) := by decide +kernel
theorem dX5_copyFrom_57 : decode cX5_copyFrom 57 = .ok (.iconst 0, 1) := by decide +kernel
theorem dX5_copyFrom_58 : decode cX5_copyFrom 58 = .ok (.aload_n 0, 1) := by decide +kernel
theorem dX5_copyFrom_59 : decode cX5_copyFrom 59 = .ok (.getfield 25, 3) := by decide +kernel
theorem dX5_copyFrom_62 : decode cX5_copyFrom 62 = .ok (.iconst 0, 1) := by decide +kernel
theorem dX5_copyFrom_63 : decode cX5_copyFrom 63 = .ok (.bipush 10, 2) := by decide +kernel
theorem dX5_copyFrom_65 : decode cX5_copyFrom 65 = .ok (.invokestatic 28, 3) := by decide +kernel
theorem dX5_copyFrom_68 : decode cX5_copyFrom 68 = .ok (.return_, 1) := by decide +kernel
theorem dX5_find_0 : decode cX5_find 0 = .ok (.iconst 0, 1) := by decide +kernel
theorem dX5_find_1 : decode cX5_find 1 = .ok (.istore_n 2, 1) := by decide +kernel
theorem dX5_find_2 : decode cX5_find 2 = .ok (.iload_n 2, 1) := by decide +kernel
theorem dX5_find_3 : decode cX5_find 3 = .ok (.aload_n 0, 1) := by decide +kernel
theorem dX5_find_4 : decode cX5_find 4 = .ok (.getfield 9, 3) := by decide +kernel
theorem dX5_find_7 : decode cX5_find 7 = .ok (.if_icmp .ge 21, 3) := by decide +kernel
theorem dX5_find_10 : decode cX5_find 10 = .ok (.aload_n 0, 1) := by decide +kernel
theorem dX5_find_11 : decode cX5_find 11 = .ok (.getfield 15, 3) := by decide +kernel
theorem dX5_find_14 : decode cX5_find 14 = .ok (.iload_n 2, 1) := by decide +kernel
theorem dX5_find_15 : decode cX5_find 15 = .ok (.iaload, 1) := by decide +kernel
theorem dX5_find_16 : decode cX5_find 16 = .ok (.iload_n 1, 1) := by decide +kernel
theorem dX5_find_17 : decode cX5_find 17 = .ok (.if_icmp .ne 5, 3) := by decide +kernel
theorem dX5_find_20 : decode cX5_find 20 = .ok (.iload_n 2, 1) := by decide +kernel
theorem dX5_find_21 : decode cX5_find 21 = .ok (.ireturn, 1) := by decide +kernel
theorem dX5_find_22 : decode cX5_find 22 = .ok (.iinc 2 1, 3) := by decide +kernel
theorem dX5_find_25 : decode cX5_find 25 = .ok (.goto (-23), 3) := by decide +kernel
theorem dX5_find_28 : decode cX5_find 28 = .ok (.iconst (-1), 1) := by decide +kernel
theorem dX5_find_29 : decode cX5_find 29 = .ok (.ireturn, 1) := by decide +kernel
theorem dX5_add_0 : decode cX5_add 0 = .ok (.aload_n 0, 1) := by decide +kernel
theorem dX5_add_1 : decode cX5_add 1 = .ok (.getfield 9, 3) := by decide +kernel
theorem dX5_add_4 : decode cX5_add 4 = .ok (.bipush 10, 2) := by decide +kernel
theorem dX5_add_6 : decode cX5_add 6 = .ok (.if_icmp .ge 53, 3) := by decide +kernel
theorem dX5_add_9 : decode cX5_add 9 = .ok (.aload_n 0, 1) := by decide +kernel
theorem dX5_add_10 : decode cX5_add 10 = .ok (.getfield 15, 3) := by decide +kernel
theorem dX5_add_13 : decode cX5_add 13 = .ok (.aload_n 0, 1) := by decide +kernel
theorem dX5_add_14 : decode cX5_add 14 = .ok (.getfield 9, 3) := by decide +kernel
theorem dX5_add_17 : decode cX5_add 17 = .ok (.iload_n 1, 1) := by decide +kernel
theorem dX5_add_18 : decode cX5_add 18 = .ok (.iastore, 1) := by decide +kernel
theorem dX5_add_19 : decode cX5_add 19 = .ok (.aload_n 0, 1) := by decide +kernel
theorem dX5_add_20 : decode cX5_add 20 = .ok (.getfield 19, 3) := by decide +kernel
theorem dX5_add_23 : decode cX5_add 23 = .ok (.aload_n 0, 1) := by decide +kernel
theorem dX5_add_24 : decode cX5_add 24 = .ok (.getfield 9, 3) := by decide +kernel
theorem dX5_add_27 : decode cX5_add 27 = .ok (.iload_n 2, 1) := by decide +kernel
theorem dX5_add_28 : decode cX5_add 28 = .ok (.iastore, 1) := by decide +kernel
theorem dX5_add_29 : decode cX5_add 29 = .ok (.aload_n 0, 1) := by decide +kernel
theorem dX5_add_30 : decode cX5_add 30 = .ok (.getfield 22, 3) := by decide +kernel
theorem dX5_add_33 : decode cX5_add 33 = .ok (.aload_n 0, 1) := by decide +kernel
theorem dX5_add_34 : decode cX5_add 34 = .ok (.getfield 9, 3) := by decide +kernel
theorem dX5_add_37 : decode cX5_add 37 = .ok (.iconst 0, 1) := by decide +kernel
theorem dX5_add_38 : decode cX5_add 38 = .ok (.iastore, 1) := by decide +kernel
theorem dX5_add_39 : decode cX5_add 39 = .ok (.aload_n 0, 1) := by decide +kernel
theorem dX5_add_40 : decode cX5_add 40 = .ok (.getfield 25, 3) := by decide +kernel
theorem dX5_add_43 : decode cX5_add 43 = .ok (.aload_n 0, 1) := by decide +kernel
theorem dX5_add_44 : decode cX5_add 44 = .ok (.getfield 9, 3) := by decide +kernel
theorem dX5_add_47 : decode cX5_add 47 = .ok (.iconst 0, 1) := by decide +kernel
theorem dX5_add_48 : decode cX5_add 48 = .ok (.iastore, 1) := by decide +kernel
theorem dX5_add_49 : decode cX5_add 49 = .ok (.aload_n 0, 1) := by decide +kernel
theorem dX5_add_50 : decode cX5_add 50 = .ok (.dup, 1) := by decide +kernel
theorem dX5_add_51 : decode cX5_add 51 = .ok (.getfield 9, 3) := by decide +kernel
theorem dX5_add_54 : decode cX5_add 54 = .ok (.iconst 1, 1) := by decide +kernel
theorem dX5_add_55 : decode cX5_add 55 = .ok (.iadd, 1) := by decide +kernel
theorem dX5_add_56 : decode cX5_add 56 = .ok (.putfield 9, 3) := by decide +kernel
theorem dX5_add_59 : decode cX5_add 59 = .ok (.return_, 1) := by decide +kernel
theorem dX5_remove_0 : decode cX5_remove 0 = .ok (.iload_n 1, 1) := by decide +kernel
theorem dX5_remove_1 : decode cX5_remove 1 = .ok (.ifCond .lt 105, 3) := by decide +kernel
theorem dX5_remove_4 : decode cX5_remove 4 = .ok (.iload_n 1, 1) := by decide +kernel
theorem dX5_remove_5 : decode cX5_remove 5 = .ok (.aload_n 0, 1) := by decide +kernel
theorem dX5_remove_6 : decode cX5_remove 6 = .ok (.getfield 9, 3) := by decide +kernel
theorem dX5_remove_9 : decode cX5_remove 9 = .ok (.if_icmp .ge 97, 3) := by decide +kernel
theorem dX5_remove_12 : decode cX5_remove 12 = .ok (.aload_n 0, 1) := by decide +kernel
theorem dX5_remove_13 : decode cX5_remove 13 = .ok (.dup, 1) := by decide +kernel
theorem dX5_remove_14 : decode cX5_remove 14 = .ok (.getfield 9, 3) := by decide +kernel
theorem dX5_remove_17 : decode cX5_remove 17 = .ok (.iconst 1, 1) := by decide +kernel
theorem dX5_remove_18 : decode cX5_remove 18 = .ok (.isub, 1) := by decide +kernel
theorem dX5_remove_19 : decode cX5_remove 19 = .ok (.putfield 9, 3) := by decide +kernel
theorem dX5_remove_22 : decode cX5_remove 22 = .ok (.aload_n 0, 1) := by decide +kernel
theorem dX5_remove_23 : decode cX5_remove 23 = .ok (.getfield 15, 3) := by decide +kernel
theorem dX5_remove_26 : decode cX5_remove 26 = .ok (.iload_n 1, 1) := by decide +kernel
theorem dX5_remove_27 : decode cX5_remove 27 = .ok (.iconst 1, 1) := by decide +kernel
theorem dX5_remove_28 : decode cX5_remove 28 = .ok (.iadd, 1) := by decide +kernel
theorem dX5_remove_29 : decode cX5_remove 29 = .ok (.aload_n 0, 1) := by decide +kernel
theorem dX5_remove_30 : decode cX5_remove 30 = .ok (.getfield 15, 3) := by decide +kernel
theorem dX5_remove_33 : decode cX5_remove 33 = .ok (.iload_n 1, 1) := by decide +kernel
theorem dX5_remove_34 : decode cX5_remove 34 = .ok (.aload_n 0, 1) := by decide +kernel
theorem dX5_remove_35 : decode cX5_remove 35 = .ok (.getfield 9, 3) := by decide +kernel
theorem dX5_remove_38 : decode cX5_remove 38 = .ok (.iload_n 1, 1) := by decide +kernel
theorem dX5_remove_39 : decode cX5_remove 39 = .ok (.isub, 1) := by decide +kernel
theorem dX5_remove_40 : decode cX5_remove 40 = .ok (.invokestatic 28, 3) := by decide +kernel
theorem dX5_remove_43 : decode cX5_remove 43 = .ok (.aload_n 0, 1) := by decide +kernel
theorem dX5_remove_44 : decode cX5_remove 44 = .ok (.getfield 19, 3) := by decide +kernel
theorem dX5_remove_47 : decode cX5_remove 47 = .ok (.iload_n 1, 1) := by decide +kernel
theorem dX5_remove_48 : decode cX5_remove 48 = .ok (.iconst 1, 1) := by decide +kernel
theorem dX5_remove_49 : decode cX5_remove 49 = .ok (.iadd, 1) := by decide +kernel
theorem dX5_remove_50 : decode cX5_remove 50 = .ok (.aload_n 0, 1) := by decide +kernel
theorem dX5_remove_51 : decode cX5_remove 51 = .ok (.getfield 19, 3) := by decide +kernel
theorem dX5_remove_54 : decode cX5_remove 54 = .ok (.iload_n 1, 1) := by decide +kernel
theorem dX5_remove_55 : decode cX5_remove 55 = .ok (.aload_n 0, 1) := by decide +kernel
theorem dX5_remove_56 : decode cX5_remove 56 = .ok (.getfield 9, 3) := by decide +kernel
theorem dX5_remove_59 : decode cX5_remove 59 = .ok (.iload_n 1, 1) := by decide +kernel
theorem dX5_remove_60 : decode cX5_remove 60 = .ok (.isub, 1) := by decide +kernel
theorem dX5_remove_61 : decode cX5_remove 61 = .ok (.invokestatic 28, 3) := by decide +kernel
theorem dX5_remove_64 : decode cX5_remove 64 = .ok (.aload_n 0, 1) := by decide +kernel
theorem dX5_remove_65 : decode cX5_remove 65 = .ok (.getfield 22, 3) := by decide +kernel
theorem dX5_remove_68 : decode cX5_remove 68 = .ok (.iload_n 1, 1) := by decide +kernel
theorem dX5_remove_69 : decode cX5_remove 69 = .ok (.iconst 1, 1) := by decide +kernel
theorem dX5_remove_70 : decode cX5_remove 70 = .ok (.iadd, 1) := by decide +kernel
theorem dX5_remove_71 : decode cX5_remove 71 = .ok (.aload_n 0, 1) := by decide +kernel
theorem dX5_remove_72 : decode cX5_remove 72 = .ok (.getfield 22, 3) := by decide +kernel
theorem dX5_remove_75 : decode cX5_remove 75 = .ok (.iload_n 1, 1) := by decide +kernel
theorem dX5_remove_76 : decode cX5_remove 76 = .ok (.aload_n 0, 1) := by decide +kernel
theorem dX5_remove_77 : decode cX5_remove 77 = .ok (.getfield 9, 3) := by decide +kernel
theorem dX5_remove_80 : decode cX5_remove 80 = .ok (.iload_n 1, 1) := by decide +kernel
theorem dX5_remove_81 : decode cX5_remove 81 = .ok (.isub, 1) := by decide +kernel
theorem dX5_remove_82 : decode cX5_remove 82 = .ok (.invokestatic 28, 3) := by decide +kernel
theorem dX5_remove_85 : decode cX5_remove 85 = .ok (.aload_n 0, 1) := by decide +kernel
theorem dX5_remove_86 : decode cX5_remove 86 = .ok (.getfield 25, 3) := by decide +kernel
theorem dX5_remove_89 : decode cX5_remove 89 = .ok (.iload_n 1, 1) := by decide +kernel
theorem dX5_remove_90 : decode cX5_remove 90 = .ok (.iconst 1, 1) := by decide +kernel
theorem dX5_remove_91 : decode cX5_remove 91 = .ok (.iadd, 1) := by decide +kernel
theorem dX5_remove_92 : decode cX5_remove 92 = .ok (.aload_n 0, 1) := by decide +kernel
theorem dX5_remove_93 : decode cX5_remove 93 = .ok (.getfield 25, 3) := by decide +kernel
theorem dX5_remove_96 : decode cX5_remove 96 = .ok (.iload_n 1, 1) := by decide +kernel
theorem dX5_remove_97 : decode cX5_remove 97 = .ok (.aload_n 0, 1) := by decide +kernel
theorem dX5_remove_98 : decode cX5_remove 98 = .ok (.getfield 9, 3) := by decide +kernel
theorem dX5_remove_101 : decode cX5_remove 101 = .ok (.iload_n 1, 1) := by decide +kernel
theorem dX5_remove_102 : decode cX5_remove 102 = .ok (.isub, 1) := by decide +kernel
theorem dX5_remove_103 : decode cX5_remove 103 = .ok (.invokestatic 28, 3) := by decide +kernel
theorem dX5_remove_106 : decode cX5_remove 106 = .ok (.return_, 1) := by decide +kernel
theorem dX5_holdsSlots_0 : decode cX5_holdsSlots 0 = .ok (.aload_n 0, 1) := by decide +kernel
theorem dX5_holdsSlots_1 : decode cX5_holdsSlots 1 = .ok (.getfield 22, 3) := by decide +kernel
theorem dX5_holdsSlots_4 : decode cX5_holdsSlots 4 = .ok (.iload_n 1, 1) := by decide +kernel
theorem dX5_holdsSlots_5 : decode cX5_holdsSlots 5 = .ok (.iaload, 1) := by decide +kernel
theorem dX5_holdsSlots_6 : decode cX5_holdsSlots 6 = .ok (.iconst 1, 1) := by decide +kernel
theorem dX5_holdsSlots_7 : decode cX5_holdsSlots 7 = .ok (.if_icmp .ne 17, 3) := by decide +kernel
theorem dX5_holdsSlots_10 : decode cX5_holdsSlots 10 = .ok (.aload_n 0, 1) := by decide +kernel
theorem dX5_holdsSlots_11 : decode cX5_holdsSlots 11 = .ok (.getfield 19, 3) := by decide +kernel
theorem dX5_holdsSlots_14 : decode cX5_holdsSlots 14 = .ok (.iload_n 1, 1) := by decide +kernel
theorem dX5_holdsSlots_15 : decode cX5_holdsSlots 15 = .ok (.iaload, 1) := by decide +kernel
theorem dX5_holdsSlots_16 : decode cX5_holdsSlots 16 = .ok (.iconst 1, 1) := by decide +kernel
theorem dX5_holdsSlots_17 : decode cX5_holdsSlots 17 = .ok (.if_icmp .ne 7, 3) := by decide +kernel
theorem dX5_holdsSlots_20 : decode cX5_holdsSlots 20 = .ok (.iconst 1, 1) := by decide +kernel
theorem dX5_holdsSlots_21 : decode cX5_holdsSlots 21 = .ok (.goto 4, 3) := by decide +kernel
theorem dX5_holdsSlots_24 : decode cX5_holdsSlots 24 = .ok (.iconst 0, 1) := by decide +kernel
theorem dX5_holdsSlots_25 : decode cX5_holdsSlots 25 = .ok (.ireturn, 1) := by decide +kernel
theorem dX5_detail_0 : decode cX5_detail 0 = .ok (.iload_n 2, 1) := by decide +kernel
theorem dX5_detail_1 : decode cX5_detail 1 = .ok (.tableswitch 48 0 2 #[27, 34, 41], 27) := by decide +kernel
theorem dX5_detail_28 : decode cX5_detail 28 = .ok (.aload_n 0, 1) := by decide +kernel
theorem dX5_detail_29 : decode cX5_detail 29 = .ok (.getfield 15, 3) := by decide +kernel
theorem dX5_detail_32 : decode cX5_detail 32 = .ok (.iload_n 1, 1) := by decide +kernel
theorem dX5_detail_33 : decode cX5_detail 33 = .ok (.iaload, 1) := by decide +kernel
theorem dX5_detail_34 : decode cX5_detail 34 = .ok (.ireturn, 1) := by decide +kernel
theorem dX5_detail_35 : decode cX5_detail 35 = .ok (.aload_n 0, 1) := by decide +kernel
theorem dX5_detail_36 : decode cX5_detail 36 = .ok (.getfield 19, 3) := by decide +kernel
theorem dX5_detail_39 : decode cX5_detail 39 = .ok (.iload_n 1, 1) := by decide +kernel
theorem dX5_detail_40 : decode cX5_detail 40 = .ok (.iaload, 1) := by decide +kernel
theorem dX5_detail_41 : decode cX5_detail 41 = .ok (.ireturn, 1) := by decide +kernel
theorem dX5_detail_42 : decode cX5_detail 42 = .ok (.aload_n 0, 1) := by decide +kernel
theorem dX5_detail_43 : decode cX5_detail 43 = .ok (.getfield 22, 3) := by decide +kernel
theorem dX5_detail_46 : decode cX5_detail 46 = .ok (.iload_n 1, 1) := by decide +kernel
theorem dX5_detail_47 : decode cX5_detail 47 = .ok (.iaload, 1) := by decide +kernel
theorem dX5_detail_48 : decode cX5_detail 48 = .ok (.ireturn, 1) := by decide +kernel
theorem dX5_detail_49 : decode cX5_detail 49 = .ok (.bipush (-2), 2) := by decide +kernel
theorem dX5_detail_51 : decode cX5_detail 51 = .ok (.ireturn, 1) := by decide +kernel
theorem dX6_init_0 : decode cX6_init 0 = .ok (.aload_n 0, 1) := by decide +kernel
theorem dX6_init_1 : decode cX6_init 1 = .ok (.invokespecial 3, 3) := by decide +kernel
theorem dX6_init_4 : decode cX6_init 4 = .ok (.aload_n 0, 1) := by decide +kernel
theorem dX6_init_5 : decode cX6_init 5 = .ok (.bipush 10, 2) := by decide +kernel
theorem dX6_init_7 : decode cX6_init 7 = .ok (.newarray .boolean, 2) := by decide +kernel
theorem dX6_init_9 : decode cX6_init 9 = .ok (.putfield 9, 3) := by decide +kernel
theorem dX6_init_12 : decode cX6_init 12 = .ok (.aload_n 0, 1) := by decide +kernel
theorem dX6_init_13 : decode cX6_init 13 = .ok (.bipush 10, 2) := by decide +kernel
theorem dX6_init_15 : decode cX6_init 15 = .ok (.newarray .boolean, 2) := by decide +kernel
theorem dX6_init_17 : decode cX6_init 17 = .ok (.putfield 15, 3) := by decide +kernel
theorem dX6_init_20 : decode cX6_init 20 = .ok (.aload_n 0, 1) := by decide +kernel
theorem dX6_init_21 : decode cX6_init 21 = .ok (.bipush 10, 2) := by decide +kernel
theorem dX6_init_23 : decode cX6_init 23 = .ok (.newarray .boolean, 2) := by decide +kernel
theorem dX6_init_25 : decode cX6_init 25 = .ok (.putfield 18, 3) := by decide +kernel
theorem dX6_init_28 : decode cX6_init 28 = .ok (.aload_n 0, 1) := by decide +kernel
theorem dX6_init_29 : decode cX6_init 29 = .ok (.bipush 10, 2) := by decide +kernel
theorem dX6_init_31 : decode cX6_init 31 = .ok (.newarray .int, 2) := by decide +kernel
theorem dX6_init_33 : decode cX6_init 33 = .ok (.putfield 21, 3) := by decide +kernel
theorem dX6_init_36 : decode cX6_init 36 = .ok (.aload_n 0, 1) := by decide +kernel
theorem dX6_init_37 : decode cX6_init 37 = .ok (.bipush 10, 2) := by decide +kernel
theorem dX6_init_39 : decode cX6_init 39 = .ok (.newarray .int, 2) := by decide +kernel
theorem dX6_init_41 : decode cX6_init 41 = .ok (.putfield 25, 3) := by decide +kernel
theorem dX6_init_44 : decode cX6_init 44 = .ok (.aload_n 0, 1) := by decide +kernel
theorem dX6_init_45 : decode cX6_init 45 = .ok (.bipush 10, 2) := by decide +kernel
theorem dX6_init_47 : decode cX6_init 47 = .ok (.newarray .int, 2) := by decide +kernel
theorem dX6_init_49 : decode cX6_init 49 = .ok (.putfield 28, 3) := by decide +kernel
theorem dX6_init_52 : decode cX6_init 52 = .ok (.aload_n 0, 1) := by decide +kernel
theorem dX6_init_53 : decode cX6_init 53 = .ok (.bipush 10, 2) := by decide +kernel
theorem dX6_init_55 : decode cX6_init 55 = .ok (.newarray .int, 2) := by decide +kernel
theorem dX6_init_57 : decode cX6_init 57 = .ok (.putfield 31, 3) := by decide +kernel
theorem dX6_init_60 : decode cX6_init 60 = .ok (.aload_n 0, 1) := by decide +kernel
theorem dX6_init_61 : decode cX6_init 61 = .ok (.iconst 0, 1) := by decide +kernel
theorem dX6_init_62 : decode cX6_init 62 = .ok (.putfield 34, 3) := by decide +kernel
theorem dX6_init_65 : decode cX6_init 65 = .ok (.aload_n 0, 1) := by decide +kernel
theorem dX6_init_66 : decode cX6_init 66 = .ok (.iconst 0, 1) := by decide +kernel
theorem dX6_init_67 : decode cX6_init 67 = .ok (.putfield 38, 3) := by decide +kernel
theorem dX6_init_70 : decode cX6_init 70 = .ok (.aload_n 0, 1) := by decide +kernel
theorem dX6_init_71 : decode cX6_init 71 = .ok (.iconst 0, 1) := by decide +kernel
theorem dX6_init_72 : decode cX6_init 72 = .ok (.putfield 42, 3) := by decide +kernel
theorem dX6_init_75 : decode cX6_init 75 = .ok (.aload_n 0, 1) := by decide +kernel
theorem dX6_init_76 : decode cX6_init 76 = .ok (.iconst 0, 1) := by decide +kernel
theorem dX6_init_77 : decode cX6_init 77 = .ok (.putfield 45, 3) := by decide +kernel
theorem dX6_init_80 : decode cX6_init 80 = .ok (.aload_n 0, 1) := by decide +kernel
theorem dX6_init_81 : decode cX6_init 81 = .ok (.bipush 10, 2) := by decide +kernel
theorem dX6_init_83 : decode cX6_init 83 = .ok (.newarray .int, 2) := by decide +kernel
theorem dX6_init_85 : decode cX6_init 85 = .ok (.putfield 48, 3) := by decide +kernel
theorem dX6_init_88 : decode cX6_init 88 = .ok (.aload_n 0, 1) := by decide +kernel
theorem dX6_init_89 : decode cX6_init 89 = .ok (.iconst 0, 1) := by decide +kernel
theorem dX6_init_90 : decode cX6_init 90 = .ok (.putfield 51, 3) := by decide +kernel
theorem dX6_init_93 : decode cX6_init 93 = .ok (.return_, 1) := by decide +kernel
theorem dX6_makeFor_0 : decode cX6_makeFor 0 = .ok (.aload_n 0, 1) := by decide +kernel
theorem dX6_makeFor_1 : decode cX6_makeFor 1 = .ok (.aload_n 1, 1) := by decide +kernel
theorem dX6_makeFor_2 : decode cX6_makeFor 2 = .ok (.iload_n 2, 1) := by decide +kernel
theorem dX6_makeFor_3 : decode cX6_makeFor 3 = .ok (.invokevirtual 54, 3) := by decide +kernel
theorem dX6_makeFor_6 : decode cX6_makeFor 6 = .ok (.aload_n 0, 1) := by decide +kernel
theorem dX6_makeFor_7 : decode cX6_makeFor 7 = .ok (.invokevirtual 58, 3) := by decide +kernel
theorem dX6_makeFor_10 : decode cX6_makeFor 10 = .ok (.pop, 1) := by decide +kernel
theorem dX6_makeFor_11 : decode cX6_makeFor 11 = .ok (.return_, 1) := by decide +kernel
theorem dX6_weigh_0 : decode cX6_weigh 0 = .ok (.aload_n 0, 1) := by decide +kernel
theorem dX6_weigh_1 : decode cX6_weigh 1 = .ok (.iload_n 2, 1) := by decide +kernel
theorem dX6_weigh_2 : decode cX6_weigh 2 = .ok (.putfield 34, 3) := by decide +kernel
theorem dX6_weigh_5 : decode cX6_weigh 5 = .ok (.aload_n 0, 1) := by decide +kernel
theorem dX6_weigh_6 : decode cX6_weigh 6 = .ok (.aload_n 1, 1) := by decide +kernel
theorem dX6_weigh_7 : decode cX6_weigh 7 = .ok (.getfield 62, 3) := by decide +kernel
theorem dX6_weigh_10 : decode cX6_weigh 10 = .ok (.invokevirtual 68, 3) := by decide +kernel
theorem dX6_weigh_13 : decode cX6_weigh 13 = .ok (.aload_n 1, 1) := by decide +kernel
theorem dX6_weigh_14 : decode cX6_weigh 14 = .ok (.getfield 72, 3) := by decide +kernel
theorem dX6_weigh_17 : decode cX6_weigh 17 = .ok (.astore_n 3, 1) := by decide +kernel
theorem dX6_weigh_18 : decode cX6_weigh 18 = .ok (.iconst 0, 1) := by decide +kernel
theorem dX6_weigh_19 : decode cX6_weigh 19 = .ok (.istore 4, 2) := by decide +kernel
theorem dX6_weigh_21 : decode cX6_weigh 21 = .ok (.iload 4, 2) := by decide +kernel
theorem dX6_weigh_23 : decode cX6_weigh 23 = .ok (.bipush 10, 2) := by decide +kernel
theorem dX6_weigh_25 : decode cX6_weigh 25 = .ok (.if_icmp .ge 240, 3) := by decide +kernel
theorem dX6_weigh_28 : decode cX6_weigh 28 = .ok (.aload_n 3, 1) := by decide +kernel
theorem dX6_weigh_29 : decode cX6_weigh 29 = .ok (.getfield 76, 3) := by decide +kernel
theorem dX6_weigh_32 : decode cX6_weigh 32 = .ok (.iload 4, 2) := by decide +kernel
theorem dX6_weigh_34 : decode cX6_weigh 34 = .ok (.iaload, 1) := by decide +kernel
theorem dX6_weigh_35 : decode cX6_weigh 35 = .ok (.iconst 1, 1) := by decide +kernel
theorem dX6_weigh_36 : decode cX6_weigh 36 = .ok (.if_icmp .ne 7, 3) := by decide +kernel
theorem dX6_weigh_39 : decode cX6_weigh 39 = .ok (.iconst 1, 1) := by decide +kernel
theorem dX6_weigh_40 : decode cX6_weigh 40 = .ok (.goto 4, 3) := by decide +kernel
theorem dX6_weigh_43 : decode cX6_weigh 43 = .ok (.iconst 0, 1) := by decide +kernel
theorem dX6_weigh_44 : decode cX6_weigh 44 = .ok (.istore 5, 2) := by decide +kernel
theorem dX6_weigh_46 : decode cX6_weigh 46 = .ok (.aload_n 3, 1) := by decide +kernel
theorem dX6_weigh_47 : decode cX6_weigh 47 = .ok (.getfield 81, 3) := by decide +kernel
theorem dX6_weigh_50 : decode cX6_weigh 50 = .ok (.iload 4, 2) := by decide +kernel
theorem dX6_weigh_52 : decode cX6_weigh 52 = .ok (.iaload, 1) := by decide +kernel
theorem dX6_weigh_53 : decode cX6_weigh 53 = .ok (.aload_n 1, 1) := by decide +kernel
theorem dX6_weigh_54 : decode cX6_weigh 54 = .ok (.getfield 84, 3) := by decide +kernel
theorem dX6_weigh_57 : decode cX6_weigh 57 = .ok (.iconst 2, 1) := by decide +kernel
theorem dX6_weigh_58 : decode cX6_weigh 58 = .ok (.iaload, 1) := by decide +kernel
theorem dX6_weigh_59 : decode cX6_weigh 59 = .ok (.if_icmp .le 7, 3) := by decide +kernel
theorem dX6_weigh_62 : decode cX6_weigh 62 = .ok (.iconst 1, 1) := by decide +kernel
theorem dX6_weigh_63 : decode cX6_weigh 63 = .ok (.goto 4, 3) := by decide +kernel
theorem dX6_weigh_66 : decode cX6_weigh 66 = .ok (.iconst 0, 1) := by decide +kernel
theorem dX6_weigh_67 : decode cX6_weigh 67 = .ok (.istore 6, 2) := by decide +kernel
theorem dX6_weigh_69 : decode cX6_weigh 69 = .ok (.aload_n 0, 1) := by decide +kernel
theorem dX6_weigh_70 : decode cX6_weigh 70 = .ok (.getfield 18, 3) := by decide +kernel
theorem dX6_weigh_73 : decode cX6_weigh 73 = .ok (.iload 4, 2) := by decide +kernel
theorem dX6_weigh_75 : decode cX6_weigh 75 = .ok (.baload, 1) := by decide +kernel
theorem dX6_weigh_76 : decode cX6_weigh 76 = .ok (.ifCond .eq 22, 3) := by decide +kernel
theorem dX6_weigh_79 : decode cX6_weigh 79 = .ok (.aload_n 0, 1) := by decide +kernel
theorem dX6_weigh_80 : decode cX6_weigh 80 = .ok (.getfield 28, 3) := by decide +kernel
theorem dX6_weigh_83 : decode cX6_weigh 83 = .ok (.iload 4, 2) := by decide +kernel
theorem dX6_weigh_85 : decode cX6_weigh 85 = .ok (.iconst 0, 1) := by decide +kernel
theorem dX6_weigh_86 : decode cX6_weigh 86 = .ok (.iastore, 1) := by decide +kernel
theorem dX6_weigh_87 : decode cX6_weigh 87 = .ok (.aload_n 0, 1) := by decide +kernel
theorem dX6_weigh_88 : decode cX6_weigh 88 = .ok (.getfield 31, 3) := by decide +kernel
theorem dX6_weigh_91 : decode cX6_weigh 91 = .ok (.iload 4, 2) := by decide +kernel
theorem dX6_weigh_93 : decode cX6_weigh 93 = .ok (.iconst 0, 1) := by decide +kernel
theorem dX6_weigh_94 : decode cX6_weigh 94 = .ok (.iastore, 1) := by decide +kernel
theorem dX6_weigh_95 : decode cX6_weigh 95 = .ok (.goto 95, 3) := by decide +kernel
theorem dX6_weigh_98 : decode cX6_weigh 98 = .ok (.aload_n 0, 1) := by decide +kernel
theorem dX6_weigh_99 : decode cX6_weigh 99 = .ok (.getfield 9, 3) := by decide +kernel
theorem dX6_weigh_102 : decode cX6_weigh 102 = .ok (.iload 4, 2) := by decide +kernel
theorem dX6_weigh_104 : decode cX6_weigh 104 = .ok (.iload 5, 2) := by decide +kernel
theorem dX6_weigh_106 : decode cX6_weigh 106 = .ok (.ifCond .ne 17, 3) := by decide +kernel
theorem dX6_weigh_109 : decode cX6_weigh 109 = .ok (.iload 6, 2) := by decide +kernel
theorem dX6_weigh_111 : decode cX6_weigh 111 = .ok (.ifCond .ne 16, 3) := by decide +kernel
theorem dX6_weigh_114 : decode cX6_weigh 114 = .ok (.aload_n 3, 1) := by decide +kernel
theorem dX6_weigh_115 : decode cX6_weigh 115 = .ok (.iload 4, 2) := by decide +kernel
theorem dX6_weigh_117 : decode cX6_weigh 117 = .ok (.invokestatic 87, 3) := by decide +kernel
theorem dX6_weigh_120 : decode cX6_weigh 120 = .ok (.ifCond .eq 7, 3) := by decide +kernel
theorem dX6_weigh_123 : decode cX6_weigh 123 = .ok (.iconst 1, 1) := by decide +kernel
theorem dX6_weigh_124 : decode cX6_weigh 124 = .ok (.goto 4, 3) := by decide +kernel
theorem dX6_weigh_127 : decode cX6_weigh 127 = .ok (.iconst 0, 1) := by decide +kernel
theorem dX6_weigh_128 : decode cX6_weigh 128 = .ok (.bastore, 1) := by decide +kernel
theorem dX6_weigh_129 : decode cX6_weigh 129 = .ok (.aload_n 0, 1) := by decide +kernel
theorem dX6_weigh_130 : decode cX6_weigh 130 = .ok (.getfield 15, 3) := by decide +kernel
theorem dX6_weigh_133 : decode cX6_weigh 133 = .ok (.iload 4, 2) := by decide +kernel
theorem dX6_weigh_135 : decode cX6_weigh 135 = .ok (.iload 5, 2) := by decide +kernel
theorem dX6_weigh_137 : decode cX6_weigh 137 = .ok (.ifCond .eq 8, 3) := by decide +kernel
theorem dX6_weigh_140 : decode cX6_weigh 140 = .ok (.iload 6, 2) := by decide +kernel
theorem dX6_weigh_142 : decode cX6_weigh 142 = .ok (.ifCond .ne 7, 3) := by decide +kernel
theorem dX6_weigh_145 : decode cX6_weigh 145 = .ok (.iconst 1, 1) := by decide +kernel
theorem dX6_weigh_146 : decode cX6_weigh 146 = .ok (.goto 4, 3) := by decide +kernel
theorem dX6_weigh_149 : decode cX6_weigh 149 = .ok (.iconst 0, 1) := by decide +kernel
theorem dX6_weigh_150 : decode cX6_weigh 150 = .ok (.bastore, 1) := by decide +kernel
theorem dX6_weigh_151 : decode cX6_weigh 151 = .ok (.aload_n 0, 1) := by decide +kernel
theorem dX6_weigh_152 : decode cX6_weigh 152 = .ok (.getfield 28, 3) := by decide +kernel
theorem dX6_weigh_155 : decode cX6_weigh 155 = .ok (.iload 4, 2) := by decide +kernel
theorem dX6_weigh_157 : decode cX6_weigh 157 = .ok (.iload 5, 2) := by decide +kernel
theorem dX6_weigh_159 : decode cX6_weigh 159 = .ok (.ifCond .eq 7, 3) := by decide +kernel
theorem dX6_weigh_162 : decode cX6_weigh 162 = .ok (.iconst 0, 1) := by decide +kernel
theorem dX6_weigh_163 : decode cX6_weigh 163 = .ok (.goto 9, 3) := by decide +kernel
theorem dX6_weigh_166 : decode cX6_weigh 166 = .ok (.getstatic 91, 3) := by decide +kernel
theorem dX6_weigh_169 : decode cX6_weigh 169 = .ok (.iload 4, 2) := by decide +kernel
theorem dX6_weigh_171 : decode cX6_weigh 171 = .ok (.iaload, 1) := by decide +kernel
theorem dX6_weigh_172 : decode cX6_weigh 172 = .ok (.iastore, 1) := by decide +kernel
theorem dX6_weigh_173 : decode cX6_weigh 173 = .ok (.aload_n 0, 1) := by decide +kernel
theorem dX6_weigh_174 : decode cX6_weigh 174 = .ok (.getfield 31, 3) := by decide +kernel
theorem dX6_weigh_177 : decode cX6_weigh 177 = .ok (.iload 4, 2) := by decide +kernel
theorem dX6_weigh_179 : decode cX6_weigh 179 = .ok (.aload_n 3, 1) := by decide +kernel
theorem dX6_weigh_180 : decode cX6_weigh 180 = .ok (.getfield 94, 3) := by decide +kernel
theorem dX6_weigh_183 : decode cX6_weigh 183 = .ok (.iload 4, 2) := by decide +kernel
theorem dX6_weigh_185 : decode cX6_weigh 185 = .ok (.iaload, 1) := by decide +kernel
theorem dX6_weigh_186 : decode cX6_weigh 186 = .ok (.invokestatic 97, 3) := by decide +kernel
theorem dX6_weigh_189 : decode cX6_weigh 189 = .ok (.iastore, 1) := by decide +kernel
theorem dX6_weigh_190 : decode cX6_weigh 190 = .ok (.aload_n 0, 1) := by decide +kernel
theorem dX6_weigh_191 : decode cX6_weigh 191 = .ok (.getfield 21, 3) := by decide +kernel
theorem dX6_weigh_194 : decode cX6_weigh 194 = .ok (.iload 4, 2) := by decide +kernel
theorem dX6_weigh_196 : decode cX6_weigh 196 = .ok (.aload_n 3, 1) := by decide +kernel
theorem dX6_weigh_197 : decode cX6_weigh 197 = .ok (.getfield 103, 3) := by decide +kernel
theorem dX6_weigh_200 : decode cX6_weigh 200 = .ok (.iload 4, 2) := by decide +kernel
theorem dX6_weigh_202 : decode cX6_weigh 202 = .ok (.iaload, 1) := by decide +kernel
theorem dX6_weigh_203 : decode cX6_weigh 203 = .ok (.iload 5, 2) := by decide +kernel
theorem dX6_weigh_205 : decode cX6_weigh 205 = .ok (.invokestatic 106, 3) := by decide +kernel
theorem dX6_weigh_208 : decode cX6_weigh 208 = .ok (.aload_n 3, 1) := by decide +kernel
theorem dX6_weigh_209 : decode cX6_weigh 209 = .ok (.getfield 110, 3) := by decide +kernel
theorem dX6_weigh_212 : decode cX6_weigh 212 = .ok (.iload 4, 2) := by decide +kernel
theorem dX6_weigh_214 : decode cX6_weigh 214 = .ok (.iaload, 1) := by decide +kernel
theorem dX6_weigh_215 : decode cX6_weigh 215 = .ok (.invokestatic 113, 3) := by decide +kernel
theorem dX6_weigh_218 : decode cX6_weigh 218 = .ok (.iadd, 1) := by decide +kernel
theorem dX6_weigh_219 : decode cX6_weigh 219 = .ok (.aload_n 1, 1) := by decide +kernel
theorem dX6_weigh_220 : decode cX6_weigh 220 = .ok (.getfield 84, 3) := by decide +kernel
theorem dX6_weigh_223 : decode cX6_weigh 223 = .ok (.bipush 6, 2) := by decide +kernel
theorem dX6_weigh_225 : decode cX6_weigh 225 = .ok (.iaload, 1) := by decide +kernel
theorem dX6_weigh_226 : decode cX6_weigh 226 = .ok (.aload_n 0, 1) := by decide +kernel
theorem dX6_weigh_227 : decode cX6_weigh 227 = .ok (.getfield 28, 3) := by decide +kernel
theorem dX6_weigh_230 : decode cX6_weigh 230 = .ok (.iload 4, 2) := by decide +kernel
theorem dX6_weigh_232 : decode cX6_weigh 232 = .ok (.iaload, 1) := by decide +kernel
theorem dX6_weigh_233 : decode cX6_weigh 233 = .ok (.imul, 1) := by decide +kernel
theorem dX6_weigh_234 : decode cX6_weigh 234 = .ok (.isub, 1) := by decide +kernel
theorem dX6_weigh_235 : decode cX6_weigh 235 = .ok (.iastore, 1) := by decide +kernel
theorem dX6_weigh_236 : decode cX6_weigh 236 = .ok (.aload_n 0, 1) := by decide +kernel
theorem dX6_weigh_237 : decode cX6_weigh 237 = .ok (.getfield 25, 3) := by decide +kernel
theorem dX6_weigh_240 : decode cX6_weigh 240 = .ok (.iload 4, 2) := by decide +kernel
theorem dX6_weigh_242 : decode cX6_weigh 242 = .ok (.aload_n 1, 1) := by decide +kernel
theorem dX6_weigh_243 : decode cX6_weigh 243 = .ok (.getfield 84, 3) := by decide +kernel
theorem dX6_weigh_246 : decode cX6_weigh 246 = .ok (.bipush 6, 2) := by decide +kernel
theorem dX6_weigh_248 : decode cX6_weigh 248 = .ok (.iaload, 1) := by decide +kernel
theorem dX6_weigh_249 : decode cX6_weigh 249 = .ok (.ineg, 1) := by decide +kernel
theorem dX6_weigh_250 : decode cX6_weigh 250 = .ok (.aload_n 0, 1) := by decide +kernel
theorem dX6_weigh_251 : decode cX6_weigh 251 = .ok (.getfield 31, 3) := by decide +kernel
theorem dX6_weigh_254 : decode cX6_weigh 254 = .ok (.iload 4, 2) := by decide +kernel
theorem dX6_weigh_256 : decode cX6_weigh 256 = .ok (.iaload, 1) := by decide +kernel
theorem dX6_weigh_257 : decode cX6_weigh 257 = .ok (.imul, 1) := by decide +kernel
theorem dX6_weigh_258 : decode cX6_weigh 258 = .ok (.iastore, 1) := by decide +kernel
theorem dX6_weigh_259 : decode cX6_weigh 259 = .ok (.iinc 4 1, 3) := by decide +kernel
theorem dX6_weigh_262 : decode cX6_weigh 262 = .ok (.goto (-241), 3) := by decide +kernel
theorem dX6_weigh_265 : decode cX6_weigh 265 = .ok (.return_, 1) := by decide +kernel
theorem dX6_bind_0 : decode cX6_bind 0 = .ok (.iconst 0, 1) := by decide +kernel
theorem dX6_bind_1 : decode cX6_bind 1 = .ok (.istore_n 2, 1) := by decide +kernel
theorem dX6_bind_2 : decode cX6_bind 2 = .ok (.iload_n 2, 1) := by decide +kernel
theorem dX6_bind_3 : decode cX6_bind 3 = .ok (.bipush 10, 2) := by decide +kernel
theorem dX6_bind_5 : decode cX6_bind 5 = .ok (.if_icmp .ge 16, 3) := by decide +kernel
theorem dX6_bind_8 : decode cX6_bind 8 = .ok (.aload_n 0, 1) := by decide +kernel
theorem dX6_bind_9 : decode cX6_bind 9 = .ok (.getfield 18, 3) := by decide +kernel
theorem dX6_bind_12 : decode cX6_bind 12 = .ok (.iload_n 2, 1) := by decide +kernel
theorem dX6_bind_13 : decode cX6_bind 13 = .ok (.iconst 0, 1) := by decide +kernel
theorem dX6_bind_14 : decode cX6_bind 14 = .ok (.bastore, 1) := by decide +kernel
theorem dX6_bind_15 : decode cX6_bind 15 = .ok (.iinc 2 1, 3) := by decide +kernel
theorem dX6_bind_18 : decode cX6_bind 18 = .ok (.goto (-16), 3) := by decide +kernel
theorem dX6_bind_21 : decode cX6_bind 21 = .ok (.iconst 0, 1) := by decide +kernel
theorem dX6_bind_22 : decode cX6_bind 22 = .ok (.istore_n 2, 1) := by decide +kernel
theorem dX6_bind_23 : decode cX6_bind 23 = .ok (.iload_n 2, 1) := by decide +kernel
theorem dX6_bind_24 : decode cX6_bind 24 = .ok (.aload_n 1, 1) := by decide +kernel
theorem dX6_bind_25 : decode cX6_bind 25 = .ok (.getfield 116, 3) := by decide +kernel
theorem dX6_bind_28 : decode cX6_bind 28 = .ok (.if_icmp .ge 74, 3) := by decide +kernel
theorem dX6_bind_31 : decode cX6_bind 31 = .ok (.aload_n 1, 1) := by decide +kernel
theorem dX6_bind_32 : decode cX6_bind 32 = .ok (.getfield 121, 3) := by decide +kernel
theorem dX6_bind_35 : decode cX6_bind 35 = .ok (.iload_n 2, 1) := by decide +kernel
theorem dX6_bind_36 : decode cX6_bind 36 = .ok (.iaload, 1) := by decide +kernel
theorem dX6_bind_37 : decode cX6_bind 37 = .ok (.iconst 1, 1) := by decide +kernel
theorem dX6_bind_38 : decode cX6_bind 38 = .ok (.if_icmp .ne 58, 3) := by decide +kernel
theorem dX6_bind_41 : decode cX6_bind 41 = .ok (.aload_n 1, 1) := by decide +kernel
theorem dX6_bind_42 : decode cX6_bind 42 = .ok (.getfield 124, 3) := by decide +kernel
theorem dX6_bind_45 : decode cX6_bind 45 = .ok (.iload_n 2, 1) := by decide +kernel
theorem dX6_bind_46 : decode cX6_bind 46 = .ok (.iaload, 1) := by decide +kernel
theorem dX6_bind_47 : decode cX6_bind 47 = .ok (.istore_n 3, 1) := by decide +kernel
theorem dX6_bind_48 : decode cX6_bind 48 = .ok (.aload_n 0, 1) := by decide +kernel
theorem dX6_bind_49 : decode cX6_bind 49 = .ok (.getfield 18, 3) := by decide +kernel
theorem dX6_bind_52 : decode cX6_bind 52 = .ok (.iload_n 3, 1) := by decide +kernel
theorem dX6_bind_53 : decode cX6_bind 53 = .ok (.iconst 1, 1) := by decide +kernel
theorem dX6_bind_54 : decode cX6_bind 54 = .ok (.bastore, 1) := by decide +kernel
theorem dX6_bind_55 : decode cX6_bind 55 = .ok (.aload_n 0, 1) := by decide +kernel
theorem dX6_bind_56 : decode cX6_bind 56 = .ok (.getfield 9, 3) := by decide +kernel
theorem dX6_bind_59 : decode cX6_bind 59 = .ok (.iload_n 3, 1) := by decide +kernel
theorem dX6_bind_60 : decode cX6_bind 60 = .ok (.aload_n 1, 1) := by decide +kernel
theorem dX6_bind_61 : decode cX6_bind 61 = .ok (.getfield 127, 3) := by decide +kernel
theorem dX6_bind_64 : decode cX6_bind 64 = .ok (.iload_n 2, 1) := by decide +kernel
theorem dX6_bind_65 : decode cX6_bind 65 = .ok (.iaload, 1) := by decide +kernel
theorem dX6_bind_66 : decode cX6_bind 66 = .ok (.iconst 1, 1) := by decide +kernel
theorem dX6_bind_67 : decode cX6_bind 67 = .ok (.if_icmp .ne 7, 3) := by decide +kernel
theorem dX6_bind_70 : decode cX6_bind 70 = .ok (.iconst 1, 1) := by decide +kernel
theorem dX6_bind_71 : decode cX6_bind 71 = .ok (.goto 4, 3) := by decide +kernel
theorem dX6_bind_74 : decode cX6_bind 74 = .ok (.iconst 0, 1) := by decide +kernel
theorem dX6_bind_75 : decode cX6_bind 75 = .ok (.bastore, 1) := by decide +kernel
theorem dX6_bind_76 : decode cX6_bind 76 = .ok (.aload_n 0, 1) := by decide +kernel
theorem dX6_bind_77 : decode cX6_bind 77 = .ok (.getfield 15, 3) := by decide +kernel
theorem dX6_bind_80 : decode cX6_bind 80 = .ok (.iload_n 3, 1) := by decide +kernel
theorem dX6_bind_81 : decode cX6_bind 81 = .ok (.aload_n 1, 1) := by decide +kernel
theorem dX6_bind_82 : decode cX6_bind 82 = .ok (.getfield 127, 3) := by decide +kernel
theorem dX6_bind_85 : decode cX6_bind 85 = .ok (.iload_n 2, 1) := by decide +kernel
theorem dX6_bind_86 : decode cX6_bind 86 = .ok (.iaload, 1) := by decide +kernel
theorem dX6_bind_87 : decode cX6_bind 87 = .ok (.ifCond .ne 7, 3) := by decide +kernel
theorem dX6_bind_90 : decode cX6_bind 90 = .ok (.iconst 1, 1) := by decide +kernel
theorem dX6_bind_91 : decode cX6_bind 91 = .ok (.goto 4, 3) := by decide +kernel
theorem dX6_bind_94 : decode cX6_bind 94 = .ok (.iconst 0, 1) := by decide +kernel
theorem dX6_bind_95 : decode cX6_bind 95 = .ok (.bastore, 1) := by decide +kernel
theorem dX6_bind_96 : decode cX6_bind 96 = .ok (.iinc 2 1, 3) := by decide +kernel
theorem dX6_bind_99 : decode cX6_bind 99 = .ok (.goto (-76), 3) := by decide +kernel
theorem dX6_bind_102 : decode cX6_bind 102 = .ok (.return_, 1) := by decide +kernel
theorem dX6_isWanted_0 : decode cX6_isWanted 0 = .ok (.aload_n 0, 1) := by decide +kernel
theorem dX6_isWanted_1 : decode cX6_isWanted 1 = .ok (.getfield 110, 3) := by decide +kernel
theorem dX6_isWanted_4 : decode cX6_isWanted 4 = .ok (.iload_n 1, 1) := by decide +kernel
theorem dX6_isWanted_5 : decode cX6_isWanted 5 = .ok (.iaload, 1) := by decide +kernel
theorem dX6_isWanted_6 : decode cX6_isWanted 6 = .ok (.iconst 1, 1) := by decide +kernel
theorem dX6_isWanted_7 : decode cX6_isWanted 7 = .ok (.if_icmp .eq 31, 3) := by decide +kernel
theorem dX6_isWanted_10 : decode cX6_isWanted 10 = .ok (.aload_n 0, 1) := by decide +kernel
theorem dX6_isWanted_11 : decode cX6_isWanted 11 = .ok (.getfield 130, 3) := by decide +kernel
theorem dX6_isWanted_14 : decode cX6_isWanted 14 = .ok (.iload_n 1, 1) := by decide +kernel
theorem dX6_isWanted_15 : decode cX6_isWanted 15 = .ok (.iaload, 1) := by decide +kernel
theorem dX6_isWanted_16 : decode cX6_isWanted 16 = .ok (.invokestatic 97, 3) := by decide +kernel
theorem dX6_isWanted_19 : decode cX6_isWanted 19 = .ok (.iconst 2, 1) := by decide +kernel
theorem dX6_isWanted_20 : decode cX6_isWanted 20 = .ok (.if_icmp .lt 22, 3) := by decide +kernel
theorem dX6_isWanted_23 : decode cX6_isWanted 23 = .ok (.aload_n 0, 1) := by decide +kernel
theorem dX6_isWanted_24 : decode cX6_isWanted 24 = .ok (.getfield 133, 3) := by decide +kernel
theorem dX6_isWanted_27 : decode cX6_isWanted 27 = .ok (.iload_n 1, 1) := by decide +kernel
theorem dX6_isWanted_28 : decode cX6_isWanted 28 = .ok (.iaload, 1) := by decide +kernel
theorem dX6_isWanted_29 : decode cX6_isWanted 29 = .ok (.aload_n 0, 1) := by decide +kernel
theorem dX6_isWanted_30 : decode cX6_isWanted 30 = .ok (.getfield 136, 3) := by decide +kernel
theorem dX6_isWanted_33 : decode cX6_isWanted 33 = .ok (.iload_n 1, 1) := by decide +kernel
theorem dX6_isWanted_34 : decode cX6_isWanted 34 = .ok (.iaload, 1) := by decide +kernel
theorem dX6_isWanted_35 : decode cX6_isWanted 35 = .ok (.if_icmp .gt 7, 3) := by decide +kernel
theorem dX6_isWanted_38 : decode cX6_isWanted 38 = .ok (.iconst 1, 1) := by decide +kernel
theorem dX6_isWanted_39 : decode cX6_isWanted 39 = .ok (.goto 4, 3) := by decide +kernel
theorem dX6_isWanted_42 : decode cX6_isWanted 42 = .ok (.iconst 0, 1) := by decide +kernel
theorem dX6_isWanted_43 : decode cX6_isWanted 43 = .ok (.ireturn, 1) := by decide +kernel
theorem dX6_heatWorth_0 : decode cX6_heatWorth 0 = .ok (.iload_n 1, 1) := by decide +kernel
theorem dX6_heatWorth_1 : decode cX6_heatWorth 1 = .ok (.ifCond .eq 11, 3) := by decide +kernel
theorem dX6_heatWorth_4 : decode cX6_heatWorth 4 = .ok (.iload_n 0, 1) := by decide +kernel
theorem dX6_heatWorth_5 : decode cX6_heatWorth 5 = .ok (.iload_n 0, 1) := by decide +kernel
theorem dX6_heatWorth_6 : decode cX6_heatWorth 6 = .ok (.iconst 4, 1) := by decide +kernel
theorem dX6_heatWorth_7 : decode cX6_heatWorth 7 = .ok (.idiv, 1) := by decide +kernel
theorem dX6_heatWorth_8 : decode cX6_heatWorth 8 = .ok (.iadd, 1) := by decide +kernel
theorem dX6_heatWorth_9 : decode cX6_heatWorth 9 = .ok (.goto 4, 3) := by decide +kernel
theorem dX6_heatWorth_12 : decode cX6_heatWorth 12 = .ok (.iload_n 0, 1) := by decide +kernel
theorem dX6_heatWorth_13 : decode cX6_heatWorth 13 = .ok (.ireturn, 1) := by decide +kernel
theorem dX6_pinWorth_0 : decode cX6_pinWorth 0 = .ok (.iload_n 0, 1) := by decide +kernel
theorem dX6_pinWorth_1 : decode cX6_pinWorth 1 = .ok (.iconst 1, 1) := by decide +kernel
theorem dX6_pinWorth_2 : decode cX6_pinWorth 2 = .ok (.if_icmp .ne 6, 3) := by decide +kernel
theorem dX6_pinWorth_5 : decode cX6_pinWorth 5 = .ok (.ldc 139, 2) := by decide +kernel
theorem dX6_pinWorth_7 : decode cX6_pinWorth 7 = .ok (.ireturn, 1) := by decide +kernel
theorem dX6_pinWorth_8 : decode cX6_pinWorth 8 = .ok (.iload_n 0, 1) := by decide +kernel
theorem dX6_pinWorth_9 : decode cX6_pinWorth 9 = .ok (.iconst 2, 1) := by decide +kernel
theorem dX6_pinWorth_10 : decode cX6_pinWorth 10 = .ok (.if_icmp .ne 8, 3) := by decide +kernel
theorem dX6_pinWorth_13 : decode cX6_pinWorth 13 = .ok (.ldc 140, 2) := by decide +kernel
theorem dX6_pinWorth_15 : decode cX6_pinWorth 15 = .ok (.goto 4, 3) := by decide +kernel
theorem dX6_pinWorth_18 : decode cX6_pinWorth 18 = .ok (.iconst 0, 1) := by decide +kernel
theorem dX6_pinWorth_19 : decode cX6_pinWorth 19 = .ok (.ireturn, 1) := by decide +kernel
theorem dX6_force_0 : decode cX6_force 0 = .ok (.iload_n 2, 1) := by decide +kernel
theorem dX6_force_1 : decode cX6_force 1 = .ok (.ifCond .eq 13, 3) := by decide +kernel
theorem dX6_force_4 : decode cX6_force 4 = .ok (.aload_n 0, 1) := by decide +kernel
theorem dX6_force_5 : decode cX6_force 5 = .ok (.getfield 15, 3) := by decide +kernel
theorem dX6_force_8 : decode cX6_force 8 = .ok (.iload_n 1, 1) := by decide +kernel
theorem dX6_force_9 : decode cX6_force 9 = .ok (.iconst 0, 1) := by decide +kernel
theorem dX6_force_10 : decode cX6_force 10 = .ok (.bastore, 1) := by decide +kernel
theorem dX6_force_11 : decode cX6_force 11 = .ok (.goto 10, 3) := by decide +kernel
theorem dX6_force_14 : decode cX6_force 14 = .ok (.aload_n 0, 1) := by decide +kernel
theorem dX6_force_15 : decode cX6_force 15 = .ok (.getfield 9, 3) := by decide +kernel
theorem dX6_force_18 : decode cX6_force 18 = .ok (.iload_n 1, 1) := by decide +kernel
theorem dX6_force_19 : decode cX6_force 19 = .ok (.iconst 0, 1) := by decide +kernel
theorem dX6_force_20 : decode cX6_force 20 = .ok (.bastore, 1) := by decide +kernel
theorem dX6_force_21 : decode cX6_force 21 = .ok (.return_, 1) := by decide +kernel
theorem dX6_choose_0 : decode cX6_choose 0 = .ok (.aload_n 0, 1) := by decide +kernel
theorem dX6_choose_1 : decode cX6_choose 1 = .ok (.iconst 0, 1) := by decide +kernel
theorem dX6_choose_2 : decode cX6_choose 2 = .ok (.putfield 38, 3) := by decide +kernel
theorem dX6_choose_5 : decode cX6_choose 5 = .ok (.aload_n 0, 1) := by decide +kernel
theorem dX6_choose_6 : decode cX6_choose 6 = .ok (.iconst 0, 1) := by decide +kernel
theorem dX6_choose_7 : decode cX6_choose 7 = .ok (.putfield 42, 3) := by decide +kernel
theorem dX6_choose_10 : decode cX6_choose 10 = .ok (.aload_n 0, 1) := by decide +kernel
theorem dX6_choose_11 : decode cX6_choose 11 = .ok (.ldc 141, 2) := by decide +kernel
theorem dX6_choose_13 : decode cX6_choose 13 = .ok (.putfield 45, 3) := by decide +kernel
theorem dX6_choose_16 : decode cX6_choose 16 = .ok (.aload_n 0, 1) := by decide +kernel
theorem dX6_choose_17 : decode cX6_choose 17 = .ok (.bipush 9, 2) := by decide +kernel
theorem dX6_choose_19 : decode cX6_choose 19 = .ok (.bipush 9, 2) := by decide +kernel
theorem dX6_choose_21 : decode cX6_choose 21 = .ok (.aload_n 0, 1) := by decide +kernel
theorem dX6_choose_22 : decode cX6_choose 22 = .ok (.getfield 34, 3) := by decide +kernel
theorem dX6_choose_25 : decode cX6_choose 25 = .ok (.iconst 0, 1) := by decide +kernel
theorem dX6_choose_26 : decode cX6_choose 26 = .ok (.iconst 0, 1) := by decide +kernel
theorem dX6_choose_27 : decode cX6_choose 27 = .ok (.invokestatic 142, 3) := by decide +kernel
theorem dX6_choose_30 : decode cX6_choose 30 = .ok (.aload_n 0, 1) := by decide +kernel
theorem dX6_choose_31 : decode cX6_choose 31 = .ok (.getfield 38, 3) := by decide +kernel
theorem dX6_choose_34 : decode cX6_choose 34 = .ok (.ireturn, 1) := by decide +kernel
theorem dX6_search_0 : decode cX6_search 0 = .ok (.iload_n 1, 1) := by decide +kernel
theorem dX6_search_1 : decode cX6_search 1 = .ok (.ifCond .ge 37, 3) := by decide +kernel
theorem dX6_search_4 : decode cX6_search 4 = .ok (.aload_n 0, 1) := by decide +kernel
theorem dX6_search_5 : decode cX6_search 5 = .ok (.getfield 38, 3) := by decide +kernel
theorem dX6_search_8 : decode cX6_search 8 = .ok (.ifCond .eq 12, 3) := by decide +kernel
theorem dX6_search_11 : decode cX6_search 11 = .ok (.iload 4, 2) := by decide +kernel
theorem dX6_search_13 : decode cX6_search 13 = .ok (.aload_n 0, 1) := by decide +kernel
theorem dX6_search_14 : decode cX6_search 14 = .ok (.getfield 45, 3) := by decide +kernel
theorem dX6_search_17 : decode cX6_search 17 = .ok (.if_icmp .le 20, 3) := by decide +kernel
theorem dX6_search_20 : decode cX6_search 20 = .ok (.aload_n 0, 1) := by decide +kernel
theorem dX6_search_21 : decode cX6_search 21 = .ok (.iconst 1, 1) := by decide +kernel
theorem dX6_search_22 : decode cX6_search 22 = .ok (.putfield 38, 3) := by decide +kernel
theorem dX6_search_25 : decode cX6_search 25 = .ok (.aload_n 0, 1) := by decide +kernel
theorem dX6_search_26 : decode cX6_search 26 = .ok (.iload 5, 2) := by decide +kernel
theorem dX6_search_28 : decode cX6_search 28 = .ok (.putfield 42, 3) := by decide +kernel
theorem dX6_search_31 : decode cX6_search 31 = .ok (.aload_n 0, 1) := by decide +kernel
theorem dX6_search_32 : decode cX6_search 32 = .ok (.iload 4, 2) := by decide +kernel
theorem dX6_search_34 : decode cX6_search 34 = .ok (.putfield 45, 3) := by decide +kernel
theorem dX6_search_37 : decode cX6_search 37 = .ok (.return_, 1) := by decide +kernel
theorem dX6_search_38 : decode cX6_search 38 = .ok (.iload_n 3, 1) := by decide +kernel
theorem dX6_search_39 : decode cX6_search 39 = .ok (.aload_n 0, 1) := by decide +kernel
theorem dX6_search_40 : decode cX6_search 40 = .ok (.getfield 31, 3) := by decide +kernel
theorem dX6_search_43 : decode cX6_search 43 = .ok (.iload_n 1, 1) := by decide +kernel
theorem dX6_search_44 : decode cX6_search 44 = .ok (.iaload, 1) := by decide +kernel
theorem dX6_search_45 : decode cX6_search 45 = .ok (.isub, 1) := by decide +kernel
theorem dX6_search_46 : decode cX6_search 46 = .ok (.istore 6, 2) := by decide +kernel
theorem dX6_search_48 : decode cX6_search 48 = .ok (.aload_n 0, 1) := by decide +kernel
theorem dX6_search_49 : decode cX6_search 49 = .ok (.getfield 15, 3) := by decide +kernel
theorem dX6_search_52 : decode cX6_search 52 = .ok (.iload_n 1, 1) := by decide +kernel
theorem dX6_search_53 : decode cX6_search 53 = .ok (.baload, 1) := by decide +kernel
theorem dX6_search_54 : decode cX6_search 54 = .ok (.ifCond .eq 29, 3) := by decide +kernel
theorem dX6_search_57 : decode cX6_search 57 = .ok (.iload 6, 2) := by decide +kernel
theorem dX6_search_59 : decode cX6_search 59 = .ok (.ifCond .lt 24, 3) := by decide +kernel
theorem dX6_search_62 : decode cX6_search 62 = .ok (.aload_n 0, 1) := by decide +kernel
theorem dX6_search_63 : decode cX6_search 63 = .ok (.iload_n 1, 1) := by decide +kernel
theorem dX6_search_64 : decode cX6_search 64 = .ok (.iconst 1, 1) := by decide +kernel
theorem dX6_search_65 : decode cX6_search 65 = .ok (.isub, 1) := by decide +kernel
theorem dX6_search_66 : decode cX6_search 66 = .ok (.iload_n 2, 1) := by decide +kernel
theorem dX6_search_67 : decode cX6_search 67 = .ok (.iload 6, 2) := by decide +kernel
theorem dX6_search_69 : decode cX6_search 69 = .ok (.iload 4, 2) := by decide +kernel
theorem dX6_search_71 : decode cX6_search 71 = .ok (.aload_n 0, 1) := by decide +kernel
theorem dX6_search_72 : decode cX6_search 72 = .ok (.getfield 25, 3) := by decide +kernel
theorem dX6_search_75 : decode cX6_search 75 = .ok (.iload_n 1, 1) := by decide +kernel
theorem dX6_search_76 : decode cX6_search 76 = .ok (.iaload, 1) := by decide +kernel
theorem dX6_search_77 : decode cX6_search 77 = .ok (.iadd, 1) := by decide +kernel
theorem dX6_search_78 : decode cX6_search 78 = .ok (.iload 5, 2) := by decide +kernel
theorem dX6_search_80 : decode cX6_search 80 = .ok (.invokestatic 142, 3) := by decide +kernel
theorem dX6_search_83 : decode cX6_search 83 = .ok (.iload_n 3, 1) := by decide +kernel
theorem dX6_search_84 : decode cX6_search 84 = .ok (.aload_n 0, 1) := by decide +kernel
theorem dX6_search_85 : decode cX6_search 85 = .ok (.getfield 28, 3) := by decide +kernel
theorem dX6_search_88 : decode cX6_search 88 = .ok (.iload_n 1, 1) := by decide +kernel
theorem dX6_search_89 : decode cX6_search 89 = .ok (.iaload, 1) := by decide +kernel
theorem dX6_search_90 : decode cX6_search 90 = .ok (.isub, 1) := by decide +kernel
theorem dX6_search_91 : decode cX6_search 91 = .ok (.istore 6, 2) := by decide +kernel
theorem dX6_search_93 : decode cX6_search 93 = .ok (.iload_n 2, 1) := by decide +kernel
theorem dX6_search_94 : decode cX6_search 94 = .ok (.getstatic 91, 3) := by decide +kernel
theorem dX6_search_97 : decode cX6_search 97 = .ok (.iload_n 1, 1) := by decide +kernel
theorem dX6_search_98 : decode cX6_search 98 = .ok (.iaload, 1) := by decide +kernel
theorem dX6_search_99 : decode cX6_search 99 = .ok (.isub, 1) := by decide +kernel
theorem dX6_search_100 : decode cX6_search 100 = .ok (.istore 7, 2) := by decide +kernel
theorem dX6_search_102 : decode cX6_search 102 = .ok (.aload_n 0, 1) := by decide +kernel
theorem dX6_search_103 : decode cX6_search 103 = .ok (.getfield 9, 3) := by decide +kernel
theorem dX6_search_106 : decode cX6_search 106 = .ok (.iload_n 1, 1) := by decide +kernel
theorem dX6_search_107 : decode cX6_search 107 = .ok (.baload, 1) := by decide +kernel
theorem dX6_search_108 : decode cX6_search 108 = .ok (.ifCond .eq 39, 3) := by decide +kernel
theorem dX6_search_111 : decode cX6_search 111 = .ok (.iload 6, 2) := by decide +kernel
theorem dX6_search_113 : decode cX6_search 113 = .ok (.ifCond .lt 34, 3) := by decide +kernel
theorem dX6_search_116 : decode cX6_search 116 = .ok (.iload 7, 2) := by decide +kernel
theorem dX6_search_118 : decode cX6_search 118 = .ok (.ifCond .lt 29, 3) := by decide +kernel
theorem dX6_search_121 : decode cX6_search 121 = .ok (.aload_n 0, 1) := by decide +kernel
theorem dX6_search_122 : decode cX6_search 122 = .ok (.iload_n 1, 1) := by decide +kernel
theorem dX6_search_123 : decode cX6_search 123 = .ok (.iconst 1, 1) := by decide +kernel
theorem dX6_search_124 : decode cX6_search 124 = .ok (.isub, 1) := by decide +kernel
theorem dX6_search_125 : decode cX6_search 125 = .ok (.iload 7, 2) := by decide +kernel
theorem dX6_search_127 : decode cX6_search 127 = .ok (.iload 6, 2) := by decide +kernel
theorem dX6_search_129 : decode cX6_search 129 = .ok (.iload 4, 2) := by decide +kernel
theorem dX6_search_131 : decode cX6_search 131 = .ok (.aload_n 0, 1) := by decide +kernel
theorem dX6_search_132 : decode cX6_search 132 = .ok (.getfield 21, 3) := by decide +kernel
theorem dX6_search_135 : decode cX6_search 135 = .ok (.iload_n 1, 1) := by decide +kernel
theorem dX6_search_136 : decode cX6_search 136 = .ok (.iaload, 1) := by decide +kernel
theorem dX6_search_137 : decode cX6_search 137 = .ok (.iadd, 1) := by decide +kernel
theorem dX6_search_138 : decode cX6_search 138 = .ok (.iload 5, 2) := by decide +kernel
theorem dX6_search_140 : decode cX6_search 140 = .ok (.iconst 1, 1) := by decide +kernel
theorem dX6_search_141 : decode cX6_search 141 = .ok (.iload_n 1, 1) := by decide +kernel
theorem dX6_search_142 : decode cX6_search 142 = .ok (.ishl, 1) := by decide +kernel
theorem dX6_search_143 : decode cX6_search 143 = .ok (.ior, 1) := by decide +kernel
theorem dX6_search_144 : decode cX6_search 144 = .ok (.invokestatic 142, 3) := by decide +kernel
theorem dX6_search_147 : decode cX6_search 147 = .ok (.return_, 1) := by decide +kernel
theorem dX6_isIn_0 : decode cX6_isIn 0 = .ok (.iload_n 0, 1) := by decide +kernel
theorem dX6_isIn_1 : decode cX6_isIn 1 = .ok (.iload_n 1, 1) := by decide +kernel
theorem dX6_isIn_2 : decode cX6_isIn 2 = .ok (.ishr, 1) := by decide +kernel
theorem dX6_isIn_3 : decode cX6_isIn 3 = .ok (.iconst 1, 1) := by decide +kernel
theorem dX6_isIn_4 : decode cX6_isIn 4 = .ok (.iand, 1) := by decide +kernel
theorem dX6_isIn_5 : decode cX6_isIn 5 = .ok (.iconst 1, 1) := by decide +kernel
theorem dX6_isIn_6 : decode cX6_isIn 6 = .ok (.if_icmp .ne 7, 3) := by decide +kernel
theorem dX6_isIn_9 : decode cX6_isIn 9 = .ok (.iconst 1, 1) := by decide +kernel
theorem dX6_isIn_10 : decode cX6_isIn 10 = .ok (.goto 4, 3) := by decide +kernel
theorem dX6_isIn_13 : decode cX6_isIn 13 = .ok (.iconst 0, 1) := by decide +kernel
theorem dX6_isIn_14 : decode cX6_isIn 14 = .ok (.ireturn, 1) := by decide +kernel
theorem dX6_allows_0 : decode cX6_allows 0 = .ok (.iload_n 1, 1) := by decide +kernel
theorem dX6_allows_1 : decode cX6_allows 1 = .ok (.ifCond .lt 10, 3) := by decide +kernel
theorem dX6_allows_4 : decode cX6_allows 4 = .ok (.iload_n 1, 1) := by decide +kernel
theorem dX6_allows_5 : decode cX6_allows 5 = .ok (.sipush 1024, 3) := by decide +kernel
theorem dX6_allows_8 : decode cX6_allows 8 = .ok (.if_icmp .lt 5, 3) := by decide +kernel
theorem dX6_allows_11 : decode cX6_allows 11 = .ok (.iconst 0, 1) := by decide +kernel
theorem dX6_allows_12 : decode cX6_allows 12 = .ok (.ireturn, 1) := by decide +kernel
theorem dX6_allows_13 : decode cX6_allows 13 = .ok (.iconst 0, 1) := by decide +kernel
theorem dX6_allows_14 : decode cX6_allows 14 = .ok (.istore_n 2, 1) := by decide +kernel
theorem dX6_allows_15 : decode cX6_allows 15 = .ok (.iconst 0, 1) := by decide +kernel
theorem dX6_allows_16 : decode cX6_allows 16 = .ok (.istore_n 3, 1) := by decide +kernel
theorem dX6_allows_17 : decode cX6_allows 17 = .ok (.iload_n 3, 1) := by decide +kernel
theorem dX6_allows_18 : decode cX6_allows 18 = .ok (.bipush 10, 2) := by decide +kernel
theorem dX6_allows_20 : decode cX6_allows 20 = .ok (.if_icmp .ge 61, 3) := by decide +kernel
theorem dX6_allows_23 : decode cX6_allows 23 = .ok (.iload_n 1, 1) := by decide +kernel
theorem dX6_allows_24 : decode cX6_allows 24 = .ok (.iload_n 3, 1) := by decide +kernel
theorem dX6_allows_25 : decode cX6_allows 25 = .ok (.invokestatic 146, 3) := by decide +kernel
theorem dX6_allows_28 : decode cX6_allows 28 = .ok (.istore 4, 2) := by decide +kernel
theorem dX6_allows_30 : decode cX6_allows 30 = .ok (.iload 4, 2) := by decide +kernel
theorem dX6_allows_32 : decode cX6_allows 32 = .ok (.ifCond .eq 15, 3) := by decide +kernel
theorem dX6_allows_35 : decode cX6_allows 35 = .ok (.aload_n 0, 1) := by decide +kernel
theorem dX6_allows_36 : decode cX6_allows 36 = .ok (.getfield 9, 3) := by decide +kernel
theorem dX6_allows_39 : decode cX6_allows 39 = .ok (.iload_n 3, 1) := by decide +kernel
theorem dX6_allows_40 : decode cX6_allows 40 = .ok (.baload, 1) := by decide +kernel
theorem dX6_allows_41 : decode cX6_allows 41 = .ok (.ifCond .ne 17, 3) := by decide +kernel
theorem dX6_allows_44 : decode cX6_allows 44 = .ok (.goto 12, 3) := by decide +kernel
theorem dX6_allows_47 : decode cX6_allows 47 = .ok (.aload_n 0, 1) := by decide +kernel
theorem dX6_allows_48 : decode cX6_allows 48 = .ok (.getfield 15, 3) := by decide +kernel
theorem dX6_allows_51 : decode cX6_allows 51 = .ok (.iload_n 3, 1) := by decide +kernel
theorem dX6_allows_52 : decode cX6_allows 52 = .ok (.baload, 1) := by decide +kernel
theorem dX6_allows_53 : decode cX6_allows 53 = .ok (.ifCond .ne 5, 3) := by decide +kernel
theorem dX6_allows_56 : decode cX6_allows 56 = .ok (.iconst 0, 1) := by decide +kernel
theorem dX6_allows_57 : decode cX6_allows 57 = .ok (.ireturn, 1) := by decide +kernel
theorem dX6_allows_58 : decode cX6_allows 58 = .ok (.iload_n 2, 1) := by decide +kernel
theorem dX6_allows_59 : decode cX6_allows 59 = .ok (.iload 4, 2) := by decide +kernel
theorem dX6_allows_61 : decode cX6_allows 61 = .ok (.ifCond .eq 11, 3) := by decide +kernel
theorem dX6_allows_64 : decode cX6_allows 64 = .ok (.getstatic 91, 3) := by decide +kernel
theorem dX6_allows_67 : decode cX6_allows 67 = .ok (.iload_n 3, 1) := by decide +kernel
theorem dX6_allows_68 : decode cX6_allows 68 = .ok (.iaload, 1) := by decide +kernel
theorem dX6_allows_69 : decode cX6_allows 69 = .ok (.goto 4, 3) := by decide +kernel
theorem dX6_allows_72 : decode cX6_allows 72 = .ok (.iconst 0, 1) := by decide +kernel
theorem dX6_allows_73 : decode cX6_allows 73 = .ok (.iadd, 1) := by decide +kernel
theorem dX6_allows_74 : decode cX6_allows 74 = .ok (.istore_n 2, 1) := by decide +kernel
theorem dX6_allows_75 : decode cX6_allows 75 = .ok (.iinc 3 1, 3) := by decide +kernel
theorem dX6_allows_78 : decode cX6_allows 78 = .ok (.goto (-61), 3) := by decide +kernel
theorem dX6_allows_81 : decode cX6_allows 81 = .ok (.iload_n 2, 1) := by decide +kernel
theorem dX6_allows_82 : decode cX6_allows 82 = .ok (.bipush 9, 2) := by decide +kernel
theorem dX6_allows_84 : decode cX6_allows 84 = .ok (.if_icmp .gt 19, 3) := by decide +kernel
theorem dX6_allows_87 : decode cX6_allows 87 = .ok (.aload_n 0, 1) := by decide +kernel
theorem dX6_allows_88 : decode cX6_allows 88 = .ok (.iload_n 1, 1) := by decide +kernel
theorem dX6_allows_89 : decode cX6_allows 89 = .ok (.invokevirtual 150, 3) := by decide +kernel
theorem dX6_allows_92 : decode cX6_allows 92 = .ok (.aload_n 0, 1) := by decide +kernel
theorem dX6_allows_93 : decode cX6_allows 93 = .ok (.getfield 34, 3) := by decide +kernel
theorem dX6_allows_96 : decode cX6_allows 96 = .ok (.if_icmp .gt 7, 3) := by decide +kernel
theorem dX6_allows_99 : decode cX6_allows 99 = .ok (.iconst 1, 1) := by decide +kernel
theorem dX6_allows_100 : decode cX6_allows 100 = .ok (.goto 4, 3) := by decide +kernel
theorem dX6_allows_103 : decode cX6_allows 103 = .ok (.iconst 0, 1) := by decide +kernel
theorem dX6_allows_104 : decode cX6_allows 104 = .ok (.ireturn, 1) := by decide +kernel
theorem dX6_needOf_0 : decode cX6_needOf 0 = .ok (.iconst 0, 1) := by decide +kernel
theorem dX6_needOf_1 : decode cX6_needOf 1 = .ok (.istore_n 2, 1) := by decide +kernel
theorem dX6_needOf_2 : decode cX6_needOf 2 = .ok (.iconst 0, 1) := by decide +kernel
theorem dX6_needOf_3 : decode cX6_needOf 3 = .ok (.istore_n 3, 1) := by decide +kernel
theorem dX6_needOf_4 : decode cX6_needOf 4 = .ok (.iload_n 3, 1) := by decide +kernel
theorem dX6_needOf_5 : decode cX6_needOf 5 = .ok (.bipush 10, 2) := by decide +kernel
theorem dX6_needOf_7 : decode cX6_needOf 7 = .ok (.if_icmp .ge 35, 3) := by decide +kernel
theorem dX6_needOf_10 : decode cX6_needOf 10 = .ok (.iload_n 2, 1) := by decide +kernel
theorem dX6_needOf_11 : decode cX6_needOf 11 = .ok (.iload_n 1, 1) := by decide +kernel
theorem dX6_needOf_12 : decode cX6_needOf 12 = .ok (.iload_n 3, 1) := by decide +kernel
theorem dX6_needOf_13 : decode cX6_needOf 13 = .ok (.invokestatic 146, 3) := by decide +kernel
theorem dX6_needOf_16 : decode cX6_needOf 16 = .ok (.ifCond .eq 12, 3) := by decide +kernel
theorem dX6_needOf_19 : decode cX6_needOf 19 = .ok (.aload_n 0, 1) := by decide +kernel
theorem dX6_needOf_20 : decode cX6_needOf 20 = .ok (.getfield 28, 3) := by decide +kernel
theorem dX6_needOf_23 : decode cX6_needOf 23 = .ok (.iload_n 3, 1) := by decide +kernel
theorem dX6_needOf_24 : decode cX6_needOf 24 = .ok (.iaload, 1) := by decide +kernel
theorem dX6_needOf_25 : decode cX6_needOf 25 = .ok (.goto 9, 3) := by decide +kernel
theorem dX6_needOf_28 : decode cX6_needOf 28 = .ok (.aload_n 0, 1) := by decide +kernel
theorem dX6_needOf_29 : decode cX6_needOf 29 = .ok (.getfield 31, 3) := by decide +kernel
theorem dX6_needOf_32 : decode cX6_needOf 32 = .ok (.iload_n 3, 1) := by decide +kernel
theorem dX6_needOf_33 : decode cX6_needOf 33 = .ok (.iaload, 1) := by decide +kernel
theorem dX6_needOf_34 : decode cX6_needOf 34 = .ok (.iadd, 1) := by decide +kernel
theorem dX6_needOf_35 : decode cX6_needOf 35 = .ok (.istore_n 2, 1) := by decide +kernel
theorem dX6_needOf_36 : decode cX6_needOf 36 = .ok (.iinc 3 1, 3) := by decide +kernel
theorem dX6_needOf_39 : decode cX6_needOf 39 = .ok (.goto (-35), 3) := by decide +kernel
theorem dX6_needOf_42 : decode cX6_needOf 42 = .ok (.iload_n 2, 1) := by decide +kernel
theorem dX6_needOf_43 : decode cX6_needOf 43 = .ok (.ireturn, 1) := by decide +kernel
theorem dX6_worthOf_0 : decode cX6_worthOf 0 = .ok (.iconst 0, 1) := by decide +kernel
theorem dX6_worthOf_1 : decode cX6_worthOf 1 = .ok (.istore_n 2, 1) := by decide +kernel
theorem dX6_worthOf_2 : decode cX6_worthOf 2 = .ok (.iconst 0, 1) := by decide +kernel
theorem dX6_worthOf_3 : decode cX6_worthOf 3 = .ok (.istore_n 3, 1) := by decide +kernel
theorem dX6_worthOf_4 : decode cX6_worthOf 4 = .ok (.iload_n 3, 1) := by decide +kernel
theorem dX6_worthOf_5 : decode cX6_worthOf 5 = .ok (.bipush 10, 2) := by decide +kernel
theorem dX6_worthOf_7 : decode cX6_worthOf 7 = .ok (.if_icmp .ge 35, 3) := by decide +kernel
theorem dX6_worthOf_10 : decode cX6_worthOf 10 = .ok (.iload_n 2, 1) := by decide +kernel
theorem dX6_worthOf_11 : decode cX6_worthOf 11 = .ok (.iload_n 1, 1) := by decide +kernel
theorem dX6_worthOf_12 : decode cX6_worthOf 12 = .ok (.iload_n 3, 1) := by decide +kernel
theorem dX6_worthOf_13 : decode cX6_worthOf 13 = .ok (.invokestatic 146, 3) := by decide +kernel
theorem dX6_worthOf_16 : decode cX6_worthOf 16 = .ok (.ifCond .eq 12, 3) := by decide +kernel
theorem dX6_worthOf_19 : decode cX6_worthOf 19 = .ok (.aload_n 0, 1) := by decide +kernel
theorem dX6_worthOf_20 : decode cX6_worthOf 20 = .ok (.getfield 21, 3) := by decide +kernel
theorem dX6_worthOf_23 : decode cX6_worthOf 23 = .ok (.iload_n 3, 1) := by decide +kernel
theorem dX6_worthOf_24 : decode cX6_worthOf 24 = .ok (.iaload, 1) := by decide +kernel
theorem dX6_worthOf_25 : decode cX6_worthOf 25 = .ok (.goto 9, 3) := by decide +kernel
theorem dX6_worthOf_28 : decode cX6_worthOf 28 = .ok (.aload_n 0, 1) := by decide +kernel
theorem dX6_worthOf_29 : decode cX6_worthOf 29 = .ok (.getfield 25, 3) := by decide +kernel
theorem dX6_worthOf_32 : decode cX6_worthOf 32 = .ok (.iload_n 3, 1) := by decide +kernel
theorem dX6_worthOf_33 : decode cX6_worthOf 33 = .ok (.iaload, 1) := by decide +kernel
theorem dX6_worthOf_34 : decode cX6_worthOf 34 = .ok (.iadd, 1) := by decide +kernel
theorem dX6_worthOf_35 : decode cX6_worthOf 35 = .ok (.istore_n 2, 1) := by decide +kernel
theorem dX6_worthOf_36 : decode cX6_worthOf 36 = .ok (.iinc 3 1, 3) := by decide +kernel
theorem dX6_worthOf_39 : decode cX6_worthOf 39 = .ok (.goto (-35), 3) := by decide +kernel
theorem dX6_worthOf_42 : decode cX6_worthOf 42 = .ok (.iload_n 2, 1) := by decide +kernel
theorem dX6_worthOf_43 : decode cX6_worthOf 43 = .ok (.ireturn, 1) := by decide +kernel
theorem dX6_listMoves_0 : decode cX6_listMoves 0 = .ok (.aload_n 0, 1) := by decide +kernel
theorem dX6_listMoves_1 : decode cX6_listMoves 1 = .ok (.iconst 0, 1) := by decide +kernel
theorem dX6_listMoves_2 : decode cX6_listMoves 2 = .ok (.putfield 51, 3) := by decide +kernel
theorem dX6_listMoves_5 : decode cX6_listMoves 5 = .ok (.iconst 0, 1) := by decide +kernel
theorem dX6_listMoves_6 : decode cX6_listMoves 6 = .ok (.istore_n 2, 1) := by decide +kernel
theorem dX6_listMoves_7 : decode cX6_listMoves 7 = .ok (.iload_n 2, 1) := by decide +kernel
theorem dX6_listMoves_8 : decode cX6_listMoves 8 = .ok (.bipush 10, 2) := by decide +kernel
theorem dX6_listMoves_10 : decode cX6_listMoves 10 = .ok (.if_icmp .ge 59, 3) := by decide +kernel
theorem dX6_listMoves_13 : decode cX6_listMoves 13 = .ok (.aload_n 0, 1) := by decide +kernel
theorem dX6_listMoves_14 : decode cX6_listMoves 14 = .ok (.getfield 18, 3) := by decide +kernel
theorem dX6_listMoves_17 : decode cX6_listMoves 17 = .ok (.iload_n 2, 1) := by decide +kernel
theorem dX6_listMoves_18 : decode cX6_listMoves 18 = .ok (.baload, 1) := by decide +kernel
theorem dX6_listMoves_19 : decode cX6_listMoves 19 = .ok (.ifCond .ne 44, 3) := by decide +kernel
theorem dX6_listMoves_22 : decode cX6_listMoves 22 = .ok (.aload_n 1, 1) := by decide +kernel
theorem dX6_listMoves_23 : decode cX6_listMoves 23 = .ok (.getfield 76, 3) := by decide +kernel
theorem dX6_listMoves_26 : decode cX6_listMoves 26 = .ok (.iload_n 2, 1) := by decide +kernel
theorem dX6_listMoves_27 : decode cX6_listMoves 27 = .ok (.iaload, 1) := by decide +kernel
theorem dX6_listMoves_28 : decode cX6_listMoves 28 = .ok (.iconst 1, 1) := by decide +kernel
theorem dX6_listMoves_29 : decode cX6_listMoves 29 = .ok (.if_icmp .ne 34, 3) := by decide +kernel
theorem dX6_listMoves_32 : decode cX6_listMoves 32 = .ok (.aload_n 0, 1) := by decide +kernel
theorem dX6_listMoves_33 : decode cX6_listMoves 33 = .ok (.getfield 42, 3) := by decide +kernel
theorem dX6_listMoves_36 : decode cX6_listMoves 36 = .ok (.iload_n 2, 1) := by decide +kernel
theorem dX6_listMoves_37 : decode cX6_listMoves 37 = .ok (.invokestatic 146, 3) := by decide +kernel
theorem dX6_listMoves_40 : decode cX6_listMoves 40 = .ok (.ifCond .ne 23, 3) := by decide +kernel
theorem dX6_listMoves_43 : decode cX6_listMoves 43 = .ok (.aload_n 0, 1) := by decide +kernel
theorem dX6_listMoves_44 : decode cX6_listMoves 44 = .ok (.getfield 48, 3) := by decide +kernel
theorem dX6_listMoves_47 : decode cX6_listMoves 47 = .ok (.aload_n 0, 1) := by decide +kernel
theorem dX6_listMoves_48 : decode cX6_listMoves 48 = .ok (.getfield 51, 3) := by decide +kernel
theorem dX6_listMoves_51 : decode cX6_listMoves 51 = .ok (.iload_n 2, 1) := by decide +kernel
theorem dX6_listMoves_52 : decode cX6_listMoves 52 = .ok (.iastore, 1) := by decide +kernel
theorem dX6_listMoves_53 : decode cX6_listMoves 53 = .ok (.aload_n 0, 1) := by decide +kernel
theorem dX6_listMoves_54 : decode cX6_listMoves 54 = .ok (.dup, 1) := by decide +kernel
theorem dX6_listMoves_55 : decode cX6_listMoves 55 = .ok (.getfield 51, 3) := by decide +kernel
theorem dX6_listMoves_58 : decode cX6_listMoves 58 = .ok (.iconst 1, 1) := by decide +kernel
theorem dX6_listMoves_59 : decode cX6_listMoves 59 = .ok (.iadd, 1) := by decide +kernel
theorem dX6_listMoves_60 : decode cX6_listMoves 60 = .ok (.putfield 51, 3) := by decide +kernel
theorem dX6_listMoves_63 : decode cX6_listMoves 63 = .ok (.iinc 2 1, 3) := by decide +kernel
theorem dX6_listMoves_66 : decode cX6_listMoves 66 = .ok (.goto (-59), 3) := by decide +kernel
theorem dX6_listMoves_69 : decode cX6_listMoves 69 = .ok (.aload_n 0, 1) := by decide +kernel
theorem dX6_listMoves_70 : decode cX6_listMoves 70 = .ok (.getfield 51, 3) := by decide +kernel
theorem dX6_listMoves_73 : decode cX6_listMoves 73 = .ok (.istore_n 2, 1) := by decide +kernel
theorem dX6_listMoves_74 : decode cX6_listMoves 74 = .ok (.iconst 0, 1) := by decide +kernel
theorem dX6_listMoves_75 : decode cX6_listMoves 75 = .ok (.istore_n 3, 1) := by decide +kernel
theorem dX6_listMoves_76 : decode cX6_listMoves 76 = .ok (.iload_n 3, 1) := by decide +kernel
theorem dX6_listMoves_77 : decode cX6_listMoves 77 = .ok (.bipush 10, 2) := by decide +kernel
theorem dX6_listMoves_79 : decode cX6_listMoves 79 = .ok (.if_icmp .ge 107, 3) := by decide +kernel
theorem dX6_listMoves_82 : decode cX6_listMoves 82 = .ok (.aload_n 0, 1) := by decide +kernel
theorem dX6_listMoves_83 : decode cX6_listMoves 83 = .ok (.getfield 18, 3) := by decide +kernel
theorem dX6_listMoves_86 : decode cX6_listMoves 86 = .ok (.iload_n 3, 1) := by decide +kernel
theorem dX6_listMoves_87 : decode cX6_listMoves 87 = .ok (.baload, 1) := by decide +kernel
theorem dX6_listMoves_88 : decode cX6_listMoves 88 = .ok (.ifCond .ne 92, 3) := by decide +kernel
theorem dX6_listMoves_91 : decode cX6_listMoves 91 = .ok (.aload_n 1, 1) := by decide +kernel
theorem dX6_listMoves_92 : decode cX6_listMoves 92 = .ok (.getfield 76, 3) := by decide +kernel
theorem dX6_listMoves_95 : decode cX6_listMoves 95 = .ok (.iload_n 3, 1) := by decide +kernel
theorem dX6_listMoves_96 : decode cX6_listMoves 96 = .ok (.iaload, 1) := by decide +kernel
theorem dX6_listMoves_97 : decode cX6_listMoves 97 = .ok (.ifCond .ne 83, 3) := by decide +kernel
theorem dX6_listMoves_100 : decode cX6_listMoves 100 = .ok (.aload_n 0, 1) := by decide +kernel
theorem dX6_listMoves_101 : decode cX6_listMoves 101 = .ok (.getfield 42, 3) := by decide +kernel
theorem dX6_listMoves_104 : decode cX6_listMoves 104 = .ok (.iload_n 3, 1) := by decide +kernel
theorem dX6_listMoves_105 : decode cX6_listMoves 105 = .ok (.invokestatic 146, 3) := by decide +kernel
theorem dX6_listMoves_108 : decode cX6_listMoves 108 = .ok (.ifCond .eq 72, 3) := by decide +kernel
theorem dX6_listMoves_111 : decode cX6_listMoves 111 = .ok (.aload_n 0, 1) := by decide +kernel
theorem dX6_listMoves_112 : decode cX6_listMoves 112 = .ok (.getfield 51, 3) := by decide +kernel
theorem dX6_listMoves_115 : decode cX6_listMoves 115 = .ok (.istore 4, 2) := by decide +kernel
theorem dX6_listMoves_117 : decode cX6_listMoves 117 = .ok (.iload 4, 2) := by decide +kernel
theorem dX6_listMoves_119 : decode cX6_listMoves 119 = .ok (.iload_n 2, 1) := by decide +kernel
theorem dX6_listMoves_120 : decode cX6_listMoves 120 = .ok (.if_icmp .le 42, 3) := by decide +kernel
theorem dX6_listMoves_123 : decode cX6_listMoves 123 = .ok (.aload_n 1, 1) := by decide +kernel
theorem dX6_listMoves_124 : decode cX6_listMoves 124 = .ok (.iload_n 3, 1) := by decide +kernel
theorem dX6_listMoves_125 : decode cX6_listMoves 125 = .ok (.aload_n 0, 1) := by decide +kernel
theorem dX6_listMoves_126 : decode cX6_listMoves 126 = .ok (.getfield 48, 3) := by decide +kernel
theorem dX6_listMoves_129 : decode cX6_listMoves 129 = .ok (.iload 4, 2) := by decide +kernel
theorem dX6_listMoves_131 : decode cX6_listMoves 131 = .ok (.iconst 1, 1) := by decide +kernel
theorem dX6_listMoves_132 : decode cX6_listMoves 132 = .ok (.isub, 1) := by decide +kernel
theorem dX6_listMoves_133 : decode cX6_listMoves 133 = .ok (.iaload, 1) := by decide +kernel
theorem dX6_listMoves_134 : decode cX6_listMoves 134 = .ok (.invokevirtual 153, 3) := by decide +kernel
theorem dX6_listMoves_137 : decode cX6_listMoves 137 = .ok (.ifCond .eq 25, 3) := by decide +kernel
theorem dX6_listMoves_140 : decode cX6_listMoves 140 = .ok (.aload_n 0, 1) := by decide +kernel
theorem dX6_listMoves_141 : decode cX6_listMoves 141 = .ok (.getfield 48, 3) := by decide +kernel
theorem dX6_listMoves_144 : decode cX6_listMoves 144 = .ok (.iload 4, 2) := by decide +kernel
theorem dX6_listMoves_146 : decode cX6_listMoves 146 = .ok (.aload_n 0, 1) := by decide +kernel
theorem dX6_listMoves_147 : decode cX6_listMoves 147 = .ok (.getfield 48, 3) := by decide +kernel
theorem dX6_listMoves_150 : decode cX6_listMoves 150 = .ok (.iload 4, 2) := by decide +kernel
theorem dX6_listMoves_152 : decode cX6_listMoves 152 = .ok (.iconst 1, 1) := by decide +kernel
theorem dX6_listMoves_153 : decode cX6_listMoves 153 = .ok (.isub, 1) := by decide +kernel
theorem dX6_listMoves_154 : decode cX6_listMoves 154 = .ok (.iaload, 1) := by decide +kernel
theorem dX6_listMoves_155 : decode cX6_listMoves 155 = .ok (.iastore, 1) := by decide +kernel
theorem dX6_listMoves_156 : decode cX6_listMoves 156 = .ok (.iinc 4 (-1), 3) := by decide +kernel
theorem dX6_listMoves_159 : decode cX6_listMoves 159 = .ok (.goto (-42), 3) := by decide +kernel
theorem dX6_listMoves_162 : decode cX6_listMoves 162 = .ok (.aload_n 0, 1) := by decide +kernel
theorem dX6_listMoves_163 : decode cX6_listMoves 163 = .ok (.getfield 48, 3) := by decide +kernel
theorem dX6_listMoves_166 : decode cX6_listMoves 166 = .ok (.iload 4, 2) := by decide +kernel
theorem dX6_listMoves_168 : decode cX6_listMoves 168 = .ok (.iload_n 3, 1) := by decide +kernel
theorem dX6_listMoves_169 : decode cX6_listMoves 169 = .ok (.iastore, 1) := by decide +kernel
theorem dX6_listMoves_170 : decode cX6_listMoves 170 = .ok (.aload_n 0, 1) := by decide +kernel
theorem dX6_listMoves_171 : decode cX6_listMoves 171 = .ok (.dup, 1) := by decide +kernel
theorem dX6_listMoves_172 : decode cX6_listMoves 172 = .ok (.getfield 51, 3) := by decide +kernel
theorem dX6_listMoves_175 : decode cX6_listMoves 175 = .ok (.iconst 1, 1) := by decide +kernel
theorem dX6_listMoves_176 : decode cX6_listMoves 176 = .ok (.iadd, 1) := by decide +kernel
theorem dX6_listMoves_177 : decode cX6_listMoves 177 = .ok (.putfield 51, 3) := by decide +kernel
theorem dX6_listMoves_180 : decode cX6_listMoves 180 = .ok (.iinc 3 1, 3) := by decide +kernel
theorem dX6_listMoves_183 : decode cX6_listMoves 183 = .ok (.goto (-107), 3) := by decide +kernel
theorem dX6_listMoves_186 : decode cX6_listMoves 186 = .ok (.return_, 1) := by decide +kernel
theorem dX6_leastHeat_0 : decode cX6_leastHeat 0 = .ok (.aload_n 0, 1) := by decide +kernel
theorem dX6_leastHeat_1 : decode cX6_leastHeat 1 = .ok (.aload_n 1, 1) := by decide +kernel
theorem dX6_leastHeat_2 : decode cX6_leastHeat 2 = .ok (.aload_n 1, 1) := by decide +kernel
theorem dX6_leastHeat_3 : decode cX6_leastHeat 3 = .ok (.getfield 84, 3) := by decide +kernel
theorem dX6_leastHeat_6 : decode cX6_leastHeat 6 = .ok (.iconst 5, 1) := by decide +kernel
theorem dX6_leastHeat_7 : decode cX6_leastHeat 7 = .ok (.iaload, 1) := by decide +kernel
theorem dX6_leastHeat_8 : decode cX6_leastHeat 8 = .ok (.invokevirtual 54, 3) := by decide +kernel
theorem dX6_leastHeat_11 : decode cX6_leastHeat 11 = .ok (.aload_n 0, 1) := by decide +kernel
theorem dX6_leastHeat_12 : decode cX6_leastHeat 12 = .ok (.iload_n 2, 1) := by decide +kernel
theorem dX6_leastHeat_13 : decode cX6_leastHeat 13 = .ok (.iconst 0, 1) := by decide +kernel
theorem dX6_leastHeat_14 : decode cX6_leastHeat 14 = .ok (.invokevirtual 156, 3) := by decide +kernel
theorem dX6_leastHeat_17 : decode cX6_leastHeat 17 = .ok (.aload_n 0, 1) := by decide +kernel
theorem dX6_leastHeat_18 : decode cX6_leastHeat 18 = .ok (.invokevirtual 58, 3) := by decide +kernel
theorem dX6_leastHeat_21 : decode cX6_leastHeat 21 = .ok (.istore_n 3, 1) := by decide +kernel
theorem dX6_leastHeat_22 : decode cX6_leastHeat 22 = .ok (.aload_n 0, 1) := by decide +kernel
theorem dX6_leastHeat_23 : decode cX6_leastHeat 23 = .ok (.getfield 42, 3) := by decide +kernel
theorem dX6_leastHeat_26 : decode cX6_leastHeat 26 = .ok (.istore 4, 2) := by decide +kernel
theorem dX6_leastHeat_28 : decode cX6_leastHeat 28 = .ok (.aload_n 0, 1) := by decide +kernel
theorem dX6_leastHeat_29 : decode cX6_leastHeat 29 = .ok (.getfield 45, 3) := by decide +kernel
theorem dX6_leastHeat_32 : decode cX6_leastHeat 32 = .ok (.istore 5, 2) := by decide +kernel
theorem dX6_leastHeat_34 : decode cX6_leastHeat 34 = .ok (.aload_n 0, 1) := by decide +kernel
theorem dX6_leastHeat_35 : decode cX6_leastHeat 35 = .ok (.aload_n 1, 1) := by decide +kernel
theorem dX6_leastHeat_36 : decode cX6_leastHeat 36 = .ok (.aload_n 1, 1) := by decide +kernel
theorem dX6_leastHeat_37 : decode cX6_leastHeat 37 = .ok (.getfield 84, 3) := by decide +kernel
theorem dX6_leastHeat_40 : decode cX6_leastHeat 40 = .ok (.iconst 5, 1) := by decide +kernel
theorem dX6_leastHeat_41 : decode cX6_leastHeat 41 = .ok (.iaload, 1) := by decide +kernel
theorem dX6_leastHeat_42 : decode cX6_leastHeat 42 = .ok (.invokevirtual 54, 3) := by decide +kernel
theorem dX6_leastHeat_45 : decode cX6_leastHeat 45 = .ok (.aload_n 0, 1) := by decide +kernel
theorem dX6_leastHeat_46 : decode cX6_leastHeat 46 = .ok (.iload_n 2, 1) := by decide +kernel
theorem dX6_leastHeat_47 : decode cX6_leastHeat 47 = .ok (.iconst 1, 1) := by decide +kernel
theorem dX6_leastHeat_48 : decode cX6_leastHeat 48 = .ok (.invokevirtual 156, 3) := by decide +kernel
theorem dX6_leastHeat_51 : decode cX6_leastHeat 51 = .ok (.aload_n 0, 1) := by decide +kernel
theorem dX6_leastHeat_52 : decode cX6_leastHeat 52 = .ok (.invokevirtual 58, 3) := by decide +kernel
theorem dX6_leastHeat_55 : decode cX6_leastHeat 55 = .ok (.ifCond .ne 5, 3) := by decide +kernel
theorem dX6_leastHeat_58 : decode cX6_leastHeat 58 = .ok (.iconst (-1), 1) := by decide +kernel
theorem dX6_leastHeat_59 : decode cX6_leastHeat 59 = .ok (.ireturn, 1) := by decide +kernel
theorem dX6_leastHeat_60 : decode cX6_leastHeat 60 = .ok (.iload_n 3, 1) := by decide +kernel
theorem dX6_leastHeat_61 : decode cX6_leastHeat 61 = .ok (.ifCond .ne 5, 3) := by decide +kernel
theorem dX6_leastHeat_64 : decode cX6_leastHeat 64 = .ok (.iconst 0, 1) := by decide +kernel
theorem dX6_leastHeat_65 : decode cX6_leastHeat 65 = .ok (.ireturn, 1) := by decide +kernel
theorem dX6_leastHeat_66 : decode cX6_leastHeat 66 = .ok (.aload_n 1, 1) := by decide +kernel
theorem dX6_leastHeat_67 : decode cX6_leastHeat 67 = .ok (.getfield 72, 3) := by decide +kernel
theorem dX6_leastHeat_70 : decode cX6_leastHeat 70 = .ok (.getfield 76, 3) := by decide +kernel
theorem dX6_leastHeat_73 : decode cX6_leastHeat 73 = .ok (.iload_n 2, 1) := by decide +kernel
theorem dX6_leastHeat_74 : decode cX6_leastHeat 74 = .ok (.iaload, 1) := by decide +kernel
theorem dX6_leastHeat_75 : decode cX6_leastHeat 75 = .ok (.iconst 1, 1) := by decide +kernel
theorem dX6_leastHeat_76 : decode cX6_leastHeat 76 = .ok (.if_icmp .ne 7, 3) := by decide +kernel
theorem dX6_leastHeat_79 : decode cX6_leastHeat 79 = .ok (.iconst 1, 1) := by decide +kernel
theorem dX6_leastHeat_80 : decode cX6_leastHeat 80 = .ok (.goto 4, 3) := by decide +kernel
theorem dX6_leastHeat_83 : decode cX6_leastHeat 83 = .ok (.iconst 0, 1) := by decide +kernel
theorem dX6_leastHeat_84 : decode cX6_leastHeat 84 = .ok (.istore 6, 2) := by decide +kernel
theorem dX6_leastHeat_86 : decode cX6_leastHeat 86 = .ok (.aload_n 0, 1) := by decide +kernel
theorem dX6_leastHeat_87 : decode cX6_leastHeat 87 = .ok (.getfield 45, 3) := by decide +kernel
theorem dX6_leastHeat_90 : decode cX6_leastHeat 90 = .ok (.aload_n 1, 1) := by decide +kernel
theorem dX6_leastHeat_91 : decode cX6_leastHeat 91 = .ok (.getfield 72, 3) := by decide +kernel
theorem dX6_leastHeat_94 : decode cX6_leastHeat 94 = .ok (.getfield 103, 3) := by decide +kernel
theorem dX6_leastHeat_97 : decode cX6_leastHeat 97 = .ok (.iload_n 2, 1) := by decide +kernel
theorem dX6_leastHeat_98 : decode cX6_leastHeat 98 = .ok (.iaload, 1) := by decide +kernel
theorem dX6_leastHeat_99 : decode cX6_leastHeat 99 = .ok (.iload 6, 2) := by decide +kernel
theorem dX6_leastHeat_101 : decode cX6_leastHeat 101 = .ok (.invokestatic 106, 3) := by decide +kernel
theorem dX6_leastHeat_104 : decode cX6_leastHeat 104 = .ok (.isub, 1) := by decide +kernel
theorem dX6_leastHeat_105 : decode cX6_leastHeat 105 = .ok (.istore 7, 2) := by decide +kernel
theorem dX6_leastHeat_107 : decode cX6_leastHeat 107 = .ok (.iload 5, 2) := by decide +kernel
theorem dX6_leastHeat_109 : decode cX6_leastHeat 109 = .ok (.iload 7, 2) := by decide +kernel
theorem dX6_leastHeat_111 : decode cX6_leastHeat 111 = .ok (.isub, 1) := by decide +kernel
theorem dX6_leastHeat_112 : decode cX6_leastHeat 112 = .ok (.aload_n 0, 1) := by decide +kernel
theorem dX6_leastHeat_113 : decode cX6_leastHeat 113 = .ok (.getfield 42, 3) := by decide +kernel
theorem dX6_leastHeat_116 : decode cX6_leastHeat 116 = .ok (.iload 4, 2) := by decide +kernel
theorem dX6_leastHeat_118 : decode cX6_leastHeat 118 = .ok (.if_icmp .ge 7, 3) := by decide +kernel
theorem dX6_leastHeat_121 : decode cX6_leastHeat 121 = .ok (.iconst 0, 1) := by decide +kernel
theorem dX6_leastHeat_122 : decode cX6_leastHeat 122 = .ok (.goto 4, 3) := by decide +kernel
theorem dX6_leastHeat_125 : decode cX6_leastHeat 125 = .ok (.iconst 1, 1) := by decide +kernel
theorem dX6_leastHeat_126 : decode cX6_leastHeat 126 = .ok (.iadd, 1) := by decide +kernel
theorem dX6_leastHeat_127 : decode cX6_leastHeat 127 = .ok (.istore 8, 2) := by decide +kernel
theorem dX6_leastHeat_129 : decode cX6_leastHeat 129 = .ok (.iload 8, 2) := by decide +kernel
theorem dX6_leastHeat_131 : decode cX6_leastHeat 131 = .ok (.iload 6, 2) := by decide +kernel
theorem dX6_leastHeat_133 : decode cX6_leastHeat 133 = .ok (.invokestatic 160, 3) := by decide +kernel
theorem dX6_leastHeat_136 : decode cX6_leastHeat 136 = .ok (.ireturn, 1) := by decide +kernel
theorem dX6_leastHeatOfWorth_0 : decode cX6_leastHeatOfWorth 0 = .ok (.iconst 0, 1) := by decide +kernel
theorem dX6_leastHeatOfWorth_1 : decode cX6_leastHeatOfWorth 1 = .ok (.istore_n 2, 1) := by decide +kernel
theorem dX6_leastHeatOfWorth_2 : decode cX6_leastHeatOfWorth 2 = .ok (.sipush 10000, 3) := by decide +kernel
theorem dX6_leastHeatOfWorth_5 : decode cX6_leastHeatOfWorth 5 = .ok (.istore_n 3, 1) := by decide +kernel
theorem dX6_leastHeatOfWorth_6 : decode cX6_leastHeatOfWorth 6 = .ok (.iconst 0, 1) := by decide +kernel
theorem dX6_leastHeatOfWorth_7 : decode cX6_leastHeatOfWorth 7 = .ok (.istore 4, 2) := by decide +kernel
theorem dX6_leastHeatOfWorth_9 : decode cX6_leastHeatOfWorth 9 = .ok (.iload 4, 2) := by decide +kernel
theorem dX6_leastHeatOfWorth_11 : decode cX6_leastHeatOfWorth 11 = .ok (.bipush 32, 2) := by decide +kernel
theorem dX6_leastHeatOfWorth_13 : decode cX6_leastHeatOfWorth 13 = .ok (.if_icmp .ge 42, 3) := by decide +kernel
theorem dX6_leastHeatOfWorth_16 : decode cX6_leastHeatOfWorth 16 = .ok (.iload_n 2, 1) := by decide +kernel
theorem dX6_leastHeatOfWorth_17 : decode cX6_leastHeatOfWorth 17 = .ok (.iload_n 3, 1) := by decide +kernel
theorem dX6_leastHeatOfWorth_18 : decode cX6_leastHeatOfWorth 18 = .ok (.if_icmp .ge 37, 3) := by decide +kernel
theorem dX6_leastHeatOfWorth_21 : decode cX6_leastHeatOfWorth 21 = .ok (.iload_n 2, 1) := by decide +kernel
theorem dX6_leastHeatOfWorth_22 : decode cX6_leastHeatOfWorth 22 = .ok (.iload_n 3, 1) := by decide +kernel
theorem dX6_leastHeatOfWorth_23 : decode cX6_leastHeatOfWorth 23 = .ok (.iadd, 1) := by decide +kernel
theorem dX6_leastHeatOfWorth_24 : decode cX6_leastHeatOfWorth 24 = .ok (.iconst 2, 1) := by decide +kernel
theorem dX6_leastHeatOfWorth_25 : decode cX6_leastHeatOfWorth 25 = .ok (.idiv, 1) := by decide +kernel
theorem dX6_leastHeatOfWorth_26 : decode cX6_leastHeatOfWorth 26 = .ok (.istore 5, 2) := by decide +kernel
theorem dX6_leastHeatOfWorth_28 : decode cX6_leastHeatOfWorth 28 = .ok (.iload 5, 2) := by decide +kernel
theorem dX6_leastHeatOfWorth_30 : decode cX6_leastHeatOfWorth 30 = .ok (.iload_n 1, 1) := by decide +kernel
theorem dX6_leastHeatOfWorth_31 : decode cX6_leastHeatOfWorth 31 = .ok (.invokestatic 106, 3) := by decide +kernel
theorem dX6_leastHeatOfWorth_34 : decode cX6_leastHeatOfWorth 34 = .ok (.iload_n 0, 1) := by decide +kernel
theorem dX6_leastHeatOfWorth_35 : decode cX6_leastHeatOfWorth 35 = .ok (.if_icmp .lt 9, 3) := by decide +kernel
theorem dX6_leastHeatOfWorth_38 : decode cX6_leastHeatOfWorth 38 = .ok (.iload 5, 2) := by decide +kernel
theorem dX6_leastHeatOfWorth_40 : decode cX6_leastHeatOfWorth 40 = .ok (.istore_n 3, 1) := by decide +kernel
theorem dX6_leastHeatOfWorth_41 : decode cX6_leastHeatOfWorth 41 = .ok (.goto 8, 3) := by decide +kernel
theorem dX6_leastHeatOfWorth_44 : decode cX6_leastHeatOfWorth 44 = .ok (.iload 5, 2) := by decide +kernel
theorem dX6_leastHeatOfWorth_46 : decode cX6_leastHeatOfWorth 46 = .ok (.iconst 1, 1) := by decide +kernel
theorem dX6_leastHeatOfWorth_47 : decode cX6_leastHeatOfWorth 47 = .ok (.iadd, 1) := by decide +kernel
theorem dX6_leastHeatOfWorth_48 : decode cX6_leastHeatOfWorth 48 = .ok (.istore_n 2, 1) := by decide +kernel
theorem dX6_leastHeatOfWorth_49 : decode cX6_leastHeatOfWorth 49 = .ok (.iinc 4 1, 3) := by decide +kernel
theorem dX6_leastHeatOfWorth_52 : decode cX6_leastHeatOfWorth 52 = .ok (.goto (-43), 3) := by decide +kernel
theorem dX6_leastHeatOfWorth_55 : decode cX6_leastHeatOfWorth 55 = .ok (.iload_n 2, 1) := by decide +kernel
theorem dX6_leastHeatOfWorth_56 : decode cX6_leastHeatOfWorth 56 = .ok (.sipush 9999, 3) := by decide +kernel
theorem dX6_leastHeatOfWorth_59 : decode cX6_leastHeatOfWorth 59 = .ok (.if_icmp .le 7, 3) := by decide +kernel
theorem dX6_leastHeatOfWorth_62 : decode cX6_leastHeatOfWorth 62 = .ok (.iconst (-1), 1) := by decide +kernel
theorem dX6_leastHeatOfWorth_63 : decode cX6_leastHeatOfWorth 63 = .ok (.goto 4, 3) := by decide +kernel
theorem dX6_leastHeatOfWorth_66 : decode cX6_leastHeatOfWorth 66 = .ok (.iload_n 2, 1) := by decide +kernel
theorem dX6_leastHeatOfWorth_67 : decode cX6_leastHeatOfWorth 67 = .ok (.ireturn, 1) := by decide +kernel
theorem dX7_init_0 : decode cX7_init 0 = .ok (.aload_n 0, 1) := by decide +kernel
theorem dX7_init_1 : decode cX7_init 1 = .ok (.invokespecial 3, 3) := by decide +kernel
theorem dX7_init_4 : decode cX7_init 4 = .ok (.aload_n 0, 1) := by decide +kernel
theorem dX7_init_5 : decode cX7_init 5 = .ok (.aconst_null, 1) := by decide +kernel
theorem dX7_init_6 : decode cX7_init 6 = .ok (.putfield 9, 3) := by decide +kernel
theorem dX7_init_9 : decode cX7_init 9 = .ok (.aload_n 0, 1) := by decide +kernel
theorem dX7_init_10 : decode cX7_init 10 = .ok (.aconst_null, 1) := by decide +kernel
theorem dX7_init_11 : decode cX7_init 11 = .ok (.putfield 15, 3) := by decide +kernel
theorem dX7_init_14 : decode cX7_init 14 = .ok (.aload_n 0, 1) := by decide +kernel
theorem dX7_init_15 : decode cX7_init 15 = .ok (.aconst_null, 1) := by decide +kernel
theorem dX7_init_16 : decode cX7_init 16 = .ok (.putfield 19, 3) := by decide +kernel
theorem dX7_init_19 : decode cX7_init 19 = .ok (.aload_n 0, 1) := by decide +kernel
theorem dX7_init_20 : decode cX7_init 20 = .ok (.iconst 0, 1) := by decide +kernel
theorem dX7_init_21 : decode cX7_init 21 = .ok (.putfield 23, 3) := by decide +kernel
theorem dX7_init_24 : decode cX7_init 24 = .ok (.aload_n 0, 1) := by decide +kernel
theorem dX7_init_25 : decode cX7_init 25 = .ok (.iconst 0, 1) := by decide +kernel
theorem dX7_init_26 : decode cX7_init 26 = .ok (.putfield 27, 3) := by decide +kernel
theorem dX7_init_29 : decode cX7_init 29 = .ok (.aload_n 0, 1) := by decide +kernel
theorem dX7_init_30 : decode cX7_init 30 = .ok (.iconst 0, 1) := by decide +kernel
theorem dX7_init_31 : decode cX7_init 31 = .ok (.putfield 30, 3) := by decide +kernel
theorem dX7_init_34 : decode cX7_init 34 = .ok (.aload_n 0, 1) := by decide +kernel
theorem dX7_init_35 : decode cX7_init 35 = .ok (.iconst 3, 1) := by decide +kernel
theorem dX7_init_36 : decode cX7_init 36 = .ok (.newarray .int, 2) := by decide +kernel
theorem dX7_init_38 : decode cX7_init 38 = .ok (.putfield 33, 3) := by decide +kernel
theorem dX7_init_41 : decode cX7_init 41 = .ok (.aload_n 0, 1) := by decide +kernel
theorem dX7_init_42 : decode cX7_init 42 = .ok (.iconst 3, 1) := by decide +kernel
theorem dX7_init_43 : decode cX7_init 43 = .ok (.newarray .int, 2) := by decide +kernel
theorem dX7_init_45 : decode cX7_init 45 = .ok (.putfield 37, 3) := by decide +kernel
theorem dX7_init_48 : decode cX7_init 48 = .ok (.return_, 1) := by decide +kernel
theorem dX7_play_0 : decode cX7_play 0 = .ok (.aload_n 0, 1) := by decide +kernel
theorem dX7_play_1 : decode cX7_play 1 = .ok (.aload_n 1, 1) := by decide +kernel
theorem dX7_play_2 : decode cX7_play 2 = .ok (.putfield 9, 3) := by decide +kernel
theorem dX7_play_5 : decode cX7_play 5 = .ok (.aload_n 0, 1) := by decide +kernel
theorem dX7_play_6 : decode cX7_play 6 = .ok (.aload_n 2, 1) := by decide +kernel
theorem dX7_play_7 : decode cX7_play 7 = .ok (.putfield 15, 3) := by decide +kernel
theorem dX7_play_10 : decode cX7_play 10 = .ok (.aload_n 0, 1) := by decide +kernel
theorem dX7_play_11 : decode cX7_play 11 = .ok (.aload_n 3, 1) := by decide +kernel
theorem dX7_play_12 : decode cX7_play 12 = .ok (.putfield 19, 3) := by decide +kernel
theorem dX7_play_15 : decode cX7_play 15 = .ok (.aload_n 0, 1) := by decide +kernel
theorem dX7_play_16 : decode cX7_play 16 = .ok (.iconst 0, 1) := by decide +kernel
theorem dX7_play_17 : decode cX7_play 17 = .ok (.putfield 23, 3) := by decide +kernel
theorem dX7_play_20 : decode cX7_play 20 = .ok (.aload_n 0, 1) := by decide +kernel
theorem dX7_play_21 : decode cX7_play 21 = .ok (.iconst 0, 1) := by decide +kernel
theorem dX7_play_22 : decode cX7_play 22 = .ok (.putfield 27, 3) := by decide +kernel
theorem dX7_play_25 : decode cX7_play 25 = .ok (.aload_n 0, 1) := by decide +kernel
theorem dX7_play_26 : decode cX7_play 26 = .ok (.iconst 0, 1) := by decide +kernel
theorem dX7_play_27 : decode cX7_play 27 = .ok (.putfield 30, 3) := by decide +kernel
theorem dX7_play_30 : decode cX7_play 30 = .ok (.iconst 0, 1) := by decide +kernel
theorem dX7_play_31 : decode cX7_play 31 = .ok (.istore 4, 2) := by decide +kernel
theorem dX7_play_33 : decode cX7_play 33 = .ok (.iload 4, 2) := by decide +kernel
theorem dX7_play_35 : decode cX7_play 35 = .ok (.ldc 40, 2) := by decide +kernel
theorem dX7_play_37 : decode cX7_play 37 = .ok (.if_icmp .ge 37, 3) := by decide +kernel
theorem dX7_play_40 : decode cX7_play 40 = .ok (.aload_n 0, 1) := by decide +kernel
theorem dX7_play_41 : decode cX7_play 41 = .ok (.getfield 27, 3) := by decide +kernel
theorem dX7_play_44 : decode cX7_play 44 = .ok (.sipush 300, 3) := by decide +kernel
theorem dX7_play_47 : decode cX7_play 47 = .ok (.if_icmp .ge 27, 3) := by decide +kernel
theorem dX7_play_50 : decode cX7_play 50 = .ok (.aload_n 0, 1) := by decide +kernel
theorem dX7_play_51 : decode cX7_play 51 = .ok (.getfield 23, 3) := by decide +kernel
theorem dX7_play_54 : decode cX7_play 54 = .ok (.aload_n 0, 1) := by decide +kernel
theorem dX7_play_55 : decode cX7_play 55 = .ok (.getfield 9, 3) := by decide +kernel
theorem dX7_play_58 : decode cX7_play 58 = .ok (.getfield 41, 3) := by decide +kernel
theorem dX7_play_61 : decode cX7_play 61 = .ok (.if_icmp .ge 13, 3) := by decide +kernel
theorem dX7_play_64 : decode cX7_play 64 = .ok (.aload_n 0, 1) := by decide +kernel
theorem dX7_play_65 : decode cX7_play 65 = .ok (.invokevirtual 46, 3) := by decide +kernel
theorem dX7_play_68 : decode cX7_play 68 = .ok (.iinc 4 1, 3) := by decide +kernel
theorem dX7_play_71 : decode cX7_play 71 = .ok (.goto (-38), 3) := by decide +kernel
theorem dX7_play_74 : decode cX7_play 74 = .ok (.aload_n 0, 1) := by decide +kernel
theorem dX7_play_75 : decode cX7_play 75 = .ok (.getfield 27, 3) := by decide +kernel
theorem dX7_play_78 : decode cX7_play 78 = .ok (.ireturn, 1) := by decide +kernel
theorem dX7_statement_0 : decode cX7_statement 0 = .ok (.aload_n 0, 1) := by decide +kernel
theorem dX7_statement_1 : decode cX7_statement 1 = .ok (.getfield 9, 3) := by decide +kernel
theorem dX7_statement_4 : decode cX7_statement 4 = .ok (.aload_n 0, 1) := by decide +kernel
theorem dX7_statement_5 : decode cX7_statement 5 = .ok (.getfield 23, 3) := by decide +kernel
theorem dX7_statement_8 : decode cX7_statement 8 = .ok (.invokevirtual 49, 3) := by decide +kernel
theorem dX7_statement_11 : decode cX7_statement 11 = .ok (.istore_n 1, 1) := by decide +kernel
theorem dX7_statement_12 : decode cX7_statement 12 = .ok (.aload_n 0, 1) := by decide +kernel
theorem dX7_statement_13 : decode cX7_statement 13 = .ok (.dup, 1) := by decide +kernel
theorem dX7_statement_14 : decode cX7_statement 14 = .ok (.getfield 23, 3) := by decide +kernel
theorem dX7_statement_17 : decode cX7_statement 17 = .ok (.iconst 1, 1) := by decide +kernel
theorem dX7_statement_18 : decode cX7_statement 18 = .ok (.iadd, 1) := by decide +kernel
theorem dX7_statement_19 : decode cX7_statement 19 = .ok (.putfield 23, 3) := by decide +kernel
theorem dX7_statement_22 : decode cX7_statement 22 = .ok (.iload_n 1, 1) := by decide +kernel
theorem dX7_statement_23 : decode cX7_statement 23 = .ok (.tableswitch 162 4 10 #[41, 48, 55, 62, 96, 127, 155], 41) := by decide +kernel
theorem dX7_statement_64 : decode cX7_statement 64 = .ok (.aload_n 0, 1) := by decide +kernel
theorem dX7_statement_65 : decode cX7_statement 65 = .ok (.invokevirtual 53, 3) := by decide +kernel
theorem dX7_statement_68 : decode cX7_statement 68 = .ok (.goto 121, 3) := by decide +kernel
theorem dX7_statement_71 : decode cX7_statement 71 = .ok (.aload_n 0, 1) := by decide +kernel
theorem dX7_statement_72 : decode cX7_statement 72 = .ok (.invokevirtual 56, 3) := by decide +kernel
theorem dX7_statement_75 : decode cX7_statement 75 = .ok (.goto 114, 3) := by decide +kernel
theorem dX7_statement_78 : decode cX7_statement 78 = .ok (.aload_n 0, 1) := by decide +kernel
theorem dX7_statement_79 : decode cX7_statement 79 = .ok (.invokevirtual 59, 3) := by decide +kernel
theorem dX7_statement_82 : decode cX7_statement 82 = .ok (.goto 107, 3) := by decide +kernel
theorem dX7_statement_85 : decode cX7_statement 85 = .ok (.aload_n 0, 1) := by decide +kernel
theorem dX7_statement_86 : decode cX7_statement 86 = .ok (.getfield 15, 3) := by decide +kernel
theorem dX7_statement_89 : decode cX7_statement 89 = .ok (.aload_n 0, 1) := by decide +kernel
theorem dX7_statement_90 : decode cX7_statement 90 = .ok (.getfield 19, 3) := by decide +kernel
theorem dX7_statement_93 : decode cX7_statement 93 = .ok (.invokevirtual 62, 3) := by decide +kernel
theorem dX7_statement_96 : decode cX7_statement 96 = .ok (.aload_n 0, 1) := by decide +kernel
theorem dX7_statement_97 : decode cX7_statement 97 = .ok (.dup, 1) := by decide +kernel
theorem dX7_statement_98 : decode cX7_statement 98 = .ok (.getfield 27, 3) := by decide +kernel
theorem dX7_statement_101 : decode cX7_statement 101 = .ok (.iconst 1, 1) := by decide +kernel
theorem dX7_statement_102 : decode cX7_statement 102 = .ok (.iadd, 1) := by decide +kernel
theorem dX7_statement_103 : decode cX7_statement 103 = .ok (.putfield 27, 3) := by decide +kernel
theorem dX7_statement_106 : decode cX7_statement 106 = .ok (.aload_n 0, 1) := by decide +kernel
theorem dX7_statement_107 : decode cX7_statement 107 = .ok (.dup, 1) := by decide +kernel
theorem dX7_statement_108 : decode cX7_statement 108 = .ok (.getfield 23, 3) := by decide +kernel
theorem dX7_statement_111 : decode cX7_statement 111 = .ok (.iconst 1, 1) := by decide +kernel
theorem dX7_statement_112 : decode cX7_statement 112 = .ok (.iadd, 1) := by decide +kernel
theorem dX7_statement_113 : decode cX7_statement 113 = .ok (.putfield 23, 3) := by decide +kernel
theorem dX7_statement_116 : decode cX7_statement 116 = .ok (.goto 73, 3) := by decide +kernel
theorem dX7_statement_119 : decode cX7_statement 119 = .ok (.aload_n 0, 1) := by decide +kernel
theorem dX7_statement_120 : decode cX7_statement 120 = .ok (.getfield 15, 3) := by decide +kernel
theorem dX7_statement_123 : decode cX7_statement 123 = .ok (.invokevirtual 68, 3) := by decide +kernel
theorem dX7_statement_126 : decode cX7_statement 126 = .ok (.pop, 1) := by decide +kernel
theorem dX7_statement_127 : decode cX7_statement 127 = .ok (.aload_n 0, 1) := by decide +kernel
theorem dX7_statement_128 : decode cX7_statement 128 = .ok (.dup, 1) := by decide +kernel
theorem dX7_statement_129 : decode cX7_statement 129 = .ok (.getfield 27, 3) := by decide +kernel
theorem dX7_statement_132 : decode cX7_statement 132 = .ok (.iconst 1, 1) := by decide +kernel
theorem dX7_statement_133 : decode cX7_statement 133 = .ok (.iadd, 1) := by decide +kernel
theorem dX7_statement_134 : decode cX7_statement 134 = .ok (.putfield 27, 3) := by decide +kernel
theorem dX7_statement_137 : decode cX7_statement 137 = .ok (.aload_n 0, 1) := by decide +kernel
theorem dX7_statement_138 : decode cX7_statement 138 = .ok (.dup, 1) := by decide +kernel
theorem dX7_statement_139 : decode cX7_statement 139 = .ok (.getfield 23, 3) := by decide +kernel
theorem dX7_statement_142 : decode cX7_statement 142 = .ok (.iconst 1, 1) := by decide +kernel
theorem dX7_statement_143 : decode cX7_statement 143 = .ok (.iadd, 1) := by decide +kernel
theorem dX7_statement_144 : decode cX7_statement 144 = .ok (.putfield 23, 3) := by decide +kernel
theorem dX7_statement_147 : decode cX7_statement 147 = .ok (.goto 42, 3) := by decide +kernel
theorem dX7_statement_150 : decode cX7_statement 150 = .ok (.aload_n 0, 1) := by decide +kernel
theorem dX7_statement_151 : decode cX7_statement 151 = .ok (.aload_n 0, 1) := by decide +kernel
theorem dX7_statement_152 : decode cX7_statement 152 = .ok (.getfield 9, 3) := by decide +kernel
theorem dX7_statement_155 : decode cX7_statement 155 = .ok (.aload_n 0, 1) := by decide +kernel
theorem dX7_statement_156 : decode cX7_statement 156 = .ok (.getfield 23, 3) := by decide +kernel
theorem dX7_statement_159 : decode cX7_statement 159 = .ok (.invokevirtual 72, 3) := by decide +kernel
theorem dX7_statement_162 : decode cX7_statement 162 = .ok (.invokevirtual 75, 3) := by decide +kernel
theorem dX7_statement_165 : decode cX7_statement 165 = .ok (.aload_n 0, 1) := by decide +kernel
theorem dX7_statement_166 : decode cX7_statement 166 = .ok (.dup, 1) := by decide +kernel
theorem dX7_statement_167 : decode cX7_statement 167 = .ok (.getfield 23, 3) := by decide +kernel
theorem dX7_statement_170 : decode cX7_statement 170 = .ok (.iconst 2, 1) := by decide +kernel
theorem dX7_statement_171 : decode cX7_statement 171 = .ok (.iadd, 1) := by decide +kernel
theorem dX7_statement_172 : decode cX7_statement 172 = .ok (.putfield 23, 3) := by decide +kernel
theorem dX7_statement_175 : decode cX7_statement 175 = .ok (.goto 14, 3) := by decide +kernel
theorem dX7_statement_178 : decode cX7_statement 178 = .ok (.aload_n 0, 1) := by decide +kernel
theorem dX7_statement_179 : decode cX7_statement 179 = .ok (.invokevirtual 79, 3) := by decide +kernel
theorem dX7_statement_182 : decode cX7_statement 182 = .ok (.goto 7, 3) := by decide +kernel
theorem dX7_statement_185 : decode cX7_statement 185 = .ok (.aload_n 0, 1) := by decide +kernel
theorem dX7_statement_186 : decode cX7_statement 186 = .ok (.invokevirtual 82, 3) := by decide +kernel
theorem dX7_statement_189 : decode cX7_statement 189 = .ok (.return_, 1) := by decide +kernel
theorem dX7_readOne_0 : decode cX7_readOne 0 = .ok (.aload_n 0, 1) := by decide +kernel
theorem dX7_readOne_1 : decode cX7_readOne 1 = .ok (.invokevirtual 85, 3) := by decide +kernel
theorem dX7_readOne_4 : decode cX7_readOne 4 = .ok (.bipush 10, 2) := by decide +kernel
theorem dX7_readOne_6 : decode cX7_readOne 6 = .ok (.irem, 1) := by decide +kernel
theorem dX7_readOne_7 : decode cX7_readOne 7 = .ok (.istore_n 1, 1) := by decide +kernel
theorem dX7_readOne_8 : decode cX7_readOne 8 = .ok (.aload_n 0, 1) := by decide +kernel
theorem dX7_readOne_9 : decode cX7_readOne 9 = .ok (.invokevirtual 85, 3) := by decide +kernel
theorem dX7_readOne_12 : decode cX7_readOne 12 = .ok (.getstatic 88, 3) := by decide +kernel
theorem dX7_readOne_15 : decode cX7_readOne 15 = .ok (.iload_n 1, 1) := by decide +kernel
theorem dX7_readOne_16 : decode cX7_readOne 16 = .ok (.iaload, 1) := by decide +kernel
theorem dX7_readOne_17 : decode cX7_readOne 17 = .ok (.irem, 1) := by decide +kernel
theorem dX7_readOne_18 : decode cX7_readOne 18 = .ok (.istore_n 2, 1) := by decide +kernel
theorem dX7_readOne_19 : decode cX7_readOne 19 = .ok (.aload_n 0, 1) := by decide +kernel
theorem dX7_readOne_20 : decode cX7_readOne 20 = .ok (.getfield 15, 3) := by decide +kernel
theorem dX7_readOne_23 : decode cX7_readOne 23 = .ok (.iload_n 1, 1) := by decide +kernel
theorem dX7_readOne_24 : decode cX7_readOne 24 = .ok (.iload_n 2, 1) := by decide +kernel
theorem dX7_readOne_25 : decode cX7_readOne 25 = .ok (.invokevirtual 91, 3) := by decide +kernel
theorem dX7_readOne_28 : decode cX7_readOne 28 = .ok (.pop, 1) := by decide +kernel
theorem dX7_readOne_29 : decode cX7_readOne 29 = .ok (.aload_n 0, 1) := by decide +kernel
theorem dX7_readOne_30 : decode cX7_readOne 30 = .ok (.dup, 1) := by decide +kernel
theorem dX7_readOne_31 : decode cX7_readOne 31 = .ok (.getfield 27, 3) := by decide +kernel
theorem dX7_readOne_34 : decode cX7_readOne 34 = .ok (.iconst 1, 1) := by decide +kernel
theorem dX7_readOne_35 : decode cX7_readOne 35 = .ok (.iadd, 1) := by decide +kernel
theorem dX7_readOne_36 : decode cX7_readOne 36 = .ok (.putfield 27, 3) := by decide +kernel
theorem dX7_readOne_39 : decode cX7_readOne 39 = .ok (.return_, 1) := by decide +kernel
theorem dX7_writeOne_0 : decode cX7_writeOne 0 = .ok (.aload_n 0, 1) := by decide +kernel
theorem dX7_writeOne_1 : decode cX7_writeOne 1 = .ok (.invokevirtual 85, 3) := by decide +kernel
theorem dX7_writeOne_4 : decode cX7_writeOne 4 = .ok (.bipush 10, 2) := by decide +kernel
theorem dX7_writeOne_6 : decode cX7_writeOne 6 = .ok (.irem, 1) := by decide +kernel
theorem dX7_writeOne_7 : decode cX7_writeOne 7 = .ok (.istore_n 1, 1) := by decide +kernel
theorem dX7_writeOne_8 : decode cX7_writeOne 8 = .ok (.aload_n 0, 1) := by decide +kernel
theorem dX7_writeOne_9 : decode cX7_writeOne 9 = .ok (.invokevirtual 85, 3) := by decide +kernel
theorem dX7_writeOne_12 : decode cX7_writeOne 12 = .ok (.getstatic 88, 3) := by decide +kernel
theorem dX7_writeOne_15 : decode cX7_writeOne 15 = .ok (.iload_n 1, 1) := by decide +kernel
theorem dX7_writeOne_16 : decode cX7_writeOne 16 = .ok (.iaload, 1) := by decide +kernel
theorem dX7_writeOne_17 : decode cX7_writeOne 17 = .ok (.irem, 1) := by decide +kernel
theorem dX7_writeOne_18 : decode cX7_writeOne 18 = .ok (.istore_n 2, 1) := by decide +kernel
theorem dX7_writeOne_19 : decode cX7_writeOne 19 = .ok (.aload_n 0, 1) := by decide +kernel
theorem dX7_writeOne_20 : decode cX7_writeOne 20 = .ok (.getfield 15, 3) := by decide +kernel
theorem dX7_writeOne_23 : decode cX7_writeOne 23 = .ok (.iload_n 1, 1) := by decide +kernel
theorem dX7_writeOne_24 : decode cX7_writeOne 24 = .ok (.iload_n 2, 1) := by decide +kernel
theorem dX7_writeOne_25 : decode cX7_writeOne 25 = .ok (.aload_n 0, 1) := by decide +kernel
theorem dX7_writeOne_26 : decode cX7_writeOne 26 = .ok (.invokevirtual 85, 3) := by decide +kernel
theorem dX7_writeOne_29 : decode cX7_writeOne 29 = .ok (.sipush 1000, 3) := by decide +kernel
theorem dX7_writeOne_32 : decode cX7_writeOne 32 = .ok (.irem, 1) := by decide +kernel
theorem dX7_writeOne_33 : decode cX7_writeOne 33 = .ok (.invokevirtual 95, 3) := by decide +kernel
theorem dX7_writeOne_36 : decode cX7_writeOne 36 = .ok (.aload_n 0, 1) := by decide +kernel
theorem dX7_writeOne_37 : decode cX7_writeOne 37 = .ok (.dup, 1) := by decide +kernel
theorem dX7_writeOne_38 : decode cX7_writeOne 38 = .ok (.getfield 27, 3) := by decide +kernel
theorem dX7_writeOne_41 : decode cX7_writeOne 41 = .ok (.iconst 1, 1) := by decide +kernel
theorem dX7_writeOne_42 : decode cX7_writeOne 42 = .ok (.iadd, 1) := by decide +kernel
theorem dX7_writeOne_43 : decode cX7_writeOne 43 = .ok (.putfield 27, 3) := by decide +kernel
theorem dX7_writeOne_46 : decode cX7_writeOne 46 = .ok (.return_, 1) := by decide +kernel
theorem dX7_scanSome_0 : decode cX7_scanSome 0 = .ok (.aload_n 0, 1) := by decide +kernel
theorem dX7_scanSome_1 : decode cX7_scanSome 1 = .ok (.invokevirtual 85, 3) := by decide +kernel
theorem dX7_scanSome_4 : decode cX7_scanSome 4 = .ok (.bipush 10, 2) := by decide +kernel
theorem dX7_scanSome_6 : decode cX7_scanSome 6 = .ok (.irem, 1) := by decide +kernel
theorem dX7_scanSome_7 : decode cX7_scanSome 7 = .ok (.istore_n 1, 1) := by decide +kernel
theorem dX7_scanSome_8 : decode cX7_scanSome 8 = .ok (.aload_n 0, 1) := by decide +kernel
theorem dX7_scanSome_9 : decode cX7_scanSome 9 = .ok (.invokevirtual 85, 3) := by decide +kernel
theorem dX7_scanSome_12 : decode cX7_scanSome 12 = .ok (.bipush 10, 2) := by decide +kernel
theorem dX7_scanSome_14 : decode cX7_scanSome 14 = .ok (.irem, 1) := by decide +kernel
theorem dX7_scanSome_15 : decode cX7_scanSome 15 = .ok (.istore_n 2, 1) := by decide +kernel
theorem dX7_scanSome_16 : decode cX7_scanSome 16 = .ok (.aload_n 0, 1) := by decide +kernel
theorem dX7_scanSome_17 : decode cX7_scanSome 17 = .ok (.dup, 1) := by decide +kernel
theorem dX7_scanSome_18 : decode cX7_scanSome 18 = .ok (.getfield 27, 3) := by decide +kernel
theorem dX7_scanSome_21 : decode cX7_scanSome 21 = .ok (.aload_n 0, 1) := by decide +kernel
theorem dX7_scanSome_22 : decode cX7_scanSome 22 = .ok (.getfield 15, 3) := by decide +kernel
theorem dX7_scanSome_25 : decode cX7_scanSome 25 = .ok (.iload_n 1, 1) := by decide +kernel
theorem dX7_scanSome_26 : decode cX7_scanSome 26 = .ok (.iload_n 2, 1) := by decide +kernel
theorem dX7_scanSome_27 : decode cX7_scanSome 27 = .ok (.sipush 300, 3) := by decide +kernel
theorem dX7_scanSome_30 : decode cX7_scanSome 30 = .ok (.aload_n 0, 1) := by decide +kernel
theorem dX7_scanSome_31 : decode cX7_scanSome 31 = .ok (.getfield 27, 3) := by decide +kernel
theorem dX7_scanSome_34 : decode cX7_scanSome 34 = .ok (.isub, 1) := by decide +kernel
theorem dX7_scanSome_35 : decode cX7_scanSome 35 = .ok (.invokevirtual 99, 3) := by decide +kernel
theorem dX7_scanSome_38 : decode cX7_scanSome 38 = .ok (.iadd, 1) := by decide +kernel
theorem dX7_scanSome_39 : decode cX7_scanSome 39 = .ok (.putfield 27, 3) := by decide +kernel
theorem dX7_scanSome_42 : decode cX7_scanSome 42 = .ok (.return_, 1) := by decide +kernel
theorem dX7_enter_0 : decode cX7_enter 0 = .ok (.aload_n 0, 1) := by decide +kernel
theorem dX7_enter_1 : decode cX7_enter 1 = .ok (.getfield 30, 3) := by decide +kernel
theorem dX7_enter_4 : decode cX7_enter 4 = .ok (.iconst 3, 1) := by decide +kernel
theorem dX7_enter_5 : decode cX7_enter 5 = .ok (.if_icmp .ge 33, 3) := by decide +kernel
theorem dX7_enter_8 : decode cX7_enter 8 = .ok (.aload_n 0, 1) := by decide +kernel
theorem dX7_enter_9 : decode cX7_enter 9 = .ok (.getfield 33, 3) := by decide +kernel
theorem dX7_enter_12 : decode cX7_enter 12 = .ok (.aload_n 0, 1) := by decide +kernel
theorem dX7_enter_13 : decode cX7_enter 13 = .ok (.getfield 30, 3) := by decide +kernel
theorem dX7_enter_16 : decode cX7_enter 16 = .ok (.iconst 0, 1) := by decide +kernel
theorem dX7_enter_17 : decode cX7_enter 17 = .ok (.iastore, 1) := by decide +kernel
theorem dX7_enter_18 : decode cX7_enter 18 = .ok (.aload_n 0, 1) := by decide +kernel
theorem dX7_enter_19 : decode cX7_enter 19 = .ok (.getfield 37, 3) := by decide +kernel
theorem dX7_enter_22 : decode cX7_enter 22 = .ok (.aload_n 0, 1) := by decide +kernel
theorem dX7_enter_23 : decode cX7_enter 23 = .ok (.getfield 30, 3) := by decide +kernel
theorem dX7_enter_26 : decode cX7_enter 26 = .ok (.iload_n 1, 1) := by decide +kernel
theorem dX7_enter_27 : decode cX7_enter 27 = .ok (.iastore, 1) := by decide +kernel
theorem dX7_enter_28 : decode cX7_enter 28 = .ok (.aload_n 0, 1) := by decide +kernel
theorem dX7_enter_29 : decode cX7_enter 29 = .ok (.dup, 1) := by decide +kernel
theorem dX7_enter_30 : decode cX7_enter 30 = .ok (.getfield 30, 3) := by decide +kernel
theorem dX7_enter_33 : decode cX7_enter 33 = .ok (.iconst 1, 1) := by decide +kernel
theorem dX7_enter_34 : decode cX7_enter 34 = .ok (.iadd, 1) := by decide +kernel
theorem dX7_enter_35 : decode cX7_enter 35 = .ok (.putfield 30, 3) := by decide +kernel
theorem dX7_enter_38 : decode cX7_enter 38 = .ok (.return_, 1) := by decide +kernel
theorem dX7_enterIf_0 : decode cX7_enterIf 0 = .ok (.aload_n 0, 1) := by decide +kernel
theorem dX7_enterIf_1 : decode cX7_enterIf 1 = .ok (.invokevirtual 85, 3) := by decide +kernel
theorem dX7_enterIf_4 : decode cX7_enterIf 4 = .ok (.istore_n 1, 1) := by decide +kernel
theorem dX7_enterIf_5 : decode cX7_enterIf 5 = .ok (.aload_n 0, 1) := by decide +kernel
theorem dX7_enterIf_6 : decode cX7_enterIf 6 = .ok (.getfield 9, 3) := by decide +kernel
theorem dX7_enterIf_9 : decode cX7_enterIf 9 = .ok (.aload_n 0, 1) := by decide +kernel
theorem dX7_enterIf_10 : decode cX7_enterIf 10 = .ok (.getfield 23, 3) := by decide +kernel
theorem dX7_enterIf_13 : decode cX7_enterIf 13 = .ok (.iconst 1, 1) := by decide +kernel
theorem dX7_enterIf_14 : decode cX7_enterIf 14 = .ok (.isub, 1) := by decide +kernel
theorem dX7_enterIf_15 : decode cX7_enterIf 15 = .ok (.invokevirtual 49, 3) := by decide +kernel
theorem dX7_enterIf_18 : decode cX7_enterIf 18 = .ok (.istore_n 2, 1) := by decide +kernel
theorem dX7_enterIf_19 : decode cX7_enterIf 19 = .ok (.aload_n 0, 1) := by decide +kernel
theorem dX7_enterIf_20 : decode cX7_enterIf 20 = .ok (.invokevirtual 85, 3) := by decide +kernel
theorem dX7_enterIf_23 : decode cX7_enterIf 23 = .ok (.istore_n 3, 1) := by decide +kernel
theorem dX7_enterIf_24 : decode cX7_enterIf 24 = .ok (.iload_n 2, 1) := by decide +kernel
theorem dX7_enterIf_25 : decode cX7_enterIf 25 = .ok (.bipush 60, 2) := by decide +kernel
theorem dX7_enterIf_27 : decode cX7_enterIf 27 = .ok (.if_icmp .ne 11, 3) := by decide +kernel
theorem dX7_enterIf_30 : decode cX7_enterIf 30 = .ok (.iload_n 1, 1) := by decide +kernel
theorem dX7_enterIf_31 : decode cX7_enterIf 31 = .ok (.iload_n 3, 1) := by decide +kernel
theorem dX7_enterIf_32 : decode cX7_enterIf 32 = .ok (.if_icmp .ge 19, 3) := by decide +kernel
theorem dX7_enterIf_35 : decode cX7_enterIf 35 = .ok (.goto 8, 3) := by decide +kernel
theorem dX7_enterIf_38 : decode cX7_enterIf 38 = .ok (.iload_n 1, 1) := by decide +kernel
theorem dX7_enterIf_39 : decode cX7_enterIf 39 = .ok (.iload_n 3, 1) := by decide +kernel
theorem dX7_enterIf_40 : decode cX7_enterIf 40 = .ok (.if_icmp .ne 11, 3) := by decide +kernel
theorem dX7_enterIf_43 : decode cX7_enterIf 43 = .ok (.aload_n 0, 1) := by decide +kernel
theorem dX7_enterIf_44 : decode cX7_enterIf 44 = .ok (.iconst 1, 1) := by decide +kernel
theorem dX7_enterIf_45 : decode cX7_enterIf 45 = .ok (.invokevirtual 75, 3) := by decide +kernel
theorem dX7_enterIf_48 : decode cX7_enterIf 48 = .ok (.goto 22, 3) := by decide +kernel
theorem dX7_enterIf_51 : decode cX7_enterIf 51 = .ok (.aload_n 0, 1) := by decide +kernel
theorem dX7_enterIf_52 : decode cX7_enterIf 52 = .ok (.aload_n 0, 1) := by decide +kernel
theorem dX7_enterIf_53 : decode cX7_enterIf 53 = .ok (.getfield 9, 3) := by decide +kernel
theorem dX7_enterIf_56 : decode cX7_enterIf 56 = .ok (.aload_n 0, 1) := by decide +kernel
theorem dX7_enterIf_57 : decode cX7_enterIf 57 = .ok (.getfield 23, 3) := by decide +kernel
theorem dX7_enterIf_60 : decode cX7_enterIf 60 = .ok (.iconst 1, 1) := by decide +kernel
theorem dX7_enterIf_61 : decode cX7_enterIf 61 = .ok (.isub, 1) := by decide +kernel
theorem dX7_enterIf_62 : decode cX7_enterIf 62 = .ok (.invokevirtual 72, 3) := by decide +kernel
theorem dX7_enterIf_65 : decode cX7_enterIf 65 = .ok (.iconst 1, 1) := by decide +kernel
theorem dX7_enterIf_66 : decode cX7_enterIf 66 = .ok (.iadd, 1) := by decide +kernel
theorem dX7_enterIf_67 : decode cX7_enterIf 67 = .ok (.putfield 23, 3) := by decide +kernel
theorem dX7_enterIf_70 : decode cX7_enterIf 70 = .ok (.return_, 1) := by decide +kernel
theorem dX7_leave_0 : decode cX7_leave 0 = .ok (.aload_n 0, 1) := by decide +kernel
theorem dX7_leave_1 : decode cX7_leave 1 = .ok (.getfield 30, 3) := by decide +kernel
theorem dX7_leave_4 : decode cX7_leave 4 = .ok (.ifCond .ne 4, 3) := by decide +kernel
theorem dX7_leave_7 : decode cX7_leave 7 = .ok (.return_, 1) := by decide +kernel
theorem dX7_leave_8 : decode cX7_leave 8 = .ok (.aload_n 0, 1) := by decide +kernel
theorem dX7_leave_9 : decode cX7_leave 9 = .ok (.getfield 30, 3) := by decide +kernel
theorem dX7_leave_12 : decode cX7_leave 12 = .ok (.iconst 1, 1) := by decide +kernel
theorem dX7_leave_13 : decode cX7_leave 13 = .ok (.isub, 1) := by decide +kernel
theorem dX7_leave_14 : decode cX7_leave 14 = .ok (.istore_n 1, 1) := by decide +kernel
theorem dX7_leave_15 : decode cX7_leave 15 = .ok (.aload_n 0, 1) := by decide +kernel
theorem dX7_leave_16 : decode cX7_leave 16 = .ok (.getfield 33, 3) := by decide +kernel
theorem dX7_leave_19 : decode cX7_leave 19 = .ok (.iload_n 1, 1) := by decide +kernel
theorem dX7_leave_20 : decode cX7_leave 20 = .ok (.dup2, 1) := by decide +kernel
theorem dX7_leave_21 : decode cX7_leave 21 = .ok (.iaload, 1) := by decide +kernel
theorem dX7_leave_22 : decode cX7_leave 22 = .ok (.iconst 1, 1) := by decide +kernel
theorem dX7_leave_23 : decode cX7_leave 23 = .ok (.iadd, 1) := by decide +kernel
theorem dX7_leave_24 : decode cX7_leave 24 = .ok (.iastore, 1) := by decide +kernel
theorem dX7_leave_25 : decode cX7_leave 25 = .ok (.aload_n 0, 1) := by decide +kernel
theorem dX7_leave_26 : decode cX7_leave 26 = .ok (.getfield 33, 3) := by decide +kernel
theorem dX7_leave_29 : decode cX7_leave 29 = .ok (.iload_n 1, 1) := by decide +kernel
theorem dX7_leave_30 : decode cX7_leave 30 = .ok (.iaload, 1) := by decide +kernel
theorem dX7_leave_31 : decode cX7_leave 31 = .ok (.aload_n 0, 1) := by decide +kernel
theorem dX7_leave_32 : decode cX7_leave 32 = .ok (.getfield 37, 3) := by decide +kernel
theorem dX7_leave_35 : decode cX7_leave 35 = .ok (.iload_n 1, 1) := by decide +kernel
theorem dX7_leave_36 : decode cX7_leave 36 = .ok (.iaload, 1) := by decide +kernel
theorem dX7_leave_37 : decode cX7_leave 37 = .ok (.if_icmp .ge 25, 3) := by decide +kernel
theorem dX7_leave_40 : decode cX7_leave 40 = .ok (.aload_n 0, 1) := by decide +kernel
theorem dX7_leave_41 : decode cX7_leave 41 = .ok (.aload_n 0, 1) := by decide +kernel
theorem dX7_leave_42 : decode cX7_leave 42 = .ok (.getfield 9, 3) := by decide +kernel
theorem dX7_leave_45 : decode cX7_leave 45 = .ok (.aload_n 0, 1) := by decide +kernel
theorem dX7_leave_46 : decode cX7_leave 46 = .ok (.getfield 23, 3) := by decide +kernel
theorem dX7_leave_49 : decode cX7_leave 49 = .ok (.iconst 1, 1) := by decide +kernel
theorem dX7_leave_50 : decode cX7_leave 50 = .ok (.isub, 1) := by decide +kernel
theorem dX7_leave_51 : decode cX7_leave 51 = .ok (.invokevirtual 72, 3) := by decide +kernel
theorem dX7_leave_54 : decode cX7_leave 54 = .ok (.iconst 1, 1) := by decide +kernel
theorem dX7_leave_55 : decode cX7_leave 55 = .ok (.iadd, 1) := by decide +kernel
theorem dX7_leave_56 : decode cX7_leave 56 = .ok (.putfield 23, 3) := by decide +kernel
theorem dX7_leave_59 : decode cX7_leave 59 = .ok (.goto 8, 3) := by decide +kernel
theorem dX7_leave_62 : decode cX7_leave 62 = .ok (.aload_n 0, 1) := by decide +kernel
theorem dX7_leave_63 : decode cX7_leave 63 = .ok (.iload_n 1, 1) := by decide +kernel
theorem dX7_leave_64 : decode cX7_leave 64 = .ok (.putfield 30, 3) := by decide +kernel
theorem dX7_leave_67 : decode cX7_leave 67 = .ok (.return_, 1) := by decide +kernel
theorem dX7_sum_0 : decode cX7_sum 0 = .ok (.aload_n 0, 1) := by decide +kernel
theorem dX7_sum_1 : decode cX7_sum 1 = .ok (.invokevirtual 103, 3) := by decide +kernel
theorem dX7_sum_4 : decode cX7_sum 4 = .ok (.istore_n 1, 1) := by decide +kernel
theorem dX7_sum_5 : decode cX7_sum 5 = .ok (.iconst 0, 1) := by decide +kernel
theorem dX7_sum_6 : decode cX7_sum 6 = .ok (.istore_n 2, 1) := by decide +kernel
theorem dX7_sum_7 : decode cX7_sum 7 = .ok (.iload_n 2, 1) := by decide +kernel
theorem dX7_sum_8 : decode cX7_sum 8 = .ok (.sipush 300, 3) := by decide +kernel
theorem dX7_sum_11 : decode cX7_sum 11 = .ok (.if_icmp .ge 46, 3) := by decide +kernel
theorem dX7_sum_14 : decode cX7_sum 14 = .ok (.aload_n 0, 1) := by decide +kernel
theorem dX7_sum_15 : decode cX7_sum 15 = .ok (.getfield 9, 3) := by decide +kernel
theorem dX7_sum_18 : decode cX7_sum 18 = .ok (.aload_n 0, 1) := by decide +kernel
theorem dX7_sum_19 : decode cX7_sum 19 = .ok (.getfield 23, 3) := by decide +kernel
theorem dX7_sum_22 : decode cX7_sum 22 = .ok (.invokevirtual 49, 3) := by decide +kernel
theorem dX7_sum_25 : decode cX7_sum 25 = .ok (.bipush 43, 2) := by decide +kernel
theorem dX7_sum_27 : decode cX7_sum 27 = .ok (.if_icmp .ne 30, 3) := by decide +kernel
theorem dX7_sum_30 : decode cX7_sum 30 = .ok (.aload_n 0, 1) := by decide +kernel
theorem dX7_sum_31 : decode cX7_sum 31 = .ok (.dup, 1) := by decide +kernel
theorem dX7_sum_32 : decode cX7_sum 32 = .ok (.getfield 23, 3) := by decide +kernel
theorem dX7_sum_35 : decode cX7_sum 35 = .ok (.iconst 1, 1) := by decide +kernel
theorem dX7_sum_36 : decode cX7_sum 36 = .ok (.iadd, 1) := by decide +kernel
theorem dX7_sum_37 : decode cX7_sum 37 = .ok (.putfield 23, 3) := by decide +kernel
theorem dX7_sum_40 : decode cX7_sum 40 = .ok (.iload_n 1, 1) := by decide +kernel
theorem dX7_sum_41 : decode cX7_sum 41 = .ok (.aload_n 0, 1) := by decide +kernel
theorem dX7_sum_42 : decode cX7_sum 42 = .ok (.invokevirtual 103, 3) := by decide +kernel
theorem dX7_sum_45 : decode cX7_sum 45 = .ok (.iadd, 1) := by decide +kernel
theorem dX7_sum_46 : decode cX7_sum 46 = .ok (.sipush 10000, 3) := by decide +kernel
theorem dX7_sum_49 : decode cX7_sum 49 = .ok (.irem, 1) := by decide +kernel
theorem dX7_sum_50 : decode cX7_sum 50 = .ok (.istore_n 1, 1) := by decide +kernel
theorem dX7_sum_51 : decode cX7_sum 51 = .ok (.iinc 2 1, 3) := by decide +kernel
theorem dX7_sum_54 : decode cX7_sum 54 = .ok (.goto (-47), 3) := by decide +kernel
theorem dX7_sum_57 : decode cX7_sum 57 = .ok (.aload_n 0, 1) := by decide +kernel
theorem dX7_sum_58 : decode cX7_sum 58 = .ok (.dup, 1) := by decide +kernel
theorem dX7_sum_59 : decode cX7_sum 59 = .ok (.getfield 23, 3) := by decide +kernel
theorem dX7_sum_62 : decode cX7_sum 62 = .ok (.iconst 1, 1) := by decide +kernel
theorem dX7_sum_63 : decode cX7_sum 63 = .ok (.iadd, 1) := by decide +kernel
theorem dX7_sum_64 : decode cX7_sum 64 = .ok (.putfield 23, 3) := by decide +kernel
theorem dX7_sum_67 : decode cX7_sum 67 = .ok (.iload_n 1, 1) := by decide +kernel
theorem dX7_sum_68 : decode cX7_sum 68 = .ok (.ireturn, 1) := by decide +kernel
theorem dX7_product_0 : decode cX7_product 0 = .ok (.aload_n 0, 1) := by decide +kernel
theorem dX7_product_1 : decode cX7_product 1 = .ok (.invokevirtual 106, 3) := by decide +kernel
theorem dX7_product_4 : decode cX7_product 4 = .ok (.istore_n 1, 1) := by decide +kernel
theorem dX7_product_5 : decode cX7_product 5 = .ok (.iconst 0, 1) := by decide +kernel
theorem dX7_product_6 : decode cX7_product 6 = .ok (.istore_n 2, 1) := by decide +kernel
theorem dX7_product_7 : decode cX7_product 7 = .ok (.iload_n 2, 1) := by decide +kernel
theorem dX7_product_8 : decode cX7_product 8 = .ok (.sipush 300, 3) := by decide +kernel
theorem dX7_product_11 : decode cX7_product 11 = .ok (.if_icmp .ge 46, 3) := by decide +kernel
theorem dX7_product_14 : decode cX7_product 14 = .ok (.aload_n 0, 1) := by decide +kernel
theorem dX7_product_15 : decode cX7_product 15 = .ok (.getfield 9, 3) := by decide +kernel
theorem dX7_product_18 : decode cX7_product 18 = .ok (.aload_n 0, 1) := by decide +kernel
theorem dX7_product_19 : decode cX7_product 19 = .ok (.getfield 23, 3) := by decide +kernel
theorem dX7_product_22 : decode cX7_product 22 = .ok (.invokevirtual 49, 3) := by decide +kernel
theorem dX7_product_25 : decode cX7_product 25 = .ok (.bipush 42, 2) := by decide +kernel
theorem dX7_product_27 : decode cX7_product 27 = .ok (.if_icmp .ne 30, 3) := by decide +kernel
theorem dX7_product_30 : decode cX7_product 30 = .ok (.aload_n 0, 1) := by decide +kernel
theorem dX7_product_31 : decode cX7_product 31 = .ok (.dup, 1) := by decide +kernel
theorem dX7_product_32 : decode cX7_product 32 = .ok (.getfield 23, 3) := by decide +kernel
theorem dX7_product_35 : decode cX7_product 35 = .ok (.iconst 1, 1) := by decide +kernel
theorem dX7_product_36 : decode cX7_product 36 = .ok (.iadd, 1) := by decide +kernel
theorem dX7_product_37 : decode cX7_product 37 = .ok (.putfield 23, 3) := by decide +kernel
theorem dX7_product_40 : decode cX7_product 40 = .ok (.iload_n 1, 1) := by decide +kernel
theorem dX7_product_41 : decode cX7_product 41 = .ok (.aload_n 0, 1) := by decide +kernel
theorem dX7_product_42 : decode cX7_product 42 = .ok (.invokevirtual 106, 3) := by decide +kernel
theorem dX7_product_45 : decode cX7_product 45 = .ok (.imul, 1) := by decide +kernel
theorem dX7_product_46 : decode cX7_product 46 = .ok (.sipush 10000, 3) := by decide +kernel
theorem dX7_product_49 : decode cX7_product 49 = .ok (.irem, 1) := by decide +kernel
theorem dX7_product_50 : decode cX7_product 50 = .ok (.istore_n 1, 1) := by decide +kernel
theorem dX7_product_51 : decode cX7_product 51 = .ok (.iinc 2 1, 3) := by decide +kernel
theorem dX7_product_54 : decode cX7_product 54 = .ok (.goto (-47), 3) := by decide +kernel
theorem dX7_product_57 : decode cX7_product 57 = .ok (.iload_n 1, 1) := by decide +kernel
theorem dX7_product_58 : decode cX7_product 58 = .ok (.ireturn, 1) := by decide +kernel
theorem dX7_factor_0 : decode cX7_factor 0 = .ok (.aload_n 0, 1) := by decide +kernel
theorem dX7_factor_1 : decode cX7_factor 1 = .ok (.getfield 9, 3) := by decide +kernel
theorem dX7_factor_4 : decode cX7_factor 4 = .ok (.aload_n 0, 1) := by decide +kernel
theorem dX7_factor_5 : decode cX7_factor 5 = .ok (.getfield 23, 3) := by decide +kernel
theorem dX7_factor_8 : decode cX7_factor 8 = .ok (.invokevirtual 72, 3) := by decide +kernel
theorem dX7_factor_11 : decode cX7_factor 11 = .ok (.istore_n 1, 1) := by decide +kernel
theorem dX7_factor_12 : decode cX7_factor 12 = .ok (.aload_n 0, 1) := by decide +kernel
theorem dX7_factor_13 : decode cX7_factor 13 = .ok (.getfield 9, 3) := by decide +kernel
theorem dX7_factor_16 : decode cX7_factor 16 = .ok (.aload_n 0, 1) := by decide +kernel
theorem dX7_factor_17 : decode cX7_factor 17 = .ok (.getfield 23, 3) := by decide +kernel
theorem dX7_factor_20 : decode cX7_factor 20 = .ok (.invokevirtual 49, 3) := by decide +kernel
theorem dX7_factor_23 : decode cX7_factor 23 = .ok (.iconst 3, 1) := by decide +kernel
theorem dX7_factor_24 : decode cX7_factor 24 = .ok (.if_icmp .ne 23, 3) := by decide +kernel
theorem dX7_factor_27 : decode cX7_factor 27 = .ok (.iload_n 1, 1) := by decide +kernel
theorem dX7_factor_28 : decode cX7_factor 28 = .ok (.ifCond .lt 17, 3) := by decide +kernel
theorem dX7_factor_31 : decode cX7_factor 31 = .ok (.iload_n 1, 1) := by decide +kernel
theorem dX7_factor_32 : decode cX7_factor 32 = .ok (.iconst 3, 1) := by decide +kernel
theorem dX7_factor_33 : decode cX7_factor 33 = .ok (.if_icmp .ge 12, 3) := by decide +kernel
theorem dX7_factor_36 : decode cX7_factor 36 = .ok (.aload_n 0, 1) := by decide +kernel
theorem dX7_factor_37 : decode cX7_factor 37 = .ok (.getfield 33, 3) := by decide +kernel
theorem dX7_factor_40 : decode cX7_factor 40 = .ok (.iload_n 1, 1) := by decide +kernel
theorem dX7_factor_41 : decode cX7_factor 41 = .ok (.iaload, 1) := by decide +kernel
theorem dX7_factor_42 : decode cX7_factor 42 = .ok (.goto 4, 3) := by decide +kernel
theorem dX7_factor_45 : decode cX7_factor 45 = .ok (.iconst 0, 1) := by decide +kernel
theorem dX7_factor_46 : decode cX7_factor 46 = .ok (.istore_n 1, 1) := by decide +kernel
theorem dX7_factor_47 : decode cX7_factor 47 = .ok (.aload_n 0, 1) := by decide +kernel
theorem dX7_factor_48 : decode cX7_factor 48 = .ok (.dup, 1) := by decide +kernel
theorem dX7_factor_49 : decode cX7_factor 49 = .ok (.getfield 23, 3) := by decide +kernel
theorem dX7_factor_52 : decode cX7_factor 52 = .ok (.iconst 1, 1) := by decide +kernel
theorem dX7_factor_53 : decode cX7_factor 53 = .ok (.iadd, 1) := by decide +kernel
theorem dX7_factor_54 : decode cX7_factor 54 = .ok (.putfield 23, 3) := by decide +kernel
theorem dX7_factor_57 : decode cX7_factor 57 = .ok (.iload_n 1, 1) := by decide +kernel
theorem dX7_factor_58 : decode cX7_factor 58 = .ok (.ireturn, 1) := by decide +kernel
theorem dX8_init_0 : decode cX8_init 0 = .ok (.aload_n 0, 1) := by decide +kernel
theorem dX8_init_1 : decode cX8_init 1 = .ok (.invokespecial 3, 3) := by decide +kernel
theorem dX8_init_4 : decode cX8_init 4 = .ok (.aload_n 0, 1) := by decide +kernel
theorem dX8_init_5 : decode cX8_init 5 = .ok (.sipush 300, 3) := by decide +kernel
theorem dX8_init_8 : decode cX8_init 8 = .ok (.newarray .int, 2) := by decide +kernel
theorem dX8_init_10 : decode cX8_init 10 = .ok (.putfield 9, 3) := by decide +kernel
theorem dX8_init_13 : decode cX8_init 13 = .ok (.aload_n 0, 1) := by decide +kernel
theorem dX8_init_14 : decode cX8_init 14 = .ok (.iconst 0, 1) := by decide +kernel
theorem dX8_init_15 : decode cX8_init 15 = .ok (.putfield 15, 3) := by decide +kernel
theorem dX8_init_18 : decode cX8_init 18 = .ok (.aload_n 0, 1) := by decide +kernel
theorem dX8_init_19 : decode cX8_init 19 = .ok (.iconst (-1), 1) := by decide +kernel
theorem dX8_init_20 : decode cX8_init 20 = .ok (.putfield 19, 3) := by decide +kernel
theorem dX8_init_23 : decode cX8_init 23 = .ok (.aload_n 0, 1) := by decide +kernel
theorem dX8_init_24 : decode cX8_init 24 = .ok (.iconst (-1), 1) := by decide +kernel
theorem dX8_init_25 : decode cX8_init 25 = .ok (.putfield 22, 3) := by decide +kernel
theorem dX8_init_28 : decode cX8_init 28 = .ok (.aload_n 0, 1) := by decide +kernel
theorem dX8_init_29 : decode cX8_init 29 = .ok (.sipush 301, 3) := by decide +kernel
theorem dX8_init_32 : decode cX8_init 32 = .ok (.newarray .int, 2) := by decide +kernel
theorem dX8_init_34 : decode cX8_init 34 = .ok (.putfield 25, 3) := by decide +kernel
theorem dX8_init_37 : decode cX8_init 37 = .ok (.aload_n 0, 1) := by decide +kernel
theorem dX8_init_38 : decode cX8_init 38 = .ok (.sipush 301, 3) := by decide +kernel
theorem dX8_init_41 : decode cX8_init 41 = .ok (.newarray .int, 2) := by decide +kernel
theorem dX8_init_43 : decode cX8_init 43 = .ok (.putfield 28, 3) := by decide +kernel
theorem dX8_init_46 : decode cX8_init 46 = .ok (.aload_n 0, 1) := by decide +kernel
theorem dX8_init_47 : decode cX8_init 47 = .ok (.sipush 301, 3) := by decide +kernel
theorem dX8_init_50 : decode cX8_init 50 = .ok (.newarray .int, 2) := by decide +kernel
theorem dX8_init_52 : decode cX8_init 52 = .ok (.putfield 31, 3) := by decide +kernel
theorem dX8_init_55 : decode cX8_init 55 = .ok (.aload_n 0, 1) := by decide +kernel
theorem dX8_init_56 : decode cX8_init 56 = .ok (.iconst 0, 1) := by decide +kernel
theorem dX8_init_57 : decode cX8_init 57 = .ok (.putfield 34, 3) := by decide +kernel
theorem dX8_init_60 : decode cX8_init 60 = .ok (.aload_n 0, 1) := by decide +kernel
theorem dX8_init_61 : decode cX8_init 61 = .ok (.iconst 0, 1) := by decide +kernel
theorem dX8_init_62 : decode cX8_init 62 = .ok (.putfield 37, 3) := by decide +kernel
theorem dX8_init_65 : decode cX8_init 65 = .ok (.aload_n 0, 1) := by decide +kernel
theorem dX8_init_66 : decode cX8_init 66 = .ok (.iconst 0, 1) := by decide +kernel
theorem dX8_init_67 : decode cX8_init 67 = .ok (.putfield 40, 3) := by decide +kernel
theorem dX8_init_70 : decode cX8_init 70 = .ok (.aload_n 0, 1) := by decide +kernel
theorem dX8_init_71 : decode cX8_init 71 = .ok (.iconst 0, 1) := by decide +kernel
theorem dX8_init_72 : decode cX8_init 72 = .ok (.putfield 43, 3) := by decide +kernel
theorem dX8_init_75 : decode cX8_init 75 = .ok (.aload_n 0, 1) := by decide +kernel
theorem dX8_init_76 : decode cX8_init 76 = .ok (.iconst 3, 1) := by decide +kernel
theorem dX8_init_77 : decode cX8_init 77 = .ok (.newarray .int, 2) := by decide +kernel
theorem dX8_init_79 : decode cX8_init 79 = .ok (.putfield 46, 3) := by decide +kernel
theorem dX8_init_82 : decode cX8_init 82 = .ok (.aload_n 0, 1) := by decide +kernel
theorem dX8_init_83 : decode cX8_init 83 = .ok (.iconst 0, 1) := by decide +kernel
theorem dX8_init_84 : decode cX8_init 84 = .ok (.putfield 49, 3) := by decide +kernel
theorem dX8_init_87 : decode cX8_init 87 = .ok (.aload_n 0, 1) := by decide +kernel
theorem dX8_init_88 : decode cX8_init 88 = .ok (.iconst 3, 1) := by decide +kernel
theorem dX8_init_89 : decode cX8_init 89 = .ok (.newarray .int, 2) := by decide +kernel
theorem dX8_init_91 : decode cX8_init 91 = .ok (.putfield 52, 3) := by decide +kernel
theorem dX8_init_94 : decode cX8_init 94 = .ok (.return_, 1) := by decide +kernel
theorem dX8_append_0 : decode cX8_append 0 = .ok (.bipush 24, 2) := by decide +kernel
theorem dX8_append_2 : decode cX8_append 2 = .ok (.istore_n 2, 1) := by decide +kernel
theorem dX8_append_3 : decode cX8_append 3 = .ok (.iload_n 2, 1) := by decide +kernel
theorem dX8_append_4 : decode cX8_append 4 = .ok (.ifCond .lt 45, 3) := by decide +kernel
theorem dX8_append_7 : decode cX8_append 7 = .ok (.aload_n 0, 1) := by decide +kernel
theorem dX8_append_8 : decode cX8_append 8 = .ok (.getfield 15, 3) := by decide +kernel
theorem dX8_append_11 : decode cX8_append 11 = .ok (.sipush 300, 3) := by decide +kernel
theorem dX8_append_14 : decode cX8_append 14 = .ok (.if_icmp .ge 35, 3) := by decide +kernel
theorem dX8_append_17 : decode cX8_append 17 = .ok (.aload_n 0, 1) := by decide +kernel
theorem dX8_append_18 : decode cX8_append 18 = .ok (.getfield 9, 3) := by decide +kernel
theorem dX8_append_21 : decode cX8_append 21 = .ok (.aload_n 0, 1) := by decide +kernel
theorem dX8_append_22 : decode cX8_append 22 = .ok (.getfield 15, 3) := by decide +kernel
theorem dX8_append_25 : decode cX8_append 25 = .ok (.iload_n 1, 1) := by decide +kernel
theorem dX8_append_26 : decode cX8_append 26 = .ok (.iload_n 2, 1) := by decide +kernel
theorem dX8_append_27 : decode cX8_append 27 = .ok (.iushr, 1) := by decide +kernel
theorem dX8_append_28 : decode cX8_append 28 = .ok (.sipush 255, 3) := by decide +kernel
theorem dX8_append_31 : decode cX8_append 31 = .ok (.iand, 1) := by decide +kernel
theorem dX8_append_32 : decode cX8_append 32 = .ok (.iastore, 1) := by decide +kernel
theorem dX8_append_33 : decode cX8_append 33 = .ok (.aload_n 0, 1) := by decide +kernel
theorem dX8_append_34 : decode cX8_append 34 = .ok (.dup, 1) := by decide +kernel
theorem dX8_append_35 : decode cX8_append 35 = .ok (.getfield 15, 3) := by decide +kernel
theorem dX8_append_38 : decode cX8_append 38 = .ok (.iconst 1, 1) := by decide +kernel
theorem dX8_append_39 : decode cX8_append 39 = .ok (.iadd, 1) := by decide +kernel
theorem dX8_append_40 : decode cX8_append 40 = .ok (.putfield 15, 3) := by decide +kernel
theorem dX8_append_43 : decode cX8_append 43 = .ok (.iinc 2 (-8), 3) := by decide +kernel
theorem dX8_append_46 : decode cX8_append 46 = .ok (.goto (-43), 3) := by decide +kernel
theorem dX8_append_49 : decode cX8_append 49 = .ok (.return_, 1) := by decide +kernel
theorem dX8_parse_0 : decode cX8_parse 0 = .ok (.aload_n 0, 1) := by decide +kernel
theorem dX8_parse_1 : decode cX8_parse 1 = .ok (.invokevirtual 55, 3) := by decide +kernel
theorem dX8_parse_4 : decode cX8_parse 4 = .ok (.aload_n 0, 1) := by decide +kernel
theorem dX8_parse_5 : decode cX8_parse 5 = .ok (.iconst 0, 1) := by decide +kernel
theorem dX8_parse_6 : decode cX8_parse 6 = .ok (.putfield 19, 3) := by decide +kernel
theorem dX8_parse_9 : decode cX8_parse 9 = .ok (.aload_n 0, 1) := by decide +kernel
theorem dX8_parse_10 : decode cX8_parse 10 = .ok (.iconst (-1), 1) := by decide +kernel
theorem dX8_parse_11 : decode cX8_parse 11 = .ok (.putfield 22, 3) := by decide +kernel
theorem dX8_parse_14 : decode cX8_parse 14 = .ok (.aload_n 0, 1) := by decide +kernel
theorem dX8_parse_15 : decode cX8_parse 15 = .ok (.iconst 0, 1) := by decide +kernel
theorem dX8_parse_16 : decode cX8_parse 16 = .ok (.putfield 37, 3) := by decide +kernel
theorem dX8_parse_19 : decode cX8_parse 19 = .ok (.aload_n 0, 1) := by decide +kernel
theorem dX8_parse_20 : decode cX8_parse 20 = .ok (.iconst 0, 1) := by decide +kernel
theorem dX8_parse_21 : decode cX8_parse 21 = .ok (.putfield 40, 3) := by decide +kernel
theorem dX8_parse_24 : decode cX8_parse 24 = .ok (.aload_n 0, 1) := by decide +kernel
theorem dX8_parse_25 : decode cX8_parse 25 = .ok (.iconst 0, 1) := by decide +kernel
theorem dX8_parse_26 : decode cX8_parse 26 = .ok (.putfield 43, 3) := by decide +kernel
theorem dX8_parse_29 : decode cX8_parse 29 = .ok (.aload_n 0, 1) := by decide +kernel
theorem dX8_parse_30 : decode cX8_parse 30 = .ok (.iconst 0, 1) := by decide +kernel
theorem dX8_parse_31 : decode cX8_parse 31 = .ok (.putfield 49, 3) := by decide +kernel
theorem dX8_parse_34 : decode cX8_parse 34 = .ok (.iconst 0, 1) := by decide +kernel
theorem dX8_parse_35 : decode cX8_parse 35 = .ok (.istore_n 1, 1) := by decide +kernel
theorem dX8_parse_36 : decode cX8_parse 36 = .ok (.iload_n 1, 1) := by decide +kernel
theorem dX8_parse_37 : decode cX8_parse 37 = .ok (.aload_n 0, 1) := by decide +kernel
theorem dX8_parse_38 : decode cX8_parse 38 = .ok (.getfield 34, 3) := by decide +kernel
theorem dX8_parse_41 : decode cX8_parse 41 = .ok (.if_icmp .ge 60, 3) := by decide +kernel
theorem dX8_parse_44 : decode cX8_parse 44 = .ok (.aload_n 0, 1) := by decide +kernel
theorem dX8_parse_45 : decode cX8_parse 45 = .ok (.getfield 19, 3) := by decide +kernel
theorem dX8_parse_48 : decode cX8_parse 48 = .ok (.ifCond .ne 53, 3) := by decide +kernel
theorem dX8_parse_51 : decode cX8_parse 51 = .ok (.aload_n 0, 1) := by decide +kernel
theorem dX8_parse_52 : decode cX8_parse 52 = .ok (.getfield 25, 3) := by decide +kernel
theorem dX8_parse_55 : decode cX8_parse 55 = .ok (.aload_n 0, 1) := by decide +kernel
theorem dX8_parse_56 : decode cX8_parse 56 = .ok (.getfield 37, 3) := by decide +kernel
theorem dX8_parse_59 : decode cX8_parse 59 = .ok (.iaload, 1) := by decide +kernel
theorem dX8_parse_60 : decode cX8_parse 60 = .ok (.ifCond .eq 41, 3) := by decide +kernel
theorem dX8_parse_63 : decode cX8_parse 63 = .ok (.aload_n 0, 1) := by decide +kernel
theorem dX8_parse_64 : decode cX8_parse 64 = .ok (.getfield 25, 3) := by decide +kernel
theorem dX8_parse_67 : decode cX8_parse 67 = .ok (.aload_n 0, 1) := by decide +kernel
theorem dX8_parse_68 : decode cX8_parse 68 = .ok (.getfield 37, 3) := by decide +kernel
theorem dX8_parse_71 : decode cX8_parse 71 = .ok (.iaload, 1) := by decide +kernel
theorem dX8_parse_72 : decode cX8_parse 72 = .ok (.bipush 125, 2) := by decide +kernel
theorem dX8_parse_74 : decode cX8_parse 74 = .ok (.if_icmp .ne 17, 3) := by decide +kernel
theorem dX8_parse_77 : decode cX8_parse 77 = .ok (.aload_n 0, 1) := by decide +kernel
theorem dX8_parse_78 : decode cX8_parse 78 = .ok (.getfield 43, 3) := by decide +kernel
theorem dX8_parse_81 : decode cX8_parse 81 = .ok (.ifCond .le 10, 3) := by decide +kernel
theorem dX8_parse_84 : decode cX8_parse 84 = .ok (.aload_n 0, 1) := by decide +kernel
theorem dX8_parse_85 : decode cX8_parse 85 = .ok (.invokevirtual 58, 3) := by decide +kernel
theorem dX8_parse_88 : decode cX8_parse 88 = .ok (.goto 7, 3) := by decide +kernel
theorem dX8_parse_91 : decode cX8_parse 91 = .ok (.aload_n 0, 1) := by decide +kernel
theorem dX8_parse_92 : decode cX8_parse 92 = .ok (.invokevirtual 61, 3) := by decide +kernel
theorem dX8_parse_95 : decode cX8_parse 95 = .ok (.iinc 1 1, 3) := by decide +kernel
theorem dX8_parse_98 : decode cX8_parse 98 = .ok (.goto (-62), 3) := by decide +kernel
theorem dX8_parse_101 : decode cX8_parse 101 = .ok (.aload_n 0, 1) := by decide +kernel
theorem dX8_parse_102 : decode cX8_parse 102 = .ok (.getfield 43, 3) := by decide +kernel
theorem dX8_parse_105 : decode cX8_parse 105 = .ok (.ifCond .le 8, 3) := by decide +kernel
theorem dX8_parse_108 : decode cX8_parse 108 = .ok (.aload_n 0, 1) := by decide +kernel
theorem dX8_parse_109 : decode cX8_parse 109 = .ok (.iconst 1, 1) := by decide +kernel
theorem dX8_parse_110 : decode cX8_parse 110 = .ok (.invokevirtual 64, 3) := by decide +kernel
theorem dX8_parse_113 : decode cX8_parse 113 = .ok (.aload_n 0, 1) := by decide +kernel
theorem dX8_parse_114 : decode cX8_parse 114 = .ok (.iconst 0, 1) := by decide +kernel
theorem dX8_parse_115 : decode cX8_parse 115 = .ok (.putfield 15, 3) := by decide +kernel
theorem dX8_parse_118 : decode cX8_parse 118 = .ok (.aload_n 0, 1) := by decide +kernel
theorem dX8_parse_119 : decode cX8_parse 119 = .ok (.getfield 19, 3) := by decide +kernel
theorem dX8_parse_122 : decode cX8_parse 122 = .ok (.ifCond .ne 27, 3) := by decide +kernel
theorem dX8_parse_125 : decode cX8_parse 125 = .ok (.new 68, 3) := by decide +kernel
theorem dX8_parse_128 : decode cX8_parse 128 = .ok (.dup, 1) := by decide +kernel
theorem dX8_parse_129 : decode cX8_parse 129 = .ok (.aload_n 0, 1) := by decide +kernel
theorem dX8_parse_130 : decode cX8_parse 130 = .ok (.getfield 25, 3) := by decide +kernel
theorem dX8_parse_133 : decode cX8_parse 133 = .ok (.aload_n 0, 1) := by decide +kernel
theorem dX8_parse_134 : decode cX8_parse 134 = .ok (.getfield 28, 3) := by decide +kernel
theorem dX8_parse_137 : decode cX8_parse 137 = .ok (.aload_n 0, 1) := by decide +kernel
theorem dX8_parse_138 : decode cX8_parse 138 = .ok (.getfield 34, 3) := by decide +kernel
theorem dX8_parse_141 : decode cX8_parse 141 = .ok (.iconst 1, 1) := by decide +kernel
theorem dX8_parse_142 : decode cX8_parse 142 = .ok (.isub, 1) := by decide +kernel
theorem dX8_parse_143 : decode cX8_parse 143 = .ok (.invokespecial 70, 3) := by decide +kernel
theorem dX8_parse_146 : decode cX8_parse 146 = .ok (.goto 4, 3) := by decide +kernel
theorem dX8_parse_149 : decode cX8_parse 149 = .ok (.aconst_null, 1) := by decide +kernel
theorem dX8_parse_150 : decode cX8_parse 150 = .ok (.areturn, 1) := by decide +kernel
theorem dX8_listTokens_0 : decode cX8_listTokens 0 = .ok (.aload_n 0, 1) := by decide +kernel
theorem dX8_listTokens_1 : decode cX8_listTokens 1 = .ok (.iconst 0, 1) := by decide +kernel
theorem dX8_listTokens_2 : decode cX8_listTokens 2 = .ok (.putfield 34, 3) := by decide +kernel
theorem dX8_listTokens_5 : decode cX8_listTokens 5 = .ok (.iconst 0, 1) := by decide +kernel
theorem dX8_listTokens_6 : decode cX8_listTokens 6 = .ok (.istore_n 1, 1) := by decide +kernel
theorem dX8_listTokens_7 : decode cX8_listTokens 7 = .ok (.iconst 0, 1) := by decide +kernel
theorem dX8_listTokens_8 : decode cX8_listTokens 8 = .ok (.istore_n 2, 1) := by decide +kernel
theorem dX8_listTokens_9 : decode cX8_listTokens 9 = .ok (.iload_n 2, 1) := by decide +kernel
theorem dX8_listTokens_10 : decode cX8_listTokens 10 = .ok (.sipush 300, 3) := by decide +kernel
theorem dX8_listTokens_13 : decode cX8_listTokens 13 = .ok (.if_icmp .ge 116, 3) := by decide +kernel
theorem dX8_listTokens_16 : decode cX8_listTokens 16 = .ok (.iload_n 1, 1) := by decide +kernel
theorem dX8_listTokens_17 : decode cX8_listTokens 17 = .ok (.aload_n 0, 1) := by decide +kernel
theorem dX8_listTokens_18 : decode cX8_listTokens 18 = .ok (.getfield 15, 3) := by decide +kernel
theorem dX8_listTokens_21 : decode cX8_listTokens 21 = .ok (.if_icmp .ge 108, 3) := by decide +kernel
theorem dX8_listTokens_24 : decode cX8_listTokens 24 = .ok (.aload_n 0, 1) := by decide +kernel
theorem dX8_listTokens_25 : decode cX8_listTokens 25 = .ok (.getfield 9, 3) := by decide +kernel
theorem dX8_listTokens_28 : decode cX8_listTokens 28 = .ok (.iload_n 1, 1) := by decide +kernel
theorem dX8_listTokens_29 : decode cX8_listTokens 29 = .ok (.iaload, 1) := by decide +kernel
theorem dX8_listTokens_30 : decode cX8_listTokens 30 = .ok (.istore_n 3, 1) := by decide +kernel
theorem dX8_listTokens_31 : decode cX8_listTokens 31 = .ok (.iload_n 1, 1) := by decide +kernel
theorem dX8_listTokens_32 : decode cX8_listTokens 32 = .ok (.iconst 1, 1) := by decide +kernel
theorem dX8_listTokens_33 : decode cX8_listTokens 33 = .ok (.iadd, 1) := by decide +kernel
theorem dX8_listTokens_34 : decode cX8_listTokens 34 = .ok (.istore 4, 2) := by decide +kernel
theorem dX8_listTokens_36 : decode cX8_listTokens 36 = .ok (.iload_n 3, 1) := by decide +kernel
theorem dX8_listTokens_37 : decode cX8_listTokens 37 = .ok (.invokestatic 73, 3) := by decide +kernel
theorem dX8_listTokens_40 : decode cX8_listTokens 40 = .ok (.ifCond .eq 20, 3) := by decide +kernel
theorem dX8_listTokens_43 : decode cX8_listTokens 43 = .ok (.aload_n 0, 1) := by decide +kernel
theorem dX8_listTokens_44 : decode cX8_listTokens 44 = .ok (.iload_n 1, 1) := by decide +kernel
theorem dX8_listTokens_45 : decode cX8_listTokens 45 = .ok (.invokevirtual 77, 3) := by decide +kernel
theorem dX8_listTokens_48 : decode cX8_listTokens 48 = .ok (.istore 4, 2) := by decide +kernel
theorem dX8_listTokens_50 : decode cX8_listTokens 50 = .ok (.aload_n 0, 1) := by decide +kernel
theorem dX8_listTokens_51 : decode cX8_listTokens 51 = .ok (.iload_n 1, 1) := by decide +kernel
theorem dX8_listTokens_52 : decode cX8_listTokens 52 = .ok (.iload 4, 2) := by decide +kernel
theorem dX8_listTokens_54 : decode cX8_listTokens 54 = .ok (.invokevirtual 81, 3) := by decide +kernel
theorem dX8_listTokens_57 : decode cX8_listTokens 57 = .ok (.goto 63, 3) := by decide +kernel
theorem dX8_listTokens_60 : decode cX8_listTokens 60 = .ok (.iload_n 3, 1) := by decide +kernel
theorem dX8_listTokens_61 : decode cX8_listTokens 61 = .ok (.invokestatic 85, 3) := by decide +kernel
theorem dX8_listTokens_64 : decode cX8_listTokens 64 = .ok (.ifCond .eq 26, 3) := by decide +kernel
theorem dX8_listTokens_67 : decode cX8_listTokens 67 = .ok (.aload_n 0, 1) := by decide +kernel
theorem dX8_listTokens_68 : decode cX8_listTokens 68 = .ok (.iload_n 1, 1) := by decide +kernel
theorem dX8_listTokens_69 : decode cX8_listTokens 69 = .ok (.invokevirtual 88, 3) := by decide +kernel
theorem dX8_listTokens_72 : decode cX8_listTokens 72 = .ok (.istore 4, 2) := by decide +kernel
theorem dX8_listTokens_74 : decode cX8_listTokens 74 = .ok (.aload_n 0, 1) := by decide +kernel
theorem dX8_listTokens_75 : decode cX8_listTokens 75 = .ok (.iconst 2, 1) := by decide +kernel
theorem dX8_listTokens_76 : decode cX8_listTokens 76 = .ok (.aload_n 0, 1) := by decide +kernel
theorem dX8_listTokens_77 : decode cX8_listTokens 77 = .ok (.iload_n 1, 1) := by decide +kernel
theorem dX8_listTokens_78 : decode cX8_listTokens 78 = .ok (.iload 4, 2) := by decide +kernel
theorem dX8_listTokens_80 : decode cX8_listTokens 80 = .ok (.invokevirtual 91, 3) := by decide +kernel
theorem dX8_listTokens_83 : decode cX8_listTokens 83 = .ok (.iload_n 1, 1) := by decide +kernel
theorem dX8_listTokens_84 : decode cX8_listTokens 84 = .ok (.invokevirtual 95, 3) := by decide +kernel
theorem dX8_listTokens_87 : decode cX8_listTokens 87 = .ok (.goto 33, 3) := by decide +kernel
theorem dX8_listTokens_90 : decode cX8_listTokens 90 = .ok (.iload_n 3, 1) := by decide +kernel
theorem dX8_listTokens_91 : decode cX8_listTokens 91 = .ok (.bipush 32, 2) := by decide +kernel
theorem dX8_listTokens_93 : decode cX8_listTokens 93 = .ok (.if_icmp .eq 27, 3) := by decide +kernel
theorem dX8_listTokens_96 : decode cX8_listTokens 96 = .ok (.iload_n 3, 1) := by decide +kernel
theorem dX8_listTokens_97 : decode cX8_listTokens 97 = .ok (.bipush 10, 2) := by decide +kernel
theorem dX8_listTokens_99 : decode cX8_listTokens 99 = .ok (.if_icmp .eq 21, 3) := by decide +kernel
theorem dX8_listTokens_102 : decode cX8_listTokens 102 = .ok (.aload_n 0, 1) := by decide +kernel
theorem dX8_listTokens_103 : decode cX8_listTokens 103 = .ok (.iload_n 3, 1) := by decide +kernel
theorem dX8_listTokens_104 : decode cX8_listTokens 104 = .ok (.invokestatic 99, 3) := by decide +kernel
theorem dX8_listTokens_107 : decode cX8_listTokens 107 = .ok (.ifCond .eq 7, 3) := by decide +kernel
theorem dX8_listTokens_110 : decode cX8_listTokens 110 = .ok (.iload_n 3, 1) := by decide +kernel
theorem dX8_listTokens_111 : decode cX8_listTokens 111 = .ok (.goto 4, 3) := by decide +kernel
theorem dX8_listTokens_114 : decode cX8_listTokens 114 = .ok (.iconst 1, 1) := by decide +kernel
theorem dX8_listTokens_115 : decode cX8_listTokens 115 = .ok (.iconst 0, 1) := by decide +kernel
theorem dX8_listTokens_116 : decode cX8_listTokens 116 = .ok (.iload_n 1, 1) := by decide +kernel
theorem dX8_listTokens_117 : decode cX8_listTokens 117 = .ok (.invokevirtual 95, 3) := by decide +kernel
theorem dX8_listTokens_120 : decode cX8_listTokens 120 = .ok (.iload 4, 2) := by decide +kernel
theorem dX8_listTokens_122 : decode cX8_listTokens 122 = .ok (.istore_n 1, 1) := by decide +kernel
theorem dX8_listTokens_123 : decode cX8_listTokens 123 = .ok (.iinc 2 1, 3) := by decide +kernel
theorem dX8_listTokens_126 : decode cX8_listTokens 126 = .ok (.goto (-117), 3) := by decide +kernel
theorem dX8_listTokens_129 : decode cX8_listTokens 129 = .ok (.aload_n 0, 1) := by decide +kernel
theorem dX8_listTokens_130 : decode cX8_listTokens 130 = .ok (.iconst 0, 1) := by decide +kernel
theorem dX8_listTokens_131 : decode cX8_listTokens 131 = .ok (.iconst 0, 1) := by decide +kernel
theorem dX8_listTokens_132 : decode cX8_listTokens 132 = .ok (.aload_n 0, 1) := by decide +kernel
theorem dX8_listTokens_133 : decode cX8_listTokens 133 = .ok (.getfield 15, 3) := by decide +kernel
theorem dX8_listTokens_136 : decode cX8_listTokens 136 = .ok (.invokevirtual 95, 3) := by decide +kernel
theorem dX8_listTokens_139 : decode cX8_listTokens 139 = .ok (.return_, 1) := by decide +kernel
theorem dX8_addToken_0 : decode cX8_addToken 0 = .ok (.aload_n 0, 1) := by decide +kernel
theorem dX8_addToken_1 : decode cX8_addToken 1 = .ok (.getfield 34, 3) := by decide +kernel
theorem dX8_addToken_4 : decode cX8_addToken 4 = .ok (.aload_n 0, 1) := by decide +kernel
theorem dX8_addToken_5 : decode cX8_addToken 5 = .ok (.getfield 25, 3) := by decide +kernel
theorem dX8_addToken_8 : decode cX8_addToken 8 = .ok (.arraylength, 1) := by decide +kernel
theorem dX8_addToken_9 : decode cX8_addToken 9 = .ok (.if_icmp .ge 43, 3) := by decide +kernel
theorem dX8_addToken_12 : decode cX8_addToken 12 = .ok (.aload_n 0, 1) := by decide +kernel
theorem dX8_addToken_13 : decode cX8_addToken 13 = .ok (.getfield 25, 3) := by decide +kernel
theorem dX8_addToken_16 : decode cX8_addToken 16 = .ok (.aload_n 0, 1) := by decide +kernel
theorem dX8_addToken_17 : decode cX8_addToken 17 = .ok (.getfield 34, 3) := by decide +kernel
theorem dX8_addToken_20 : decode cX8_addToken 20 = .ok (.iload_n 1, 1) := by decide +kernel
theorem dX8_addToken_21 : decode cX8_addToken 21 = .ok (.iastore, 1) := by decide +kernel
theorem dX8_addToken_22 : decode cX8_addToken 22 = .ok (.aload_n 0, 1) := by decide +kernel
theorem dX8_addToken_23 : decode cX8_addToken 23 = .ok (.getfield 28, 3) := by decide +kernel
theorem dX8_addToken_26 : decode cX8_addToken 26 = .ok (.aload_n 0, 1) := by decide +kernel
theorem dX8_addToken_27 : decode cX8_addToken 27 = .ok (.getfield 34, 3) := by decide +kernel
theorem dX8_addToken_30 : decode cX8_addToken 30 = .ok (.iload_n 2, 1) := by decide +kernel
theorem dX8_addToken_31 : decode cX8_addToken 31 = .ok (.iastore, 1) := by decide +kernel
theorem dX8_addToken_32 : decode cX8_addToken 32 = .ok (.aload_n 0, 1) := by decide +kernel
theorem dX8_addToken_33 : decode cX8_addToken 33 = .ok (.getfield 31, 3) := by decide +kernel
theorem dX8_addToken_36 : decode cX8_addToken 36 = .ok (.aload_n 0, 1) := by decide +kernel
theorem dX8_addToken_37 : decode cX8_addToken 37 = .ok (.getfield 34, 3) := by decide +kernel
theorem dX8_addToken_40 : decode cX8_addToken 40 = .ok (.iload_n 3, 1) := by decide +kernel
theorem dX8_addToken_41 : decode cX8_addToken 41 = .ok (.iastore, 1) := by decide +kernel
theorem dX8_addToken_42 : decode cX8_addToken 42 = .ok (.aload_n 0, 1) := by decide +kernel
theorem dX8_addToken_43 : decode cX8_addToken 43 = .ok (.dup, 1) := by decide +kernel
theorem dX8_addToken_44 : decode cX8_addToken 44 = .ok (.getfield 34, 3) := by decide +kernel
theorem dX8_addToken_47 : decode cX8_addToken 47 = .ok (.iconst 1, 1) := by decide +kernel
theorem dX8_addToken_48 : decode cX8_addToken 48 = .ok (.iadd, 1) := by decide +kernel
theorem dX8_addToken_49 : decode cX8_addToken 49 = .ok (.putfield 34, 3) := by decide +kernel
theorem dX8_addToken_52 : decode cX8_addToken 52 = .ok (.return_, 1) := by decide +kernel
theorem dX8_isLetter_0 : decode cX8_isLetter 0 = .ok (.iload_n 0, 1) := by decide +kernel
theorem dX8_isLetter_1 : decode cX8_isLetter 1 = .ok (.bipush 97, 2) := by decide +kernel
theorem dX8_isLetter_3 : decode cX8_isLetter 3 = .ok (.if_icmp .lt 9, 3) := by decide +kernel
theorem dX8_isLetter_6 : decode cX8_isLetter 6 = .ok (.iload_n 0, 1) := by decide +kernel
theorem dX8_isLetter_7 : decode cX8_isLetter 7 = .ok (.bipush 122, 2) := by decide +kernel
theorem dX8_isLetter_9 : decode cX8_isLetter 9 = .ok (.if_icmp .le 15, 3) := by decide +kernel
theorem dX8_isLetter_12 : decode cX8_isLetter 12 = .ok (.iload_n 0, 1) := by decide +kernel
theorem dX8_isLetter_13 : decode cX8_isLetter 13 = .ok (.bipush 65, 2) := by decide +kernel
theorem dX8_isLetter_15 : decode cX8_isLetter 15 = .ok (.if_icmp .lt 13, 3) := by decide +kernel
theorem dX8_isLetter_18 : decode cX8_isLetter 18 = .ok (.iload_n 0, 1) := by decide +kernel
theorem dX8_isLetter_19 : decode cX8_isLetter 19 = .ok (.bipush 90, 2) := by decide +kernel
theorem dX8_isLetter_21 : decode cX8_isLetter 21 = .ok (.if_icmp .gt 7, 3) := by decide +kernel
theorem dX8_isLetter_24 : decode cX8_isLetter 24 = .ok (.iconst 1, 1) := by decide +kernel
theorem dX8_isLetter_25 : decode cX8_isLetter 25 = .ok (.goto 4, 3) := by decide +kernel
theorem dX8_isLetter_28 : decode cX8_isLetter 28 = .ok (.iconst 0, 1) := by decide +kernel
theorem dX8_isLetter_29 : decode cX8_isLetter 29 = .ok (.ireturn, 1) := by decide +kernel
theorem dX8_isDigit_0 : decode cX8_isDigit 0 = .ok (.iload_n 0, 1) := by decide +kernel
theorem dX8_isDigit_1 : decode cX8_isDigit 1 = .ok (.bipush 48, 2) := by decide +kernel
theorem dX8_isDigit_3 : decode cX8_isDigit 3 = .ok (.if_icmp .lt 13, 3) := by decide +kernel
theorem dX8_isDigit_6 : decode cX8_isDigit 6 = .ok (.iload_n 0, 1) := by decide +kernel
theorem dX8_isDigit_7 : decode cX8_isDigit 7 = .ok (.bipush 57, 2) := by decide +kernel
theorem dX8_isDigit_9 : decode cX8_isDigit 9 = .ok (.if_icmp .gt 7, 3) := by decide +kernel
theorem dX8_isDigit_12 : decode cX8_isDigit 12 = .ok (.iconst 1, 1) := by decide +kernel
theorem dX8_isDigit_13 : decode cX8_isDigit 13 = .ok (.goto 4, 3) := by decide +kernel
theorem dX8_isDigit_16 : decode cX8_isDigit 16 = .ok (.iconst 0, 1) := by decide +kernel
theorem dX8_isDigit_17 : decode cX8_isDigit 17 = .ok (.ireturn, 1) := by decide +kernel
theorem dX8_isSign_0 : decode cX8_isSign 0 = .ok (.iload_n 0, 1) := by decide +kernel
theorem dX8_isSign_1 : decode cX8_isSign 1 = .ok (.lookupswitch 77 #[(42, 75), (43, 75), (44, 75), (59, 75), (60, 75), (61, 75), (123, 75), (125, 75)], 75) := by decide +kernel
theorem dX8_isSign_76 : decode cX8_isSign 76 = .ok (.iconst 1, 1) := by decide +kernel
theorem dX8_isSign_77 : decode cX8_isSign 77 = .ok (.ireturn, 1) := by decide +kernel
theorem dX8_isSign_78 : decode cX8_isSign 78 = .ok (.iconst 0, 1) := by decide +kernel
theorem dX8_isSign_79 : decode cX8_isSign 79 = .ok (.ireturn, 1) := by decide +kernel
theorem dX8_behindLetters_0 : decode cX8_behindLetters 0 = .ok (.iload_n 1, 1) := by decide +kernel
theorem dX8_behindLetters_1 : decode cX8_behindLetters 1 = .ok (.istore_n 2, 1) := by decide +kernel
theorem dX8_behindLetters_2 : decode cX8_behindLetters 2 = .ok (.iload_n 2, 1) := by decide +kernel
theorem dX8_behindLetters_3 : decode cX8_behindLetters 3 = .ok (.aload_n 0, 1) := by decide +kernel
theorem dX8_behindLetters_4 : decode cX8_behindLetters 4 = .ok (.getfield 15, 3) := by decide +kernel
theorem dX8_behindLetters_7 : decode cX8_behindLetters 7 = .ok (.if_icmp .ge 21, 3) := by decide +kernel
theorem dX8_behindLetters_10 : decode cX8_behindLetters 10 = .ok (.aload_n 0, 1) := by decide +kernel
theorem dX8_behindLetters_11 : decode cX8_behindLetters 11 = .ok (.getfield 9, 3) := by decide +kernel
theorem dX8_behindLetters_14 : decode cX8_behindLetters 14 = .ok (.iload_n 2, 1) := by decide +kernel
theorem dX8_behindLetters_15 : decode cX8_behindLetters 15 = .ok (.iaload, 1) := by decide +kernel
theorem dX8_behindLetters_16 : decode cX8_behindLetters 16 = .ok (.invokestatic 73, 3) := by decide +kernel
theorem dX8_behindLetters_19 : decode cX8_behindLetters 19 = .ok (.ifCond .eq 9, 3) := by decide +kernel
theorem dX8_behindLetters_22 : decode cX8_behindLetters 22 = .ok (.iinc 2 1, 3) := by decide +kernel
theorem dX8_behindLetters_25 : decode cX8_behindLetters 25 = .ok (.goto (-23), 3) := by decide +kernel
theorem dX8_behindLetters_28 : decode cX8_behindLetters 28 = .ok (.iload_n 2, 1) := by decide +kernel
theorem dX8_behindLetters_29 : decode cX8_behindLetters 29 = .ok (.ireturn, 1) := by decide +kernel
theorem dX8_behindDigits_0 : decode cX8_behindDigits 0 = .ok (.iload_n 1, 1) := by decide +kernel
theorem dX8_behindDigits_1 : decode cX8_behindDigits 1 = .ok (.istore_n 2, 1) := by decide +kernel
theorem dX8_behindDigits_2 : decode cX8_behindDigits 2 = .ok (.iload_n 2, 1) := by decide +kernel
theorem dX8_behindDigits_3 : decode cX8_behindDigits 3 = .ok (.aload_n 0, 1) := by decide +kernel
theorem dX8_behindDigits_4 : decode cX8_behindDigits 4 = .ok (.getfield 15, 3) := by decide +kernel
theorem dX8_behindDigits_7 : decode cX8_behindDigits 7 = .ok (.if_icmp .ge 21, 3) := by decide +kernel
theorem dX8_behindDigits_10 : decode cX8_behindDigits 10 = .ok (.aload_n 0, 1) := by decide +kernel
theorem dX8_behindDigits_11 : decode cX8_behindDigits 11 = .ok (.getfield 9, 3) := by decide +kernel
theorem dX8_behindDigits_14 : decode cX8_behindDigits 14 = .ok (.iload_n 2, 1) := by decide +kernel
theorem dX8_behindDigits_15 : decode cX8_behindDigits 15 = .ok (.iaload, 1) := by decide +kernel
theorem dX8_behindDigits_16 : decode cX8_behindDigits 16 = .ok (.invokestatic 85, 3) := by decide +kernel
theorem dX8_behindDigits_19 : decode cX8_behindDigits 19 = .ok (.ifCond .eq 9, 3) := by decide +kernel
theorem dX8_behindDigits_22 : decode cX8_behindDigits 22 = .ok (.iinc 2 1, 3) := by decide +kernel
theorem dX8_behindDigits_25 : decode cX8_behindDigits 25 = .ok (.goto (-23), 3) := by decide +kernel
theorem dX8_behindDigits_28 : decode cX8_behindDigits 28 = .ok (.iload_n 2, 1) := by decide +kernel
theorem dX8_behindDigits_29 : decode cX8_behindDigits 29 = .ok (.ireturn, 1) := by decide +kernel
theorem dX8_numberFrom_0 : decode cX8_numberFrom 0 = .ok (.iconst 0, 1) := by decide +kernel
theorem dX8_numberFrom_1 : decode cX8_numberFrom 1 = .ok (.istore_n 3, 1) := by decide +kernel
theorem dX8_numberFrom_2 : decode cX8_numberFrom 2 = .ok (.iload_n 1, 1) := by decide +kernel
theorem dX8_numberFrom_3 : decode cX8_numberFrom 3 = .ok (.istore 4, 2) := by decide +kernel
theorem dX8_numberFrom_5 : decode cX8_numberFrom 5 = .ok (.iload 4, 2) := by decide +kernel
theorem dX8_numberFrom_7 : decode cX8_numberFrom 7 = .ok (.iload_n 2, 1) := by decide +kernel
theorem dX8_numberFrom_8 : decode cX8_numberFrom 8 = .ok (.if_icmp .ge 31, 3) := by decide +kernel
theorem dX8_numberFrom_11 : decode cX8_numberFrom 11 = .ok (.sipush 10000, 3) := by decide +kernel
theorem dX8_numberFrom_14 : decode cX8_numberFrom 14 = .ok (.iload_n 3, 1) := by decide +kernel
theorem dX8_numberFrom_15 : decode cX8_numberFrom 15 = .ok (.bipush 10, 2) := by decide +kernel
theorem dX8_numberFrom_17 : decode cX8_numberFrom 17 = .ok (.imul, 1) := by decide +kernel
theorem dX8_numberFrom_18 : decode cX8_numberFrom 18 = .ok (.aload_n 0, 1) := by decide +kernel
theorem dX8_numberFrom_19 : decode cX8_numberFrom 19 = .ok (.getfield 9, 3) := by decide +kernel
theorem dX8_numberFrom_22 : decode cX8_numberFrom 22 = .ok (.iload 4, 2) := by decide +kernel
theorem dX8_numberFrom_24 : decode cX8_numberFrom 24 = .ok (.iaload, 1) := by decide +kernel
theorem dX8_numberFrom_25 : decode cX8_numberFrom 25 = .ok (.iadd, 1) := by decide +kernel
theorem dX8_numberFrom_26 : decode cX8_numberFrom 26 = .ok (.bipush 48, 2) := by decide +kernel
theorem dX8_numberFrom_28 : decode cX8_numberFrom 28 = .ok (.isub, 1) := by decide +kernel
theorem dX8_numberFrom_29 : decode cX8_numberFrom 29 = .ok (.invokestatic 102, 3) := by decide +kernel
theorem dX8_numberFrom_32 : decode cX8_numberFrom 32 = .ok (.istore_n 3, 1) := by decide +kernel
theorem dX8_numberFrom_33 : decode cX8_numberFrom 33 = .ok (.iinc 4 1, 3) := by decide +kernel
theorem dX8_numberFrom_36 : decode cX8_numberFrom 36 = .ok (.goto (-31), 3) := by decide +kernel
theorem dX8_numberFrom_39 : decode cX8_numberFrom 39 = .ok (.iload_n 3, 1) := by decide +kernel
theorem dX8_numberFrom_40 : decode cX8_numberFrom 40 = .ok (.ireturn, 1) := by decide +kernel
theorem dX8_addWord_0 : decode cX8_addWord 0 = .ok (.aload_n 0, 1) := by decide +kernel
theorem dX8_addWord_1 : decode cX8_addWord 1 = .ok (.getfield 9, 3) := by decide +kernel
theorem dX8_addWord_4 : decode cX8_addWord 4 = .ok (.iload_n 1, 1) := by decide +kernel
theorem dX8_addWord_5 : decode cX8_addWord 5 = .ok (.iaload, 1) := by decide +kernel
theorem dX8_addWord_6 : decode cX8_addWord 6 = .ok (.bipush 97, 2) := by decide +kernel
theorem dX8_addWord_8 : decode cX8_addWord 8 = .ok (.isub, 1) := by decide +kernel
theorem dX8_addWord_9 : decode cX8_addWord 9 = .ok (.istore_n 3, 1) := by decide +kernel
theorem dX8_addWord_10 : decode cX8_addWord 10 = .ok (.iload_n 2, 1) := by decide +kernel
theorem dX8_addWord_11 : decode cX8_addWord 11 = .ok (.iload_n 1, 1) := by decide +kernel
theorem dX8_addWord_12 : decode cX8_addWord 12 = .ok (.isub, 1) := by decide +kernel
theorem dX8_addWord_13 : decode cX8_addWord 13 = .ok (.iconst 1, 1) := by decide +kernel
theorem dX8_addWord_14 : decode cX8_addWord 14 = .ok (.if_icmp .ne 22, 3) := by decide +kernel
theorem dX8_addWord_17 : decode cX8_addWord 17 = .ok (.iload_n 3, 1) := by decide +kernel
theorem dX8_addWord_18 : decode cX8_addWord 18 = .ok (.ifCond .lt 18, 3) := by decide +kernel
theorem dX8_addWord_21 : decode cX8_addWord 21 = .ok (.iload_n 3, 1) := by decide +kernel
theorem dX8_addWord_22 : decode cX8_addWord 22 = .ok (.iconst 3, 1) := by decide +kernel
theorem dX8_addWord_23 : decode cX8_addWord 23 = .ok (.if_icmp .ge 13, 3) := by decide +kernel
theorem dX8_addWord_26 : decode cX8_addWord 26 = .ok (.aload_n 0, 1) := by decide +kernel
theorem dX8_addWord_27 : decode cX8_addWord 27 = .ok (.iconst 3, 1) := by decide +kernel
theorem dX8_addWord_28 : decode cX8_addWord 28 = .ok (.iload_n 3, 1) := by decide +kernel
theorem dX8_addWord_29 : decode cX8_addWord 29 = .ok (.iload_n 1, 1) := by decide +kernel
theorem dX8_addWord_30 : decode cX8_addWord 30 = .ok (.invokevirtual 95, 3) := by decide +kernel
theorem dX8_addWord_33 : decode cX8_addWord 33 = .ok (.goto 15, 3) := by decide +kernel
theorem dX8_addWord_36 : decode cX8_addWord 36 = .ok (.aload_n 0, 1) := by decide +kernel
theorem dX8_addWord_37 : decode cX8_addWord 37 = .ok (.aload_n 0, 1) := by decide +kernel
theorem dX8_addWord_38 : decode cX8_addWord 38 = .ok (.iload_n 1, 1) := by decide +kernel
theorem dX8_addWord_39 : decode cX8_addWord 39 = .ok (.iload_n 2, 1) := by decide +kernel
theorem dX8_addWord_40 : decode cX8_addWord 40 = .ok (.invokevirtual 107, 3) := by decide +kernel
theorem dX8_addWord_43 : decode cX8_addWord 43 = .ok (.iconst 0, 1) := by decide +kernel
theorem dX8_addWord_44 : decode cX8_addWord 44 = .ok (.iload_n 1, 1) := by decide +kernel
theorem dX8_addWord_45 : decode cX8_addWord 45 = .ok (.invokevirtual 95, 3) := by decide +kernel
theorem dX8_addWord_48 : decode cX8_addWord 48 = .ok (.return_, 1) := by decide +kernel
theorem dX8_wordKind_0 : decode cX8_wordKind 0 = .ok (.aload_n 0, 1) := by decide +kernel
theorem dX8_wordKind_1 : decode cX8_wordKind 1 = .ok (.ldc 110, 2) := by decide +kernel
theorem dX8_wordKind_3 : decode cX8_wordKind 3 = .ok (.iload_n 1, 1) := by decide +kernel
theorem dX8_wordKind_4 : decode cX8_wordKind 4 = .ok (.iload_n 2, 1) := by decide +kernel
theorem dX8_wordKind_5 : decode cX8_wordKind 5 = .ok (.invokevirtual 112, 3) := by decide +kernel
theorem dX8_wordKind_8 : decode cX8_wordKind 8 = .ok (.ifCond .eq 5, 3) := by decide +kernel
theorem dX8_wordKind_11 : decode cX8_wordKind 11 = .ok (.iconst 4, 1) := by decide +kernel
theorem dX8_wordKind_12 : decode cX8_wordKind 12 = .ok (.ireturn, 1) := by decide +kernel
theorem dX8_wordKind_13 : decode cX8_wordKind 13 = .ok (.aload_n 0, 1) := by decide +kernel
theorem dX8_wordKind_14 : decode cX8_wordKind 14 = .ok (.ldc 116, 2) := by decide +kernel
theorem dX8_wordKind_16 : decode cX8_wordKind 16 = .ok (.iload_n 1, 1) := by decide +kernel
theorem dX8_wordKind_17 : decode cX8_wordKind 17 = .ok (.iload_n 2, 1) := by decide +kernel
theorem dX8_wordKind_18 : decode cX8_wordKind 18 = .ok (.invokevirtual 112, 3) := by decide +kernel
theorem dX8_wordKind_21 : decode cX8_wordKind 21 = .ok (.ifCond .eq 5, 3) := by decide +kernel
theorem dX8_wordKind_24 : decode cX8_wordKind 24 = .ok (.iconst 5, 1) := by decide +kernel
theorem dX8_wordKind_25 : decode cX8_wordKind 25 = .ok (.ireturn, 1) := by decide +kernel
theorem dX8_wordKind_26 : decode cX8_wordKind 26 = .ok (.aload_n 0, 1) := by decide +kernel
theorem dX8_wordKind_27 : decode cX8_wordKind 27 = .ok (.ldc 118, 2) := by decide +kernel
theorem dX8_wordKind_29 : decode cX8_wordKind 29 = .ok (.iload_n 1, 1) := by decide +kernel
theorem dX8_wordKind_30 : decode cX8_wordKind 30 = .ok (.iload_n 2, 1) := by decide +kernel
theorem dX8_wordKind_31 : decode cX8_wordKind 31 = .ok (.invokevirtual 112, 3) := by decide +kernel
theorem dX8_wordKind_34 : decode cX8_wordKind 34 = .ok (.ifCond .eq 6, 3) := by decide +kernel
theorem dX8_wordKind_37 : decode cX8_wordKind 37 = .ok (.bipush 6, 2) := by decide +kernel
theorem dX8_wordKind_39 : decode cX8_wordKind 39 = .ok (.ireturn, 1) := by decide +kernel
theorem dX8_wordKind_40 : decode cX8_wordKind 40 = .ok (.aload_n 0, 1) := by decide +kernel
theorem dX8_wordKind_41 : decode cX8_wordKind 41 = .ok (.ldc 120, 2) := by decide +kernel
theorem dX8_wordKind_43 : decode cX8_wordKind 43 = .ok (.iload_n 1, 1) := by decide +kernel
theorem dX8_wordKind_44 : decode cX8_wordKind 44 = .ok (.iload_n 2, 1) := by decide +kernel
theorem dX8_wordKind_45 : decode cX8_wordKind 45 = .ok (.invokevirtual 112, 3) := by decide +kernel
theorem dX8_wordKind_48 : decode cX8_wordKind 48 = .ok (.ifCond .eq 6, 3) := by decide +kernel
theorem dX8_wordKind_51 : decode cX8_wordKind 51 = .ok (.bipush 7, 2) := by decide +kernel
theorem dX8_wordKind_53 : decode cX8_wordKind 53 = .ok (.ireturn, 1) := by decide +kernel
theorem dX8_wordKind_54 : decode cX8_wordKind 54 = .ok (.aload_n 0, 1) := by decide +kernel
theorem dX8_wordKind_55 : decode cX8_wordKind 55 = .ok (.ldc 122, 2) := by decide +kernel
theorem dX8_wordKind_57 : decode cX8_wordKind 57 = .ok (.iload_n 1, 1) := by decide +kernel
theorem dX8_wordKind_58 : decode cX8_wordKind 58 = .ok (.iload_n 2, 1) := by decide +kernel
theorem dX8_wordKind_59 : decode cX8_wordKind 59 = .ok (.invokevirtual 112, 3) := by decide +kernel
theorem dX8_wordKind_62 : decode cX8_wordKind 62 = .ok (.ifCond .eq 6, 3) := by decide +kernel
theorem dX8_wordKind_65 : decode cX8_wordKind 65 = .ok (.bipush 8, 2) := by decide +kernel
theorem dX8_wordKind_67 : decode cX8_wordKind 67 = .ok (.ireturn, 1) := by decide +kernel
theorem dX8_wordKind_68 : decode cX8_wordKind 68 = .ok (.aload_n 0, 1) := by decide +kernel
theorem dX8_wordKind_69 : decode cX8_wordKind 69 = .ok (.ldc 124, 2) := by decide +kernel
theorem dX8_wordKind_71 : decode cX8_wordKind 71 = .ok (.iload_n 1, 1) := by decide +kernel
theorem dX8_wordKind_72 : decode cX8_wordKind 72 = .ok (.iload_n 2, 1) := by decide +kernel
theorem dX8_wordKind_73 : decode cX8_wordKind 73 = .ok (.invokevirtual 112, 3) := by decide +kernel
theorem dX8_wordKind_76 : decode cX8_wordKind 76 = .ok (.ifCond .eq 6, 3) := by decide +kernel
theorem dX8_wordKind_79 : decode cX8_wordKind 79 = .ok (.bipush 9, 2) := by decide +kernel
theorem dX8_wordKind_81 : decode cX8_wordKind 81 = .ok (.ireturn, 1) := by decide +kernel
theorem dX8_wordKind_82 : decode cX8_wordKind 82 = .ok (.aload_n 0, 1) := by decide +kernel
theorem dX8_wordKind_83 : decode cX8_wordKind 83 = .ok (.ldc 126, 2) := by decide +kernel
theorem dX8_wordKind_85 : decode cX8_wordKind 85 = .ok (.iload_n 1, 1) := by decide +kernel
theorem dX8_wordKind_86 : decode cX8_wordKind 86 = .ok (.iload_n 2, 1) := by decide +kernel
theorem dX8_wordKind_87 : decode cX8_wordKind 87 = .ok (.invokevirtual 112, 3) := by decide +kernel
theorem dX8_wordKind_90 : decode cX8_wordKind 90 = .ok (.ifCond .eq 8, 3) := by decide +kernel
theorem dX8_wordKind_93 : decode cX8_wordKind 93 = .ok (.bipush 10, 2) := by decide +kernel
theorem dX8_wordKind_95 : decode cX8_wordKind 95 = .ok (.goto 4, 3) := by decide +kernel
theorem dX8_wordKind_98 : decode cX8_wordKind 98 = .ok (.iconst 1, 1) := by decide +kernel
theorem dX8_wordKind_99 : decode cX8_wordKind 99 = .ok (.ireturn, 1) := by decide +kernel
theorem dX8_spells_0 : decode cX8_spells 0 = .ok (.aload_n 1, 1) := by decide +kernel
theorem dX8_spells_1 : decode cX8_spells 1 = .ok (.invokevirtual 128, 3) := by decide +kernel
theorem dX8_spells_4 : decode cX8_spells 4 = .ok (.iload_n 3, 1) := by decide +kernel
theorem dX8_spells_5 : decode cX8_spells 5 = .ok (.iload_n 2, 1) := by decide +kernel
theorem dX8_spells_6 : decode cX8_spells 6 = .ok (.isub, 1) := by decide +kernel
theorem dX8_spells_7 : decode cX8_spells 7 = .ok (.if_icmp .eq 5, 3) := by decide +kernel
theorem dX8_spells_10 : decode cX8_spells 10 = .ok (.iconst 0, 1) := by decide +kernel
theorem dX8_spells_11 : decode cX8_spells 11 = .ok (.ireturn, 1) := by decide +kernel
theorem dX8_spells_12 : decode cX8_spells 12 = .ok (.iconst 0, 1) := by decide +kernel
theorem dX8_spells_13 : decode cX8_spells 13 = .ok (.istore 4, 2) := by decide +kernel
theorem dX8_spells_15 : decode cX8_spells 15 = .ok (.iload 4, 2) := by decide +kernel
theorem dX8_spells_17 : decode cX8_spells 17 = .ok (.aload_n 1, 1) := by decide +kernel
theorem dX8_spells_18 : decode cX8_spells 18 = .ok (.invokevirtual 128, 3) := by decide +kernel
theorem dX8_spells_21 : decode cX8_spells 21 = .ok (.if_icmp .ge 29, 3) := by decide +kernel
theorem dX8_spells_24 : decode cX8_spells 24 = .ok (.aload_n 1, 1) := by decide +kernel
theorem dX8_spells_25 : decode cX8_spells 25 = .ok (.iload 4, 2) := by decide +kernel
theorem dX8_spells_27 : decode cX8_spells 27 = .ok (.invokevirtual 133, 3) := by decide +kernel
theorem dX8_spells_30 : decode cX8_spells 30 = .ok (.aload_n 0, 1) := by decide +kernel
theorem dX8_spells_31 : decode cX8_spells 31 = .ok (.getfield 9, 3) := by decide +kernel
theorem dX8_spells_34 : decode cX8_spells 34 = .ok (.iload_n 2, 1) := by decide +kernel
theorem dX8_spells_35 : decode cX8_spells 35 = .ok (.iload 4, 2) := by decide +kernel
theorem dX8_spells_37 : decode cX8_spells 37 = .ok (.iadd, 1) := by decide +kernel
theorem dX8_spells_38 : decode cX8_spells 38 = .ok (.iaload, 1) := by decide +kernel
theorem dX8_spells_39 : decode cX8_spells 39 = .ok (.if_icmp .eq 5, 3) := by decide +kernel
theorem dX8_spells_42 : decode cX8_spells 42 = .ok (.iconst 0, 1) := by decide +kernel
theorem dX8_spells_43 : decode cX8_spells 43 = .ok (.ireturn, 1) := by decide +kernel
theorem dX8_spells_44 : decode cX8_spells 44 = .ok (.iinc 4 1, 3) := by decide +kernel
theorem dX8_spells_47 : decode cX8_spells 47 = .ok (.goto (-32), 3) := by decide +kernel
theorem dX8_spells_50 : decode cX8_spells 50 = .ok (.iconst 1, 1) := by decide +kernel
theorem dX8_spells_51 : decode cX8_spells 51 = .ok (.ireturn, 1) := by decide +kernel
theorem dX8_blame_0 : decode cX8_blame 0 = .ok (.aload_n 0, 1) := by decide +kernel
theorem dX8_blame_1 : decode cX8_blame 1 = .ok (.getfield 19, 3) := by decide +kernel
theorem dX8_blame_4 : decode cX8_blame 4 = .ok (.ifCond .ne 21, 3) := by decide +kernel
theorem dX8_blame_7 : decode cX8_blame 7 = .ok (.aload_n 0, 1) := by decide +kernel
theorem dX8_blame_8 : decode cX8_blame 8 = .ok (.iload_n 1, 1) := by decide +kernel
theorem dX8_blame_9 : decode cX8_blame 9 = .ok (.putfield 19, 3) := by decide +kernel
theorem dX8_blame_12 : decode cX8_blame 12 = .ok (.aload_n 0, 1) := by decide +kernel
theorem dX8_blame_13 : decode cX8_blame 13 = .ok (.aload_n 0, 1) := by decide +kernel
theorem dX8_blame_14 : decode cX8_blame 14 = .ok (.getfield 31, 3) := by decide +kernel
theorem dX8_blame_17 : decode cX8_blame 17 = .ok (.aload_n 0, 1) := by decide +kernel
theorem dX8_blame_18 : decode cX8_blame 18 = .ok (.getfield 37, 3) := by decide +kernel
theorem dX8_blame_21 : decode cX8_blame 21 = .ok (.iaload, 1) := by decide +kernel
theorem dX8_blame_22 : decode cX8_blame 22 = .ok (.putfield 22, 3) := by decide +kernel
theorem dX8_blame_25 : decode cX8_blame 25 = .ok (.return_, 1) := by decide +kernel
theorem dX8_take_0 : decode cX8_take 0 = .ok (.aload_n 0, 1) := by decide +kernel
theorem dX8_take_1 : decode cX8_take 1 = .ok (.getfield 19, 3) := by decide +kernel
theorem dX8_take_4 : decode cX8_take 4 = .ok (.ifCond .ne 29, 3) := by decide +kernel
theorem dX8_take_7 : decode cX8_take 7 = .ok (.aload_n 0, 1) := by decide +kernel
theorem dX8_take_8 : decode cX8_take 8 = .ok (.getfield 25, 3) := by decide +kernel
theorem dX8_take_11 : decode cX8_take 11 = .ok (.aload_n 0, 1) := by decide +kernel
theorem dX8_take_12 : decode cX8_take 12 = .ok (.getfield 37, 3) := by decide +kernel
theorem dX8_take_15 : decode cX8_take 15 = .ok (.iaload, 1) := by decide +kernel
theorem dX8_take_16 : decode cX8_take 16 = .ok (.iload_n 1, 1) := by decide +kernel
theorem dX8_take_17 : decode cX8_take 17 = .ok (.if_icmp .ne 16, 3) := by decide +kernel
theorem dX8_take_20 : decode cX8_take 20 = .ok (.aload_n 0, 1) := by decide +kernel
theorem dX8_take_21 : decode cX8_take 21 = .ok (.dup, 1) := by decide +kernel
theorem dX8_take_22 : decode cX8_take 22 = .ok (.getfield 37, 3) := by decide +kernel
theorem dX8_take_25 : decode cX8_take 25 = .ok (.iconst 1, 1) := by decide +kernel
theorem dX8_take_26 : decode cX8_take 26 = .ok (.iadd, 1) := by decide +kernel
theorem dX8_take_27 : decode cX8_take 27 = .ok (.putfield 37, 3) := by decide +kernel
theorem dX8_take_30 : decode cX8_take 30 = .ok (.goto 8, 3) := by decide +kernel
theorem dX8_take_33 : decode cX8_take 33 = .ok (.aload_n 0, 1) := by decide +kernel
theorem dX8_take_34 : decode cX8_take 34 = .ok (.iconst 1, 1) := by decide +kernel
theorem dX8_take_35 : decode cX8_take 35 = .ok (.invokevirtual 64, 3) := by decide +kernel
theorem dX8_take_38 : decode cX8_take 38 = .ok (.return_, 1) := by decide +kernel
theorem dX8_statement_0 : decode cX8_statement 0 = .ok (.aload_n 0, 1) := by decide +kernel
theorem dX8_statement_1 : decode cX8_statement 1 = .ok (.getfield 25, 3) := by decide +kernel
theorem dX8_statement_4 : decode cX8_statement 4 = .ok (.aload_n 0, 1) := by decide +kernel
theorem dX8_statement_5 : decode cX8_statement 5 = .ok (.getfield 37, 3) := by decide +kernel
theorem dX8_statement_8 : decode cX8_statement 8 = .ok (.iaload, 1) := by decide +kernel
theorem dX8_statement_9 : decode cX8_statement 9 = .ok (.istore_n 1, 1) := by decide +kernel
theorem dX8_statement_10 : decode cX8_statement 10 = .ok (.iload_n 1, 1) := by decide +kernel
theorem dX8_statement_11 : decode cX8_statement 11 = .ok (.iconst 4, 1) := by decide +kernel
theorem dX8_statement_12 : decode cX8_statement 12 = .ok (.if_icmp .lt 9, 3) := by decide +kernel
theorem dX8_statement_15 : decode cX8_statement 15 = .ok (.iload_n 1, 1) := by decide +kernel
theorem dX8_statement_16 : decode cX8_statement 16 = .ok (.bipush 10, 2) := by decide +kernel
theorem dX8_statement_18 : decode cX8_statement 18 = .ok (.if_icmp .le 9, 3) := by decide +kernel
theorem dX8_statement_21 : decode cX8_statement 21 = .ok (.aload_n 0, 1) := by decide +kernel
theorem dX8_statement_22 : decode cX8_statement 22 = .ok (.iconst 1, 1) := by decide +kernel
theorem dX8_statement_23 : decode cX8_statement 23 = .ok (.invokevirtual 64, 3) := by decide +kernel
theorem dX8_statement_26 : decode cX8_statement 26 = .ok (.return_, 1) := by decide +kernel
theorem dX8_statement_27 : decode cX8_statement 27 = .ok (.iload_n 1, 1) := by decide +kernel
theorem dX8_statement_28 : decode cX8_statement 28 = .ok (.bipush 9, 2) := by decide +kernel
theorem dX8_statement_30 : decode cX8_statement 30 = .ok (.if_icmp .eq 9, 3) := by decide +kernel
theorem dX8_statement_33 : decode cX8_statement 33 = .ok (.iload_n 1, 1) := by decide +kernel
theorem dX8_statement_34 : decode cX8_statement 34 = .ok (.bipush 10, 2) := by decide +kernel
theorem dX8_statement_36 : decode cX8_statement 36 = .ok (.if_icmp .ne 17, 3) := by decide +kernel
theorem dX8_statement_39 : decode cX8_statement 39 = .ok (.aload_n 0, 1) := by decide +kernel
theorem dX8_statement_40 : decode cX8_statement 40 = .ok (.getfield 43, 3) := by decide +kernel
theorem dX8_statement_43 : decode cX8_statement 43 = .ok (.iconst 3, 1) := by decide +kernel
theorem dX8_statement_44 : decode cX8_statement 44 = .ok (.if_icmp .ne 9, 3) := by decide +kernel
theorem dX8_statement_47 : decode cX8_statement 47 = .ok (.aload_n 0, 1) := by decide +kernel
theorem dX8_statement_48 : decode cX8_statement 48 = .ok (.iconst 3, 1) := by decide +kernel
theorem dX8_statement_49 : decode cX8_statement 49 = .ok (.invokevirtual 64, 3) := by decide +kernel
theorem dX8_statement_52 : decode cX8_statement 52 = .ok (.return_, 1) := by decide +kernel
theorem dX8_statement_53 : decode cX8_statement 53 = .ok (.aload_n 0, 1) := by decide +kernel
theorem dX8_statement_54 : decode cX8_statement 54 = .ok (.getfield 40, 3) := by decide +kernel
theorem dX8_statement_57 : decode cX8_statement 57 = .ok (.bipush 40, 2) := by decide +kernel
theorem dX8_statement_59 : decode cX8_statement 59 = .ok (.if_icmp .ne 9, 3) := by decide +kernel
theorem dX8_statement_62 : decode cX8_statement 62 = .ok (.aload_n 0, 1) := by decide +kernel
theorem dX8_statement_63 : decode cX8_statement 63 = .ok (.iconst 5, 1) := by decide +kernel
theorem dX8_statement_64 : decode cX8_statement 64 = .ok (.invokevirtual 64, 3) := by decide +kernel
theorem dX8_statement_67 : decode cX8_statement 67 = .ok (.return_, 1) := by decide +kernel
theorem dX8_statement_68 : decode cX8_statement 68 = .ok (.aload_n 0, 1) := by decide +kernel
theorem dX8_statement_69 : decode cX8_statement 69 = .ok (.dup, 1) := by decide +kernel
theorem dX8_statement_70 : decode cX8_statement 70 = .ok (.getfield 40, 3) := by decide +kernel
theorem dX8_statement_73 : decode cX8_statement 73 = .ok (.iconst 1, 1) := by decide +kernel
theorem dX8_statement_74 : decode cX8_statement 74 = .ok (.iadd, 1) := by decide +kernel
theorem dX8_statement_75 : decode cX8_statement 75 = .ok (.putfield 40, 3) := by decide +kernel
theorem dX8_statement_78 : decode cX8_statement 78 = .ok (.aload_n 0, 1) := by decide +kernel
theorem dX8_statement_79 : decode cX8_statement 79 = .ok (.dup, 1) := by decide +kernel
theorem dX8_statement_80 : decode cX8_statement 80 = .ok (.getfield 37, 3) := by decide +kernel
theorem dX8_statement_83 : decode cX8_statement 83 = .ok (.iconst 1, 1) := by decide +kernel
theorem dX8_statement_84 : decode cX8_statement 84 = .ok (.iadd, 1) := by decide +kernel
theorem dX8_statement_85 : decode cX8_statement 85 = .ok (.putfield 37, 3) := by decide +kernel
theorem dX8_statement_88 : decode cX8_statement 88 = .ok (.aload_n 0, 1) := by decide +kernel
theorem dX8_statement_89 : decode cX8_statement 89 = .ok (.iload_n 1, 1) := by decide +kernel
theorem dX8_statement_90 : decode cX8_statement 90 = .ok (.invokevirtual 137, 3) := by decide +kernel
theorem dX8_statement_93 : decode cX8_statement 93 = .ok (.return_, 1) := by decide +kernel
theorem dX8_behindWord_0 : decode cX8_behindWord 0 = .ok (.iload_n 1, 1) := by decide +kernel
theorem dX8_behindWord_1 : decode cX8_behindWord 1 = .ok (.tableswitch 124 4 10 #[43, 57, 43, 124, 124, 71, 83], 43) := by decide +kernel
theorem dX8_behindWord_44 : decode cX8_behindWord 44 = .ok (.aload_n 0, 1) := by decide +kernel
theorem dX8_behindWord_45 : decode cX8_behindWord 45 = .ok (.iconst 2, 1) := by decide +kernel
theorem dX8_behindWord_46 : decode cX8_behindWord 46 = .ok (.invokevirtual 140, 3) := by decide +kernel
theorem dX8_behindWord_49 : decode cX8_behindWord 49 = .ok (.aload_n 0, 1) := by decide +kernel
theorem dX8_behindWord_50 : decode cX8_behindWord 50 = .ok (.bipush 59, 2) := by decide +kernel
theorem dX8_behindWord_52 : decode cX8_behindWord 52 = .ok (.invokevirtual 143, 3) := by decide +kernel
theorem dX8_behindWord_55 : decode cX8_behindWord 55 = .ok (.goto 76, 3) := by decide +kernel
theorem dX8_behindWord_58 : decode cX8_behindWord 58 = .ok (.aload_n 0, 1) := by decide +kernel
theorem dX8_behindWord_59 : decode cX8_behindWord 59 = .ok (.iconst 3, 1) := by decide +kernel
theorem dX8_behindWord_60 : decode cX8_behindWord 60 = .ok (.invokevirtual 140, 3) := by decide +kernel
theorem dX8_behindWord_63 : decode cX8_behindWord 63 = .ok (.aload_n 0, 1) := by decide +kernel
theorem dX8_behindWord_64 : decode cX8_behindWord 64 = .ok (.bipush 59, 2) := by decide +kernel
theorem dX8_behindWord_66 : decode cX8_behindWord 66 = .ok (.invokevirtual 143, 3) := by decide +kernel
theorem dX8_behindWord_69 : decode cX8_behindWord 69 = .ok (.goto 62, 3) := by decide +kernel
theorem dX8_behindWord_72 : decode cX8_behindWord 72 = .ok (.aload_n 0, 1) := by decide +kernel
theorem dX8_behindWord_73 : decode cX8_behindWord 73 = .ok (.invokevirtual 146, 3) := by decide +kernel
theorem dX8_behindWord_76 : decode cX8_behindWord 76 = .ok (.aload_n 0, 1) := by decide +kernel
theorem dX8_behindWord_77 : decode cX8_behindWord 77 = .ok (.iconst 1, 1) := by decide +kernel
theorem dX8_behindWord_78 : decode cX8_behindWord 78 = .ok (.invokevirtual 149, 3) := by decide +kernel
theorem dX8_behindWord_81 : decode cX8_behindWord 81 = .ok (.goto 50, 3) := by decide +kernel
theorem dX8_behindWord_84 : decode cX8_behindWord 84 = .ok (.aload_n 0, 1) := by decide +kernel
theorem dX8_behindWord_85 : decode cX8_behindWord 85 = .ok (.invokevirtual 153, 3) := by decide +kernel
theorem dX8_behindWord_88 : decode cX8_behindWord 88 = .ok (.aload_n 0, 1) := by decide +kernel
theorem dX8_behindWord_89 : decode cX8_behindWord 89 = .ok (.aload_n 0, 1) := by decide +kernel
theorem dX8_behindWord_90 : decode cX8_behindWord 90 = .ok (.getfield 25, 3) := by decide +kernel
theorem dX8_behindWord_93 : decode cX8_behindWord 93 = .ok (.aload_n 0, 1) := by decide +kernel
theorem dX8_behindWord_94 : decode cX8_behindWord 94 = .ok (.getfield 37, 3) := by decide +kernel
theorem dX8_behindWord_97 : decode cX8_behindWord 97 = .ok (.iaload, 1) := by decide +kernel
theorem dX8_behindWord_98 : decode cX8_behindWord 98 = .ok (.bipush 60, 2) := by decide +kernel
theorem dX8_behindWord_100 : decode cX8_behindWord 100 = .ok (.if_icmp .ne 8, 3) := by decide +kernel
theorem dX8_behindWord_103 : decode cX8_behindWord 103 = .ok (.bipush 60, 2) := by decide +kernel
theorem dX8_behindWord_105 : decode cX8_behindWord 105 = .ok (.goto 5, 3) := by decide +kernel
theorem dX8_behindWord_108 : decode cX8_behindWord 108 = .ok (.bipush 61, 2) := by decide +kernel
theorem dX8_behindWord_110 : decode cX8_behindWord 110 = .ok (.invokevirtual 143, 3) := by decide +kernel
theorem dX8_behindWord_113 : decode cX8_behindWord 113 = .ok (.aload_n 0, 1) := by decide +kernel
theorem dX8_behindWord_114 : decode cX8_behindWord 114 = .ok (.invokevirtual 153, 3) := by decide +kernel
theorem dX8_behindWord_117 : decode cX8_behindWord 117 = .ok (.aload_n 0, 1) := by decide +kernel
theorem dX8_behindWord_118 : decode cX8_behindWord 118 = .ok (.iconst 0, 1) := by decide +kernel
theorem dX8_behindWord_119 : decode cX8_behindWord 119 = .ok (.invokevirtual 149, 3) := by decide +kernel
theorem dX8_behindWord_122 : decode cX8_behindWord 122 = .ok (.goto 9, 3) := by decide +kernel
theorem dX8_behindWord_125 : decode cX8_behindWord 125 = .ok (.aload_n 0, 1) := by decide +kernel
theorem dX8_behindWord_126 : decode cX8_behindWord 126 = .ok (.bipush 59, 2) := by decide +kernel
theorem dX8_behindWord_128 : decode cX8_behindWord 128 = .ok (.invokevirtual 143, 3) := by decide +kernel
theorem dX8_behindWord_131 : decode cX8_behindWord 131 = .ok (.return_, 1) := by decide +kernel
theorem dX8_times_0 : decode cX8_times 0 = .ok (.aload_n 0, 1) := by decide +kernel
theorem dX8_times_1 : decode cX8_times 1 = .ok (.getfield 25, 3) := by decide +kernel
theorem dX8_times_4 : decode cX8_times 4 = .ok (.aload_n 0, 1) := by decide +kernel
theorem dX8_times_5 : decode cX8_times 5 = .ok (.getfield 37, 3) := by decide +kernel
theorem dX8_times_8 : decode cX8_times 8 = .ok (.iaload, 1) := by decide +kernel
theorem dX8_times_9 : decode cX8_times 9 = .ok (.iconst 2, 1) := by decide +kernel
theorem dX8_times_10 : decode cX8_times 10 = .ok (.if_icmp .ne 35, 3) := by decide +kernel
theorem dX8_times_13 : decode cX8_times 13 = .ok (.aload_n 0, 1) := by decide +kernel
theorem dX8_times_14 : decode cX8_times 14 = .ok (.getfield 28, 3) := by decide +kernel
theorem dX8_times_17 : decode cX8_times 17 = .ok (.aload_n 0, 1) := by decide +kernel
theorem dX8_times_18 : decode cX8_times 18 = .ok (.getfield 37, 3) := by decide +kernel
theorem dX8_times_21 : decode cX8_times 21 = .ok (.iaload, 1) := by decide +kernel
theorem dX8_times_22 : decode cX8_times 22 = .ok (.iconst 1, 1) := by decide +kernel
theorem dX8_times_23 : decode cX8_times 23 = .ok (.if_icmp .lt 17, 3) := by decide +kernel
theorem dX8_times_26 : decode cX8_times 26 = .ok (.aload_n 0, 1) := by decide +kernel
theorem dX8_times_27 : decode cX8_times 27 = .ok (.getfield 28, 3) := by decide +kernel
theorem dX8_times_30 : decode cX8_times 30 = .ok (.aload_n 0, 1) := by decide +kernel
theorem dX8_times_31 : decode cX8_times 31 = .ok (.getfield 37, 3) := by decide +kernel
theorem dX8_times_34 : decode cX8_times 34 = .ok (.iaload, 1) := by decide +kernel
theorem dX8_times_35 : decode cX8_times 35 = .ok (.bipush 9, 2) := by decide +kernel
theorem dX8_times_37 : decode cX8_times 37 = .ok (.if_icmp .le 8, 3) := by decide +kernel
theorem dX8_times_40 : decode cX8_times 40 = .ok (.aload_n 0, 1) := by decide +kernel
theorem dX8_times_41 : decode cX8_times 41 = .ok (.iconst 2, 1) := by decide +kernel
theorem dX8_times_42 : decode cX8_times 42 = .ok (.invokevirtual 64, 3) := by decide +kernel
theorem dX8_times_45 : decode cX8_times 45 = .ok (.aload_n 0, 1) := by decide +kernel
theorem dX8_times_46 : decode cX8_times 46 = .ok (.iconst 2, 1) := by decide +kernel
theorem dX8_times_47 : decode cX8_times 47 = .ok (.invokevirtual 143, 3) := by decide +kernel
theorem dX8_times_50 : decode cX8_times 50 = .ok (.return_, 1) := by decide +kernel
theorem dX8_open_0 : decode cX8_open 0 = .ok (.aload_n 0, 1) := by decide +kernel
theorem dX8_open_1 : decode cX8_open 1 = .ok (.getfield 37, 3) := by decide +kernel
theorem dX8_open_4 : decode cX8_open 4 = .ok (.istore_n 2, 1) := by decide +kernel
theorem dX8_open_5 : decode cX8_open 5 = .ok (.aload_n 0, 1) := by decide +kernel
theorem dX8_open_6 : decode cX8_open 6 = .ok (.bipush 123, 2) := by decide +kernel
theorem dX8_open_8 : decode cX8_open 8 = .ok (.invokevirtual 143, 3) := by decide +kernel
theorem dX8_open_11 : decode cX8_open 11 = .ok (.aload_n 0, 1) := by decide +kernel
theorem dX8_open_12 : decode cX8_open 12 = .ok (.getfield 19, 3) := by decide +kernel
theorem dX8_open_15 : decode cX8_open 15 = .ok (.ifCond .ne 58, 3) := by decide +kernel
theorem dX8_open_18 : decode cX8_open 18 = .ok (.aload_n 0, 1) := by decide +kernel
theorem dX8_open_19 : decode cX8_open 19 = .ok (.getfield 43, 3) := by decide +kernel
theorem dX8_open_22 : decode cX8_open 22 = .ok (.iconst 3, 1) := by decide +kernel
theorem dX8_open_23 : decode cX8_open 23 = .ok (.if_icmp .ge 50, 3) := by decide +kernel
theorem dX8_open_26 : decode cX8_open 26 = .ok (.aload_n 0, 1) := by decide +kernel
theorem dX8_open_27 : decode cX8_open 27 = .ok (.getfield 46, 3) := by decide +kernel
theorem dX8_open_30 : decode cX8_open 30 = .ok (.aload_n 0, 1) := by decide +kernel
theorem dX8_open_31 : decode cX8_open 31 = .ok (.getfield 43, 3) := by decide +kernel
theorem dX8_open_34 : decode cX8_open 34 = .ok (.iload_n 2, 1) := by decide +kernel
theorem dX8_open_35 : decode cX8_open 35 = .ok (.iastore, 1) := by decide +kernel
theorem dX8_open_36 : decode cX8_open 36 = .ok (.iload_n 1, 1) := by decide +kernel
theorem dX8_open_37 : decode cX8_open 37 = .ok (.ifCond .eq 26, 3) := by decide +kernel
theorem dX8_open_40 : decode cX8_open 40 = .ok (.aload_n 0, 1) := by decide +kernel
theorem dX8_open_41 : decode cX8_open 41 = .ok (.getfield 52, 3) := by decide +kernel
theorem dX8_open_44 : decode cX8_open 44 = .ok (.aload_n 0, 1) := by decide +kernel
theorem dX8_open_45 : decode cX8_open 45 = .ok (.getfield 49, 3) := by decide +kernel
theorem dX8_open_48 : decode cX8_open 48 = .ok (.aload_n 0, 1) := by decide +kernel
theorem dX8_open_49 : decode cX8_open 49 = .ok (.getfield 43, 3) := by decide +kernel
theorem dX8_open_52 : decode cX8_open 52 = .ok (.iastore, 1) := by decide +kernel
theorem dX8_open_53 : decode cX8_open 53 = .ok (.aload_n 0, 1) := by decide +kernel
theorem dX8_open_54 : decode cX8_open 54 = .ok (.dup, 1) := by decide +kernel
theorem dX8_open_55 : decode cX8_open 55 = .ok (.getfield 49, 3) := by decide +kernel
theorem dX8_open_58 : decode cX8_open 58 = .ok (.iconst 1, 1) := by decide +kernel
theorem dX8_open_59 : decode cX8_open 59 = .ok (.iadd, 1) := by decide +kernel
theorem dX8_open_60 : decode cX8_open 60 = .ok (.putfield 49, 3) := by decide +kernel
theorem dX8_open_63 : decode cX8_open 63 = .ok (.aload_n 0, 1) := by decide +kernel
theorem dX8_open_64 : decode cX8_open 64 = .ok (.dup, 1) := by decide +kernel
theorem dX8_open_65 : decode cX8_open 65 = .ok (.getfield 43, 3) := by decide +kernel
theorem dX8_open_68 : decode cX8_open 68 = .ok (.iconst 1, 1) := by decide +kernel
theorem dX8_open_69 : decode cX8_open 69 = .ok (.iadd, 1) := by decide +kernel
theorem dX8_open_70 : decode cX8_open 70 = .ok (.putfield 43, 3) := by decide +kernel
theorem dX8_open_73 : decode cX8_open 73 = .ok (.return_, 1) := by decide +kernel
theorem dX8_close_0 : decode cX8_close 0 = .ok (.aload_n 0, 1) := by decide +kernel
theorem dX8_close_1 : decode cX8_close 1 = .ok (.dup, 1) := by decide +kernel
theorem dX8_close_2 : decode cX8_close 2 = .ok (.getfield 43, 3) := by decide +kernel
theorem dX8_close_5 : decode cX8_close 5 = .ok (.iconst 1, 1) := by decide +kernel
theorem dX8_close_6 : decode cX8_close 6 = .ok (.isub, 1) := by decide +kernel
theorem dX8_close_7 : decode cX8_close 7 = .ok (.putfield 43, 3) := by decide +kernel
theorem dX8_close_10 : decode cX8_close 10 = .ok (.aload_n 0, 1) := by decide +kernel
theorem dX8_close_11 : decode cX8_close 11 = .ok (.getfield 49, 3) := by decide +kernel
theorem dX8_close_14 : decode cX8_close 14 = .ok (.ifCond .le 31, 3) := by decide +kernel
theorem dX8_close_17 : decode cX8_close 17 = .ok (.aload_n 0, 1) := by decide +kernel
theorem dX8_close_18 : decode cX8_close 18 = .ok (.getfield 52, 3) := by decide +kernel
theorem dX8_close_21 : decode cX8_close 21 = .ok (.aload_n 0, 1) := by decide +kernel
theorem dX8_close_22 : decode cX8_close 22 = .ok (.getfield 49, 3) := by decide +kernel
theorem dX8_close_25 : decode cX8_close 25 = .ok (.iconst 1, 1) := by decide +kernel
theorem dX8_close_26 : decode cX8_close 26 = .ok (.isub, 1) := by decide +kernel
theorem dX8_close_27 : decode cX8_close 27 = .ok (.iaload, 1) := by decide +kernel
theorem dX8_close_28 : decode cX8_close 28 = .ok (.aload_n 0, 1) := by decide +kernel
theorem dX8_close_29 : decode cX8_close 29 = .ok (.getfield 43, 3) := by decide +kernel
theorem dX8_close_32 : decode cX8_close 32 = .ok (.if_icmp .ne 13, 3) := by decide +kernel
theorem dX8_close_35 : decode cX8_close 35 = .ok (.aload_n 0, 1) := by decide +kernel
theorem dX8_close_36 : decode cX8_close 36 = .ok (.dup, 1) := by decide +kernel
theorem dX8_close_37 : decode cX8_close 37 = .ok (.getfield 49, 3) := by decide +kernel
theorem dX8_close_40 : decode cX8_close 40 = .ok (.iconst 1, 1) := by decide +kernel
theorem dX8_close_41 : decode cX8_close 41 = .ok (.isub, 1) := by decide +kernel
theorem dX8_close_42 : decode cX8_close 42 = .ok (.putfield 49, 3) := by decide +kernel
theorem dX8_close_45 : decode cX8_close 45 = .ok (.aload_n 0, 1) := by decide +kernel
theorem dX8_close_46 : decode cX8_close 46 = .ok (.getfield 28, 3) := by decide +kernel
theorem dX8_close_49 : decode cX8_close 49 = .ok (.aload_n 0, 1) := by decide +kernel
theorem dX8_close_50 : decode cX8_close 50 = .ok (.getfield 37, 3) := by decide +kernel
theorem dX8_close_53 : decode cX8_close 53 = .ok (.aload_n 0, 1) := by decide +kernel
theorem dX8_close_54 : decode cX8_close 54 = .ok (.getfield 46, 3) := by decide +kernel
theorem dX8_close_57 : decode cX8_close 57 = .ok (.aload_n 0, 1) := by decide +kernel
theorem dX8_close_58 : decode cX8_close 58 = .ok (.getfield 43, 3) := by decide +kernel
theorem dX8_close_61 : decode cX8_close 61 = .ok (.iaload, 1) := by decide +kernel
theorem dX8_close_62 : decode cX8_close 62 = .ok (.iastore, 1) := by decide +kernel
theorem dX8_close_63 : decode cX8_close 63 = .ok (.aload_n 0, 1) := by decide +kernel
theorem dX8_close_64 : decode cX8_close 64 = .ok (.getfield 28, 3) := by decide +kernel
theorem dX8_close_67 : decode cX8_close 67 = .ok (.aload_n 0, 1) := by decide +kernel
theorem dX8_close_68 : decode cX8_close 68 = .ok (.getfield 46, 3) := by decide +kernel
theorem dX8_close_71 : decode cX8_close 71 = .ok (.aload_n 0, 1) := by decide +kernel
theorem dX8_close_72 : decode cX8_close 72 = .ok (.getfield 43, 3) := by decide +kernel
theorem dX8_close_75 : decode cX8_close 75 = .ok (.iaload, 1) := by decide +kernel
theorem dX8_close_76 : decode cX8_close 76 = .ok (.aload_n 0, 1) := by decide +kernel
theorem dX8_close_77 : decode cX8_close 77 = .ok (.getfield 37, 3) := by decide +kernel
theorem dX8_close_80 : decode cX8_close 80 = .ok (.iastore, 1) := by decide +kernel
theorem dX8_close_81 : decode cX8_close 81 = .ok (.aload_n 0, 1) := by decide +kernel
theorem dX8_close_82 : decode cX8_close 82 = .ok (.dup, 1) := by decide +kernel
theorem dX8_close_83 : decode cX8_close 83 = .ok (.getfield 37, 3) := by decide +kernel
theorem dX8_close_86 : decode cX8_close 86 = .ok (.iconst 1, 1) := by decide +kernel
theorem dX8_close_87 : decode cX8_close 87 = .ok (.iadd, 1) := by decide +kernel
theorem dX8_close_88 : decode cX8_close 88 = .ok (.putfield 37, 3) := by decide +kernel
theorem dX8_close_91 : decode cX8_close 91 = .ok (.return_, 1) := by decide +kernel
theorem dX8_sums_0 : decode cX8_sums 0 = .ok (.aload_n 0, 1) := by decide +kernel
theorem dX8_sums_1 : decode cX8_sums 1 = .ok (.invokevirtual 153, 3) := by decide +kernel
theorem dX8_sums_4 : decode cX8_sums 4 = .ok (.iconst 1, 1) := by decide +kernel
theorem dX8_sums_5 : decode cX8_sums 5 = .ok (.istore_n 2, 1) := by decide +kernel
theorem dX8_sums_6 : decode cX8_sums 6 = .ok (.iload_n 2, 1) := by decide +kernel
theorem dX8_sums_7 : decode cX8_sums 7 = .ok (.iload_n 1, 1) := by decide +kernel
theorem dX8_sums_8 : decode cX8_sums 8 = .ok (.if_icmp .ge 19, 3) := by decide +kernel
theorem dX8_sums_11 : decode cX8_sums 11 = .ok (.aload_n 0, 1) := by decide +kernel
theorem dX8_sums_12 : decode cX8_sums 12 = .ok (.bipush 44, 2) := by decide +kernel
theorem dX8_sums_14 : decode cX8_sums 14 = .ok (.invokevirtual 143, 3) := by decide +kernel
theorem dX8_sums_17 : decode cX8_sums 17 = .ok (.aload_n 0, 1) := by decide +kernel
theorem dX8_sums_18 : decode cX8_sums 18 = .ok (.invokevirtual 153, 3) := by decide +kernel
theorem dX8_sums_21 : decode cX8_sums 21 = .ok (.iinc 2 1, 3) := by decide +kernel
theorem dX8_sums_24 : decode cX8_sums 24 = .ok (.goto (-18), 3) := by decide +kernel
theorem dX8_sums_27 : decode cX8_sums 27 = .ok (.return_, 1) := by decide +kernel
theorem dX8_sum_0 : decode cX8_sum 0 = .ok (.aload_n 0, 1) := by decide +kernel
theorem dX8_sum_1 : decode cX8_sum 1 = .ok (.invokevirtual 156, 3) := by decide +kernel
theorem dX8_sum_4 : decode cX8_sum 4 = .ok (.iconst 0, 1) := by decide +kernel
theorem dX8_sum_5 : decode cX8_sum 5 = .ok (.istore_n 1, 1) := by decide +kernel
theorem dX8_sum_6 : decode cX8_sum 6 = .ok (.iload_n 1, 1) := by decide +kernel
theorem dX8_sum_7 : decode cX8_sum 7 = .ok (.aload_n 0, 1) := by decide +kernel
theorem dX8_sum_8 : decode cX8_sum 8 = .ok (.getfield 34, 3) := by decide +kernel
theorem dX8_sum_11 : decode cX8_sum 11 = .ok (.if_icmp .ge 58, 3) := by decide +kernel
theorem dX8_sum_14 : decode cX8_sum 14 = .ok (.aload_n 0, 1) := by decide +kernel
theorem dX8_sum_15 : decode cX8_sum 15 = .ok (.getfield 25, 3) := by decide +kernel
theorem dX8_sum_18 : decode cX8_sum 18 = .ok (.aload_n 0, 1) := by decide +kernel
theorem dX8_sum_19 : decode cX8_sum 19 = .ok (.getfield 37, 3) := by decide +kernel
theorem dX8_sum_22 : decode cX8_sum 22 = .ok (.iaload, 1) := by decide +kernel
theorem dX8_sum_23 : decode cX8_sum 23 = .ok (.bipush 43, 2) := by decide +kernel
theorem dX8_sum_25 : decode cX8_sum 25 = .ok (.if_icmp .eq 17, 3) := by decide +kernel
theorem dX8_sum_28 : decode cX8_sum 28 = .ok (.aload_n 0, 1) := by decide +kernel
theorem dX8_sum_29 : decode cX8_sum 29 = .ok (.getfield 25, 3) := by decide +kernel
theorem dX8_sum_32 : decode cX8_sum 32 = .ok (.aload_n 0, 1) := by decide +kernel
theorem dX8_sum_33 : decode cX8_sum 33 = .ok (.getfield 37, 3) := by decide +kernel
theorem dX8_sum_36 : decode cX8_sum 36 = .ok (.iaload, 1) := by decide +kernel
theorem dX8_sum_37 : decode cX8_sum 37 = .ok (.bipush 42, 2) := by decide +kernel
theorem dX8_sum_39 : decode cX8_sum 39 = .ok (.if_icmp .ne 30, 3) := by decide +kernel
theorem dX8_sum_42 : decode cX8_sum 42 = .ok (.aload_n 0, 1) := by decide +kernel
theorem dX8_sum_43 : decode cX8_sum 43 = .ok (.getfield 19, 3) := by decide +kernel
theorem dX8_sum_46 : decode cX8_sum 46 = .ok (.ifCond .ne 23, 3) := by decide +kernel
theorem dX8_sum_49 : decode cX8_sum 49 = .ok (.aload_n 0, 1) := by decide +kernel
theorem dX8_sum_50 : decode cX8_sum 50 = .ok (.dup, 1) := by decide +kernel
theorem dX8_sum_51 : decode cX8_sum 51 = .ok (.getfield 37, 3) := by decide +kernel
theorem dX8_sum_54 : decode cX8_sum 54 = .ok (.iconst 1, 1) := by decide +kernel
theorem dX8_sum_55 : decode cX8_sum 55 = .ok (.iadd, 1) := by decide +kernel
theorem dX8_sum_56 : decode cX8_sum 56 = .ok (.putfield 37, 3) := by decide +kernel
theorem dX8_sum_59 : decode cX8_sum 59 = .ok (.aload_n 0, 1) := by decide +kernel
theorem dX8_sum_60 : decode cX8_sum 60 = .ok (.invokevirtual 156, 3) := by decide +kernel
theorem dX8_sum_63 : decode cX8_sum 63 = .ok (.iinc 1 1, 3) := by decide +kernel
theorem dX8_sum_66 : decode cX8_sum 66 = .ok (.goto (-60), 3) := by decide +kernel
theorem dX8_sum_69 : decode cX8_sum 69 = .ok (.return_, 1) := by decide +kernel
theorem dX8_factor_0 : decode cX8_factor 0 = .ok (.aload_n 0, 1) := by decide +kernel
theorem dX8_factor_1 : decode cX8_factor 1 = .ok (.getfield 19, 3) := by decide +kernel
theorem dX8_factor_4 : decode cX8_factor 4 = .ok (.ifCond .eq 4, 3) := by decide +kernel
theorem dX8_factor_7 : decode cX8_factor 7 = .ok (.return_, 1) := by decide +kernel
theorem dX8_factor_8 : decode cX8_factor 8 = .ok (.aload_n 0, 1) := by decide +kernel
theorem dX8_factor_9 : decode cX8_factor 9 = .ok (.getfield 25, 3) := by decide +kernel
theorem dX8_factor_12 : decode cX8_factor 12 = .ok (.aload_n 0, 1) := by decide +kernel
theorem dX8_factor_13 : decode cX8_factor 13 = .ok (.getfield 37, 3) := by decide +kernel
theorem dX8_factor_16 : decode cX8_factor 16 = .ok (.iaload, 1) := by decide +kernel
theorem dX8_factor_17 : decode cX8_factor 17 = .ok (.iconst 2, 1) := by decide +kernel
theorem dX8_factor_18 : decode cX8_factor 18 = .ok (.if_icmp .ne 26, 3) := by decide +kernel
theorem dX8_factor_21 : decode cX8_factor 21 = .ok (.aload_n 0, 1) := by decide +kernel
theorem dX8_factor_22 : decode cX8_factor 22 = .ok (.getfield 28, 3) := by decide +kernel
theorem dX8_factor_25 : decode cX8_factor 25 = .ok (.aload_n 0, 1) := by decide +kernel
theorem dX8_factor_26 : decode cX8_factor 26 = .ok (.getfield 37, 3) := by decide +kernel
theorem dX8_factor_29 : decode cX8_factor 29 = .ok (.iaload, 1) := by decide +kernel
theorem dX8_factor_30 : decode cX8_factor 30 = .ok (.sipush 9999, 3) := by decide +kernel
theorem dX8_factor_33 : decode cX8_factor 33 = .ok (.if_icmp .le 11, 3) := by decide +kernel
theorem dX8_factor_36 : decode cX8_factor 36 = .ok (.aload_n 0, 1) := by decide +kernel
theorem dX8_factor_37 : decode cX8_factor 37 = .ok (.iconst 2, 1) := by decide +kernel
theorem dX8_factor_38 : decode cX8_factor 38 = .ok (.invokevirtual 64, 3) := by decide +kernel
theorem dX8_factor_41 : decode cX8_factor 41 = .ok (.goto 120, 3) := by decide +kernel
theorem dX8_factor_44 : decode cX8_factor 44 = .ok (.aload_n 0, 1) := by decide +kernel
theorem dX8_factor_45 : decode cX8_factor 45 = .ok (.getfield 25, 3) := by decide +kernel
theorem dX8_factor_48 : decode cX8_factor 48 = .ok (.aload_n 0, 1) := by decide +kernel
theorem dX8_factor_49 : decode cX8_factor 49 = .ok (.getfield 37, 3) := by decide +kernel
theorem dX8_factor_52 : decode cX8_factor 52 = .ok (.iaload, 1) := by decide +kernel
theorem dX8_factor_53 : decode cX8_factor 53 = .ok (.iconst 3, 1) := by decide +kernel
theorem dX8_factor_54 : decode cX8_factor 54 = .ok (.if_icmp .ne 27, 3) := by decide +kernel
theorem dX8_factor_57 : decode cX8_factor 57 = .ok (.aload_n 0, 1) := by decide +kernel
theorem dX8_factor_58 : decode cX8_factor 58 = .ok (.getfield 28, 3) := by decide +kernel
theorem dX8_factor_61 : decode cX8_factor 61 = .ok (.aload_n 0, 1) := by decide +kernel
theorem dX8_factor_62 : decode cX8_factor 62 = .ok (.getfield 37, 3) := by decide +kernel
theorem dX8_factor_65 : decode cX8_factor 65 = .ok (.iaload, 1) := by decide +kernel
theorem dX8_factor_66 : decode cX8_factor 66 = .ok (.aload_n 0, 1) := by decide +kernel
theorem dX8_factor_67 : decode cX8_factor 67 = .ok (.getfield 49, 3) := by decide +kernel
theorem dX8_factor_70 : decode cX8_factor 70 = .ok (.if_icmp .lt 11, 3) := by decide +kernel
theorem dX8_factor_73 : decode cX8_factor 73 = .ok (.aload_n 0, 1) := by decide +kernel
theorem dX8_factor_74 : decode cX8_factor 74 = .ok (.iconst 4, 1) := by decide +kernel
theorem dX8_factor_75 : decode cX8_factor 75 = .ok (.invokevirtual 64, 3) := by decide +kernel
theorem dX8_factor_78 : decode cX8_factor 78 = .ok (.goto 83, 3) := by decide +kernel
theorem dX8_factor_81 : decode cX8_factor 81 = .ok (.aload_n 0, 1) := by decide +kernel
theorem dX8_factor_82 : decode cX8_factor 82 = .ok (.getfield 25, 3) := by decide +kernel
theorem dX8_factor_85 : decode cX8_factor 85 = .ok (.aload_n 0, 1) := by decide +kernel
theorem dX8_factor_86 : decode cX8_factor 86 = .ok (.getfield 37, 3) := by decide +kernel
theorem dX8_factor_89 : decode cX8_factor 89 = .ok (.iaload, 1) := by decide +kernel
theorem dX8_factor_90 : decode cX8_factor 90 = .ok (.iconst 3, 1) := by decide +kernel
theorem dX8_factor_91 : decode cX8_factor 91 = .ok (.if_icmp .ne 39, 3) := by decide +kernel
theorem dX8_factor_94 : decode cX8_factor 94 = .ok (.aload_n 0, 1) := by decide +kernel
theorem dX8_factor_95 : decode cX8_factor 95 = .ok (.getfield 28, 3) := by decide +kernel
theorem dX8_factor_98 : decode cX8_factor 98 = .ok (.aload_n 0, 1) := by decide +kernel
theorem dX8_factor_99 : decode cX8_factor 99 = .ok (.getfield 37, 3) := by decide +kernel
theorem dX8_factor_102 : decode cX8_factor 102 = .ok (.aload_n 0, 1) := by decide +kernel
theorem dX8_factor_103 : decode cX8_factor 103 = .ok (.getfield 52, 3) := by decide +kernel
theorem dX8_factor_106 : decode cX8_factor 106 = .ok (.aload_n 0, 1) := by decide +kernel
theorem dX8_factor_107 : decode cX8_factor 107 = .ok (.getfield 28, 3) := by decide +kernel
theorem dX8_factor_110 : decode cX8_factor 110 = .ok (.aload_n 0, 1) := by decide +kernel
theorem dX8_factor_111 : decode cX8_factor 111 = .ok (.getfield 37, 3) := by decide +kernel
theorem dX8_factor_114 : decode cX8_factor 114 = .ok (.iaload, 1) := by decide +kernel
theorem dX8_factor_115 : decode cX8_factor 115 = .ok (.iaload, 1) := by decide +kernel
theorem dX8_factor_116 : decode cX8_factor 116 = .ok (.iastore, 1) := by decide +kernel
theorem dX8_factor_117 : decode cX8_factor 117 = .ok (.aload_n 0, 1) := by decide +kernel
theorem dX8_factor_118 : decode cX8_factor 118 = .ok (.dup, 1) := by decide +kernel
theorem dX8_factor_119 : decode cX8_factor 119 = .ok (.getfield 37, 3) := by decide +kernel
theorem dX8_factor_122 : decode cX8_factor 122 = .ok (.iconst 1, 1) := by decide +kernel
theorem dX8_factor_123 : decode cX8_factor 123 = .ok (.iadd, 1) := by decide +kernel
theorem dX8_factor_124 : decode cX8_factor 124 = .ok (.putfield 37, 3) := by decide +kernel
theorem dX8_factor_127 : decode cX8_factor 127 = .ok (.goto 34, 3) := by decide +kernel
theorem dX8_factor_130 : decode cX8_factor 130 = .ok (.aload_n 0, 1) := by decide +kernel
theorem dX8_factor_131 : decode cX8_factor 131 = .ok (.getfield 25, 3) := by decide +kernel
theorem dX8_factor_134 : decode cX8_factor 134 = .ok (.aload_n 0, 1) := by decide +kernel
theorem dX8_factor_135 : decode cX8_factor 135 = .ok (.getfield 37, 3) := by decide +kernel
theorem dX8_factor_138 : decode cX8_factor 138 = .ok (.iaload, 1) := by decide +kernel
theorem dX8_factor_139 : decode cX8_factor 139 = .ok (.iconst 2, 1) := by decide +kernel
theorem dX8_factor_140 : decode cX8_factor 140 = .ok (.if_icmp .ne 16, 3) := by decide +kernel
theorem dX8_factor_143 : decode cX8_factor 143 = .ok (.aload_n 0, 1) := by decide +kernel
theorem dX8_factor_144 : decode cX8_factor 144 = .ok (.dup, 1) := by decide +kernel
theorem dX8_factor_145 : decode cX8_factor 145 = .ok (.getfield 37, 3) := by decide +kernel
theorem dX8_factor_148 : decode cX8_factor 148 = .ok (.iconst 1, 1) := by decide +kernel
theorem dX8_factor_149 : decode cX8_factor 149 = .ok (.iadd, 1) := by decide +kernel
theorem dX8_factor_150 : decode cX8_factor 150 = .ok (.putfield 37, 3) := by decide +kernel
theorem dX8_factor_153 : decode cX8_factor 153 = .ok (.goto 8, 3) := by decide +kernel
theorem dX8_factor_156 : decode cX8_factor 156 = .ok (.aload_n 0, 1) := by decide +kernel
theorem dX8_factor_157 : decode cX8_factor 157 = .ok (.iconst 1, 1) := by decide +kernel
theorem dX8_factor_158 : decode cX8_factor 158 = .ok (.invokevirtual 64, 3) := by decide +kernel
theorem dX8_factor_161 : decode cX8_factor 161 = .ok (.return_, 1) := by decide +kernel
theorem dX9_init_0 : decode cX9_init 0 = .ok (.aload_n 0, 1) := by decide +kernel
theorem dX9_init_1 : decode cX9_init 1 = .ok (.invokespecial 3, 3) := by decide +kernel
theorem dX9_init_4 : decode cX9_init 4 = .ok (.aload_n 0, 1) := by decide +kernel
theorem dX9_init_5 : decode cX9_init 5 = .ok (.iload_n 3, 1) := by decide +kernel
theorem dX9_init_6 : decode cX9_init 6 = .ok (.putfield 9, 3) := by decide +kernel
theorem dX9_init_9 : decode cX9_init 9 = .ok (.aload_n 0, 1) := by decide +kernel
theorem dX9_init_10 : decode cX9_init 10 = .ok (.iload_n 3, 1) := by decide +kernel
theorem dX9_init_11 : decode cX9_init 11 = .ok (.newarray .int, 2) := by decide +kernel
theorem dX9_init_13 : decode cX9_init 13 = .ok (.putfield 15, 3) := by decide +kernel
theorem dX9_init_16 : decode cX9_init 16 = .ok (.aload_n 0, 1) := by decide +kernel
theorem dX9_init_17 : decode cX9_init 17 = .ok (.iload_n 3, 1) := by decide +kernel
theorem dX9_init_18 : decode cX9_init 18 = .ok (.newarray .int, 2) := by decide +kernel
theorem dX9_init_20 : decode cX9_init 20 = .ok (.putfield 19, 3) := by decide +kernel
theorem dX9_init_23 : decode cX9_init 23 = .ok (.aload_n 1, 1) := by decide +kernel
theorem dX9_init_24 : decode cX9_init 24 = .ok (.iconst 0, 1) := by decide +kernel
theorem dX9_init_25 : decode cX9_init 25 = .ok (.aload_n 0, 1) := by decide +kernel
theorem dX9_init_26 : decode cX9_init 26 = .ok (.getfield 15, 3) := by decide +kernel
theorem dX9_init_29 : decode cX9_init 29 = .ok (.iconst 0, 1) := by decide +kernel
theorem dX9_init_30 : decode cX9_init 30 = .ok (.iload_n 3, 1) := by decide +kernel
theorem dX9_init_31 : decode cX9_init 31 = .ok (.invokestatic 22, 3) := by decide +kernel
theorem dX9_init_34 : decode cX9_init 34 = .ok (.aload_n 2, 1) := by decide +kernel
theorem dX9_init_35 : decode cX9_init 35 = .ok (.iconst 0, 1) := by decide +kernel
theorem dX9_init_36 : decode cX9_init 36 = .ok (.aload_n 0, 1) := by decide +kernel
theorem dX9_init_37 : decode cX9_init 37 = .ok (.getfield 19, 3) := by decide +kernel
theorem dX9_init_40 : decode cX9_init 40 = .ok (.iconst 0, 1) := by decide +kernel
theorem dX9_init_41 : decode cX9_init 41 = .ok (.iload_n 3, 1) := by decide +kernel
theorem dX9_init_42 : decode cX9_init 42 = .ok (.invokestatic 22, 3) := by decide +kernel
theorem dX9_init_45 : decode cX9_init 45 = .ok (.return_, 1) := by decide +kernel
theorem dX9_kindAt_0 : decode cX9_kindAt 0 = .ok (.iload_n 1, 1) := by decide +kernel
theorem dX9_kindAt_1 : decode cX9_kindAt 1 = .ok (.ifCond .lt 20, 3) := by decide +kernel
theorem dX9_kindAt_4 : decode cX9_kindAt 4 = .ok (.iload_n 1, 1) := by decide +kernel
theorem dX9_kindAt_5 : decode cX9_kindAt 5 = .ok (.aload_n 0, 1) := by decide +kernel
theorem dX9_kindAt_6 : decode cX9_kindAt 6 = .ok (.getfield 9, 3) := by decide +kernel
theorem dX9_kindAt_9 : decode cX9_kindAt 9 = .ok (.if_icmp .ge 12, 3) := by decide +kernel
theorem dX9_kindAt_12 : decode cX9_kindAt 12 = .ok (.aload_n 0, 1) := by decide +kernel
theorem dX9_kindAt_13 : decode cX9_kindAt 13 = .ok (.getfield 15, 3) := by decide +kernel
theorem dX9_kindAt_16 : decode cX9_kindAt 16 = .ok (.iload_n 1, 1) := by decide +kernel
theorem dX9_kindAt_17 : decode cX9_kindAt 17 = .ok (.iaload, 1) := by decide +kernel
theorem dX9_kindAt_18 : decode cX9_kindAt 18 = .ok (.goto 4, 3) := by decide +kernel
theorem dX9_kindAt_21 : decode cX9_kindAt 21 = .ok (.iconst 0, 1) := by decide +kernel
theorem dX9_kindAt_22 : decode cX9_kindAt 22 = .ok (.ireturn, 1) := by decide +kernel
theorem dX9_valueAt_0 : decode cX9_valueAt 0 = .ok (.iload_n 1, 1) := by decide +kernel
theorem dX9_valueAt_1 : decode cX9_valueAt 1 = .ok (.ifCond .lt 20, 3) := by decide +kernel
theorem dX9_valueAt_4 : decode cX9_valueAt 4 = .ok (.iload_n 1, 1) := by decide +kernel
theorem dX9_valueAt_5 : decode cX9_valueAt 5 = .ok (.aload_n 0, 1) := by decide +kernel
theorem dX9_valueAt_6 : decode cX9_valueAt 6 = .ok (.getfield 9, 3) := by decide +kernel
theorem dX9_valueAt_9 : decode cX9_valueAt 9 = .ok (.if_icmp .ge 12, 3) := by decide +kernel
theorem dX9_valueAt_12 : decode cX9_valueAt 12 = .ok (.aload_n 0, 1) := by decide +kernel
theorem dX9_valueAt_13 : decode cX9_valueAt 13 = .ok (.getfield 19, 3) := by decide +kernel
theorem dX9_valueAt_16 : decode cX9_valueAt 16 = .ok (.iload_n 1, 1) := by decide +kernel
theorem dX9_valueAt_17 : decode cX9_valueAt 17 = .ok (.iaload, 1) := by decide +kernel
theorem dX9_valueAt_18 : decode cX9_valueAt 18 = .ok (.goto 4, 3) := by decide +kernel
theorem dX9_valueAt_21 : decode cX9_valueAt 21 = .ok (.iconst 0, 1) := by decide +kernel
theorem dX9_valueAt_22 : decode cX9_valueAt 22 = .ok (.ireturn, 1) := by decide +kernel
theorem dX10_init_0 : decode cX10_init 0 = .ok (.aload_n 0, 1) := by decide +kernel
theorem dX10_init_1 : decode cX10_init 1 = .ok (.invokespecial 3, 3) := by decide +kernel
theorem dX10_init_4 : decode cX10_init 4 = .ok (.aload_n 0, 1) := by decide +kernel
theorem dX10_init_5 : decode cX10_init 5 = .ok (.bipush 13, 2) := by decide +kernel
theorem dX10_init_7 : decode cX10_init 7 = .ok (.newarray .int, 2) := by decide +kernel
theorem dX10_init_9 : decode cX10_init 9 = .ok (.putfield 9, 3) := by decide +kernel
theorem dX10_init_12 : decode cX10_init 12 = .ok (.aload_n 0, 1) := by decide +kernel
theorem dX10_init_13 : decode cX10_init 13 = .ok (.new 15, 3) := by decide +kernel
theorem dX10_init_16 : decode cX10_init 16 = .ok (.dup, 1) := by decide +kernel
theorem dX10_init_17 : decode cX10_init 17 = .ok (.invokespecial 17, 3) := by decide +kernel
theorem dX10_init_20 : decode cX10_init 20 = .ok (.putfield 18, 3) := by decide +kernel
theorem dX10_init_23 : decode cX10_init 23 = .ok (.aload_n 0, 1) := by decide +kernel
theorem dX10_init_24 : decode cX10_init 24 = .ok (.new 22, 3) := by decide +kernel
theorem dX10_init_27 : decode cX10_init 27 = .ok (.dup, 1) := by decide +kernel
theorem dX10_init_28 : decode cX10_init 28 = .ok (.invokespecial 24, 3) := by decide +kernel
theorem dX10_init_31 : decode cX10_init 31 = .ok (.putfield 25, 3) := by decide +kernel
theorem dX10_init_34 : decode cX10_init 34 = .ok (.aload_n 0, 1) := by decide +kernel
theorem dX10_init_35 : decode cX10_init 35 = .ok (.new 29, 3) := by decide +kernel
theorem dX10_init_38 : decode cX10_init 38 = .ok (.dup, 1) := by decide +kernel
theorem dX10_init_39 : decode cX10_init 39 = .ok (.invokespecial 31, 3) := by decide +kernel
theorem dX10_init_42 : decode cX10_init 42 = .ok (.putfield 32, 3) := by decide +kernel
theorem dX10_init_45 : decode cX10_init 45 = .ok (.aload_n 0, 1) := by decide +kernel
theorem dX10_init_46 : decode cX10_init 46 = .ok (.new 36, 3) := by decide +kernel
theorem dX10_init_49 : decode cX10_init 49 = .ok (.dup, 1) := by decide +kernel
theorem dX10_init_50 : decode cX10_init 50 = .ok (.invokespecial 38, 3) := by decide +kernel
theorem dX10_init_53 : decode cX10_init 53 = .ok (.putfield 39, 3) := by decide +kernel
theorem dX10_init_56 : decode cX10_init 56 = .ok (.aload_n 0, 1) := by decide +kernel
theorem dX10_init_57 : decode cX10_init 57 = .ok (.new 43, 3) := by decide +kernel
theorem dX10_init_60 : decode cX10_init 60 = .ok (.dup, 1) := by decide +kernel
theorem dX10_init_61 : decode cX10_init 61 = .ok (.invokespecial 45, 3) := by decide +kernel
theorem dX10_init_64 : decode cX10_init 64 = .ok (.putfield 46, 3) := by decide +kernel
theorem dX10_init_67 : decode cX10_init 67 = .ok (.aload_n 0, 1) := by decide +kernel
theorem dX10_init_68 : decode cX10_init 68 = .ok (.getfield 9, 3) := by decide +kernel
theorem dX10_init_71 : decode cX10_init 71 = .ok (.iconst 1, 1) := by decide +kernel
theorem dX10_init_72 : decode cX10_init 72 = .ok (.sipush 409, 3) := by decide +kernel
theorem dX10_init_75 : decode cX10_init 75 = .ok (.iastore, 1) := by decide +kernel
theorem dX10_init_76 : decode cX10_init 76 = .ok (.aload_n 0, 1) := by decide +kernel
theorem dX10_init_77 : decode cX10_init 77 = .ok (.getfield 9, 3) := by decide +kernel
theorem dX10_init_80 : decode cX10_init 80 = .ok (.iconst 4, 1) := by decide +kernel
theorem dX10_init_81 : decode cX10_init 81 = .ok (.iconst 3, 1) := by decide +kernel
theorem dX10_init_82 : decode cX10_init 82 = .ok (.iastore, 1) := by decide +kernel
theorem dX10_init_83 : decode cX10_init 83 = .ok (.aload_n 0, 1) := by decide +kernel
theorem dX10_init_84 : decode cX10_init 84 = .ok (.getfield 9, 3) := by decide +kernel
theorem dX10_init_87 : decode cX10_init 87 = .ok (.iconst 5, 1) := by decide +kernel
theorem dX10_init_88 : decode cX10_init 88 = .ok (.bipush 6, 2) := by decide +kernel
theorem dX10_init_90 : decode cX10_init 90 = .ok (.iastore, 1) := by decide +kernel
theorem dX10_init_91 : decode cX10_init 91 = .ok (.aload_n 0, 1) := by decide +kernel
theorem dX10_init_92 : decode cX10_init 92 = .ok (.getfield 9, 3) := by decide +kernel
theorem dX10_init_95 : decode cX10_init 95 = .ok (.bipush 6, 2) := by decide +kernel
theorem dX10_init_97 : decode cX10_init 97 = .ok (.iconst 4, 1) := by decide +kernel
theorem dX10_init_98 : decode cX10_init 98 = .ok (.iastore, 1) := by decide +kernel
theorem dX10_init_99 : decode cX10_init 99 = .ok (.return_, 1) := by decide +kernel
theorem dX10_copyFrom_0 : decode cX10_copyFrom 0 = .ok (.aload_n 1, 1) := by decide +kernel
theorem dX10_copyFrom_1 : decode cX10_copyFrom 1 = .ok (.getfield 9, 3) := by decide +kernel
theorem dX10_copyFrom_4 : decode cX10_copyFrom 4 = .ok (.iconst 0, 1) := by decide +kernel
theorem dX10_copyFrom_5 : decode cX10_copyFrom 5 = .ok (.aload_n 0, 1) := by decide +kernel
theorem dX10_copyFrom_6 : decode cX10_copyFrom 6 = .ok (.getfield 9, 3) := by decide +kernel
theorem dX10_copyFrom_9 : decode cX10_copyFrom 9 = .ok (.iconst 0, 1) := by decide +kernel
theorem dX10_copyFrom_10 : decode cX10_copyFrom 10 = .ok (.bipush 13, 2) := by decide +kernel
theorem dX10_copyFrom_12 : decode cX10_copyFrom 12 = .ok (.invokestatic 50, 3) := by decide +kernel
theorem dX10_copyFrom_15 : decode cX10_copyFrom 15 = .ok (.aload_n 0, 1) := by decide +kernel
theorem dX10_copyFrom_16 : decode cX10_copyFrom 16 = .ok (.getfield 18, 3) := by decide +kernel
theorem dX10_copyFrom_19 : decode cX10_copyFrom 19 = .ok (.aload_n 1, 1) := by decide +kernel
theorem dX10_copyFrom_20 : decode cX10_copyFrom 20 = .ok (.getfield 18, 3) := by decide +kernel
theorem dX10_copyFrom_23 : decode cX10_copyFrom 23 = .ok (.invokevirtual 56, 3) := by decide +kernel
theorem dX10_copyFrom_26 : decode cX10_copyFrom 26 = .ok (.aload_n 0, 1) := by decide +kernel
theorem dX10_copyFrom_27 : decode cX10_copyFrom 27 = .ok (.getfield 25, 3) := by decide +kernel
theorem dX10_copyFrom_30 : decode cX10_copyFrom 30 = .ok (.aload_n 1, 1) := by decide +kernel
theorem dX10_copyFrom_31 : decode cX10_copyFrom 31 = .ok (.getfield 25, 3) := by decide +kernel
theorem dX10_copyFrom_34 : decode cX10_copyFrom 34 = .ok (.invokevirtual 60, 3) := by decide +kernel
theorem dX10_copyFrom_37 : decode cX10_copyFrom 37 = .ok (.aload_n 0, 1) := by decide +kernel
theorem dX10_copyFrom_38 : decode cX10_copyFrom 38 = .ok (.getfield 32, 3) := by decide +kernel
theorem dX10_copyFrom_41 : decode cX10_copyFrom 41 = .ok (.aload_n 1, 1) := by decide +kernel
theorem dX10_copyFrom_42 : decode cX10_copyFrom 42 = .ok (.getfield 32, 3) := by decide +kernel
theorem dX10_copyFrom_45 : decode cX10_copyFrom 45 = .ok (.invokevirtual 63, 3) := by decide +kernel
theorem dX10_copyFrom_48 : decode cX10_copyFrom 48 = .ok (.aload_n 0, 1) := by decide +kernel
theorem dX10_copyFrom_49 : decode cX10_copyFrom 49 = .ok (.getfield 39, 3) := by decide +kernel
theorem dX10_copyFrom_52 : decode cX10_copyFrom 52 = .ok (.aload_n 1, 1) := by decide +kernel
theorem dX10_copyFrom_53 : decode cX10_copyFrom 53 = .ok (.getfield 39, 3) := by decide +kernel
theorem dX10_copyFrom_56 : decode cX10_copyFrom 56 = .ok (.invokevirtual 66, 3) := by decide +kernel
theorem dX10_copyFrom_59 : decode cX10_copyFrom 59 = .ok (.aload_n 0, 1) := by decide +kernel
theorem dX10_copyFrom_60 : decode cX10_copyFrom 60 = .ok (.getfield 46, 3) := by decide +kernel
theorem dX10_copyFrom_63 : decode cX10_copyFrom 63 = .ok (.aload_n 1, 1) := by decide +kernel
theorem dX10_copyFrom_64 : decode cX10_copyFrom 64 = .ok (.getfield 46, 3) := by decide +kernel
theorem dX10_copyFrom_67 : decode cX10_copyFrom 67 = .ok (.invokevirtual 69, 3) := by decide +kernel
theorem dX10_copyFrom_70 : decode cX10_copyFrom 70 = .ok (.return_, 1) := by decide +kernel
theorem dX10_writeDown_0 : decode cX10_writeDown 0 = .ok (.aload_n 0, 1) := by decide +kernel
theorem dX10_writeDown_1 : decode cX10_writeDown 1 = .ok (.getfield 46, 3) := by decide +kernel
theorem dX10_writeDown_4 : decode cX10_writeDown 4 = .ok (.aload_n 0, 1) := by decide +kernel
theorem dX10_writeDown_5 : decode cX10_writeDown 5 = .ok (.getfield 9, 3) := by decide +kernel
theorem dX10_writeDown_8 : decode cX10_writeDown 8 = .ok (.iconst 0, 1) := by decide +kernel
theorem dX10_writeDown_9 : decode cX10_writeDown 9 = .ok (.iaload, 1) := by decide +kernel
theorem dX10_writeDown_10 : decode cX10_writeDown 10 = .ok (.iload_n 1, 1) := by decide +kernel
theorem dX10_writeDown_11 : decode cX10_writeDown 11 = .ok (.iload_n 2, 1) := by decide +kernel
theorem dX10_writeDown_12 : decode cX10_writeDown 12 = .ok (.iload_n 3, 1) := by decide +kernel
theorem dX10_writeDown_13 : decode cX10_writeDown 13 = .ok (.invokevirtual 72, 3) := by decide +kernel
theorem dX10_writeDown_16 : decode cX10_writeDown 16 = .ok (.return_, 1) := by decide +kernel
theorem dX10_note_0 : decode cX10_note 0 = .ok (.aload_n 0, 1) := by decide +kernel
theorem dX10_note_1 : decode cX10_note 1 = .ok (.getfield 9, 3) := by decide +kernel
theorem dX10_note_4 : decode cX10_note 4 = .ok (.bipush 7, 2) := by decide +kernel
theorem dX10_note_6 : decode cX10_note 6 = .ok (.dup2, 1) := by decide +kernel
theorem dX10_note_7 : decode cX10_note 7 = .ok (.iaload, 1) := by decide +kernel
theorem dX10_note_8 : decode cX10_note 8 = .ok (.iconst 1, 1) := by decide +kernel
theorem dX10_note_9 : decode cX10_note 9 = .ok (.iadd, 1) := by decide +kernel
theorem dX10_note_10 : decode cX10_note 10 = .ok (.iastore, 1) := by decide +kernel
theorem dX10_note_11 : decode cX10_note 11 = .ok (.aload_n 0, 1) := by decide +kernel
theorem dX10_note_12 : decode cX10_note 12 = .ok (.getfield 9, 3) := by decide +kernel
theorem dX10_note_15 : decode cX10_note 15 = .ok (.bipush 8, 2) := by decide +kernel
theorem dX10_note_17 : decode cX10_note 17 = .ok (.dup2, 1) := by decide +kernel
theorem dX10_note_18 : decode cX10_note 18 = .ok (.iaload, 1) := by decide +kernel
theorem dX10_note_19 : decode cX10_note 19 = .ok (.aload_n 0, 1) := by decide +kernel
theorem dX10_note_20 : decode cX10_note 20 = .ok (.getfield 18, 3) := by decide +kernel
theorem dX10_note_23 : decode cX10_note 23 = .ok (.getfield 76, 3) := by decide +kernel
theorem dX10_note_26 : decode cX10_note 26 = .ok (.iload_n 1, 1) := by decide +kernel
theorem dX10_note_27 : decode cX10_note 27 = .ok (.iaload, 1) := by decide +kernel
theorem dX10_note_28 : decode cX10_note 28 = .ok (.iadd, 1) := by decide +kernel
theorem dX10_note_29 : decode cX10_note 29 = .ok (.iastore, 1) := by decide +kernel
theorem dX10_note_30 : decode cX10_note 30 = .ok (.aload_n 0, 1) := by decide +kernel
theorem dX10_note_31 : decode cX10_note 31 = .ok (.getfield 32, 3) := by decide +kernel
theorem dX10_note_34 : decode cX10_note 34 = .ok (.getstatic 79, 3) := by decide +kernel
theorem dX10_note_37 : decode cX10_note 37 = .ok (.iload_n 1, 1) := by decide +kernel
theorem dX10_note_38 : decode cX10_note 38 = .ok (.iaload, 1) := by decide +kernel
theorem dX10_note_39 : decode cX10_note 39 = .ok (.iload_n 2, 1) := by decide +kernel
theorem dX10_note_40 : decode cX10_note 40 = .ok (.iadd, 1) := by decide +kernel
theorem dX10_note_41 : decode cX10_note 41 = .ok (.invokevirtual 82, 3) := by decide +kernel
theorem dX10_note_44 : decode cX10_note 44 = .ok (.iconst 4, 1) := by decide +kernel
theorem dX10_note_45 : decode cX10_note 45 = .ok (.if_icmp .lt 30, 3) := by decide +kernel
theorem dX10_note_48 : decode cX10_note 48 = .ok (.aload_n 0, 1) := by decide +kernel
theorem dX10_note_49 : decode cX10_note 49 = .ok (.getfield 9, 3) := by decide +kernel
theorem dX10_note_52 : decode cX10_note 52 = .ok (.bipush 9, 2) := by decide +kernel
theorem dX10_note_54 : decode cX10_note 54 = .ok (.dup2, 1) := by decide +kernel
theorem dX10_note_55 : decode cX10_note 55 = .ok (.iaload, 1) := by decide +kernel
theorem dX10_note_56 : decode cX10_note 56 = .ok (.iconst 1, 1) := by decide +kernel
theorem dX10_note_57 : decode cX10_note 57 = .ok (.iadd, 1) := by decide +kernel
theorem dX10_note_58 : decode cX10_note 58 = .ok (.iastore, 1) := by decide +kernel
theorem dX10_note_59 : decode cX10_note 59 = .ok (.aload_n 0, 1) := by decide +kernel
theorem dX10_note_60 : decode cX10_note 60 = .ok (.getfield 18, 3) := by decide +kernel
theorem dX10_note_63 : decode cX10_note 63 = .ok (.getfield 86, 3) := by decide +kernel
theorem dX10_note_66 : decode cX10_note 66 = .ok (.iload_n 1, 1) := by decide +kernel
theorem dX10_note_67 : decode cX10_note 67 = .ok (.dup2, 1) := by decide +kernel
theorem dX10_note_68 : decode cX10_note 68 = .ok (.iaload, 1) := by decide +kernel
theorem dX10_note_69 : decode cX10_note 69 = .ok (.iconst 1, 1) := by decide +kernel
theorem dX10_note_70 : decode cX10_note 70 = .ok (.iadd, 1) := by decide +kernel
theorem dX10_note_71 : decode cX10_note 71 = .ok (.iastore, 1) := by decide +kernel
theorem dX10_note_72 : decode cX10_note 72 = .ok (.goto 12, 3) := by decide +kernel
theorem dX10_note_75 : decode cX10_note 75 = .ok (.aload_n 0, 1) := by decide +kernel
theorem dX10_note_76 : decode cX10_note 76 = .ok (.getfield 18, 3) := by decide +kernel
theorem dX10_note_79 : decode cX10_note 79 = .ok (.iload_n 1, 1) := by decide +kernel
theorem dX10_note_80 : decode cX10_note 80 = .ok (.iload_n 3, 1) := by decide +kernel
theorem dX10_note_81 : decode cX10_note 81 = .ok (.invokevirtual 89, 3) := by decide +kernel
theorem dX10_note_84 : decode cX10_note 84 = .ok (.return_, 1) := by decide +kernel
theorem dX10_readBlock_0 : decode cX10_readBlock 0 = .ok (.getstatic 79, 3) := by decide +kernel
theorem dX10_readBlock_3 : decode cX10_readBlock 3 = .ok (.iload_n 1, 1) := by decide +kernel
theorem dX10_readBlock_4 : decode cX10_readBlock 4 = .ok (.iaload, 1) := by decide +kernel
theorem dX10_readBlock_5 : decode cX10_readBlock 5 = .ok (.iload_n 2, 1) := by decide +kernel
theorem dX10_readBlock_6 : decode cX10_readBlock 6 = .ok (.iadd, 1) := by decide +kernel
theorem dX10_readBlock_7 : decode cX10_readBlock 7 = .ok (.istore_n 3, 1) := by decide +kernel
theorem dX10_readBlock_8 : decode cX10_readBlock 8 = .ok (.aload_n 0, 1) := by decide +kernel
theorem dX10_readBlock_9 : decode cX10_readBlock 9 = .ok (.iload_n 1, 1) := by decide +kernel
theorem dX10_readBlock_10 : decode cX10_readBlock 10 = .ok (.iload_n 2, 1) := by decide +kernel
theorem dX10_readBlock_11 : decode cX10_readBlock 11 = .ok (.bipush 8, 2) := by decide +kernel
theorem dX10_readBlock_13 : decode cX10_readBlock 13 = .ok (.invokevirtual 93, 3) := by decide +kernel
theorem dX10_readBlock_16 : decode cX10_readBlock 16 = .ok (.aload_n 0, 1) := by decide +kernel
theorem dX10_readBlock_17 : decode cX10_readBlock 17 = .ok (.getfield 18, 3) := by decide +kernel
theorem dX10_readBlock_20 : decode cX10_readBlock 20 = .ok (.getfield 76, 3) := by decide +kernel
theorem dX10_readBlock_23 : decode cX10_readBlock 23 = .ok (.iload_n 1, 1) := by decide +kernel
theorem dX10_readBlock_24 : decode cX10_readBlock 24 = .ok (.iaload, 1) := by decide +kernel
theorem dX10_readBlock_25 : decode cX10_readBlock 25 = .ok (.iconst 1, 1) := by decide +kernel
theorem dX10_readBlock_26 : decode cX10_readBlock 26 = .ok (.if_icmp .ne 36, 3) := by decide +kernel
theorem dX10_readBlock_29 : decode cX10_readBlock 29 = .ok (.aload_n 0, 1) := by decide +kernel
theorem dX10_readBlock_30 : decode cX10_readBlock 30 = .ok (.getfield 9, 3) := by decide +kernel
theorem dX10_readBlock_33 : decode cX10_readBlock 33 = .ok (.iconst 3, 1) := by decide +kernel
theorem dX10_readBlock_34 : decode cX10_readBlock 34 = .ok (.dup2, 1) := by decide +kernel
theorem dX10_readBlock_35 : decode cX10_readBlock 35 = .ok (.iaload, 1) := by decide +kernel
theorem dX10_readBlock_36 : decode cX10_readBlock 36 = .ok (.iconst 1, 1) := by decide +kernel
theorem dX10_readBlock_37 : decode cX10_readBlock 37 = .ok (.iadd, 1) := by decide +kernel
theorem dX10_readBlock_38 : decode cX10_readBlock 38 = .ok (.iastore, 1) := by decide +kernel
theorem dX10_readBlock_39 : decode cX10_readBlock 39 = .ok (.aload_n 0, 1) := by decide +kernel
theorem dX10_readBlock_40 : decode cX10_readBlock 40 = .ok (.getfield 18, 3) := by decide +kernel
theorem dX10_readBlock_43 : decode cX10_readBlock 43 = .ok (.getfield 97, 3) := by decide +kernel
theorem dX10_readBlock_46 : decode cX10_readBlock 46 = .ok (.iload_n 1, 1) := by decide +kernel
theorem dX10_readBlock_47 : decode cX10_readBlock 47 = .ok (.dup2, 1) := by decide +kernel
theorem dX10_readBlock_48 : decode cX10_readBlock 48 = .ok (.iaload, 1) := by decide +kernel
theorem dX10_readBlock_49 : decode cX10_readBlock 49 = .ok (.bipush 7, 2) := by decide +kernel
theorem dX10_readBlock_51 : decode cX10_readBlock 51 = .ok (.iadd, 1) := by decide +kernel
theorem dX10_readBlock_52 : decode cX10_readBlock 52 = .ok (.iastore, 1) := by decide +kernel
theorem dX10_readBlock_53 : decode cX10_readBlock 53 = .ok (.aload_n 0, 1) := by decide +kernel
theorem dX10_readBlock_54 : decode cX10_readBlock 54 = .ok (.getfield 25, 3) := by decide +kernel
theorem dX10_readBlock_57 : decode cX10_readBlock 57 = .ok (.iload_n 3, 1) := by decide +kernel
theorem dX10_readBlock_58 : decode cX10_readBlock 58 = .ok (.invokevirtual 100, 3) := by decide +kernel
theorem dX10_readBlock_61 : decode cX10_readBlock 61 = .ok (.ireturn, 1) := by decide +kernel
theorem dX10_readBlock_62 : decode cX10_readBlock 62 = .ok (.aload_n 0, 1) := by decide +kernel
theorem dX10_readBlock_63 : decode cX10_readBlock 63 = .ok (.getfield 9, 3) := by decide +kernel
theorem dX10_readBlock_66 : decode cX10_readBlock 66 = .ok (.iconst 3, 1) := by decide +kernel
theorem dX10_readBlock_67 : decode cX10_readBlock 67 = .ok (.dup2, 1) := by decide +kernel
theorem dX10_readBlock_68 : decode cX10_readBlock 68 = .ok (.iaload, 1) := by decide +kernel
theorem dX10_readBlock_69 : decode cX10_readBlock 69 = .ok (.bipush 8, 2) := by decide +kernel
theorem dX10_readBlock_71 : decode cX10_readBlock 71 = .ok (.iadd, 1) := by decide +kernel
theorem dX10_readBlock_72 : decode cX10_readBlock 72 = .ok (.iastore, 1) := by decide +kernel
theorem dX10_readBlock_73 : decode cX10_readBlock 73 = .ok (.aload_n 0, 1) := by decide +kernel
theorem dX10_readBlock_74 : decode cX10_readBlock 74 = .ok (.getfield 25, 3) := by decide +kernel
theorem dX10_readBlock_77 : decode cX10_readBlock 77 = .ok (.getfield 103, 3) := by decide +kernel
theorem dX10_readBlock_80 : decode cX10_readBlock 80 = .ok (.iload_n 3, 1) := by decide +kernel
theorem dX10_readBlock_81 : decode cX10_readBlock 81 = .ok (.iaload, 1) := by decide +kernel
theorem dX10_readBlock_82 : decode cX10_readBlock 82 = .ok (.ireturn, 1) := by decide +kernel
theorem dX10_writeBlock_0 : decode cX10_writeBlock 0 = .ok (.getstatic 79, 3) := by decide +kernel
theorem dX10_writeBlock_3 : decode cX10_writeBlock 3 = .ok (.iload_n 1, 1) := by decide +kernel
theorem dX10_writeBlock_4 : decode cX10_writeBlock 4 = .ok (.iaload, 1) := by decide +kernel
theorem dX10_writeBlock_5 : decode cX10_writeBlock 5 = .ok (.iload_n 2, 1) := by decide +kernel
theorem dX10_writeBlock_6 : decode cX10_writeBlock 6 = .ok (.iadd, 1) := by decide +kernel
theorem dX10_writeBlock_7 : decode cX10_writeBlock 7 = .ok (.istore 4, 2) := by decide +kernel
theorem dX10_writeBlock_9 : decode cX10_writeBlock 9 = .ok (.aload_n 0, 1) := by decide +kernel
theorem dX10_writeBlock_10 : decode cX10_writeBlock 10 = .ok (.iload_n 1, 1) := by decide +kernel
theorem dX10_writeBlock_11 : decode cX10_writeBlock 11 = .ok (.iload_n 2, 1) := by decide +kernel
theorem dX10_writeBlock_12 : decode cX10_writeBlock 12 = .ok (.bipush 12, 2) := by decide +kernel
theorem dX10_writeBlock_14 : decode cX10_writeBlock 14 = .ok (.invokevirtual 93, 3) := by decide +kernel
theorem dX10_writeBlock_17 : decode cX10_writeBlock 17 = .ok (.aload_n 0, 1) := by decide +kernel
theorem dX10_writeBlock_18 : decode cX10_writeBlock 18 = .ok (.getfield 18, 3) := by decide +kernel
theorem dX10_writeBlock_21 : decode cX10_writeBlock 21 = .ok (.getfield 76, 3) := by decide +kernel
theorem dX10_writeBlock_24 : decode cX10_writeBlock 24 = .ok (.iload_n 1, 1) := by decide +kernel
theorem dX10_writeBlock_25 : decode cX10_writeBlock 25 = .ok (.iaload, 1) := by decide +kernel
theorem dX10_writeBlock_26 : decode cX10_writeBlock 26 = .ok (.iconst 1, 1) := by decide +kernel
theorem dX10_writeBlock_27 : decode cX10_writeBlock 27 = .ok (.if_icmp .ne 53, 3) := by decide +kernel
theorem dX10_writeBlock_30 : decode cX10_writeBlock 30 = .ok (.aload_n 0, 1) := by decide +kernel
theorem dX10_writeBlock_31 : decode cX10_writeBlock 31 = .ok (.getfield 9, 3) := by decide +kernel
theorem dX10_writeBlock_34 : decode cX10_writeBlock 34 = .ok (.iconst 3, 1) := by decide +kernel
theorem dX10_writeBlock_35 : decode cX10_writeBlock 35 = .ok (.dup2, 1) := by decide +kernel
theorem dX10_writeBlock_36 : decode cX10_writeBlock 36 = .ok (.iaload, 1) := by decide +kernel
theorem dX10_writeBlock_37 : decode cX10_writeBlock 37 = .ok (.iconst 2, 1) := by decide +kernel
theorem dX10_writeBlock_38 : decode cX10_writeBlock 38 = .ok (.iadd, 1) := by decide +kernel
theorem dX10_writeBlock_39 : decode cX10_writeBlock 39 = .ok (.iastore, 1) := by decide +kernel
theorem dX10_writeBlock_40 : decode cX10_writeBlock 40 = .ok (.aload_n 0, 1) := by decide +kernel
theorem dX10_writeBlock_41 : decode cX10_writeBlock 41 = .ok (.getfield 18, 3) := by decide +kernel
theorem dX10_writeBlock_44 : decode cX10_writeBlock 44 = .ok (.getfield 97, 3) := by decide +kernel
theorem dX10_writeBlock_47 : decode cX10_writeBlock 47 = .ok (.iload_n 1, 1) := by decide +kernel
theorem dX10_writeBlock_48 : decode cX10_writeBlock 48 = .ok (.dup2, 1) := by decide +kernel
theorem dX10_writeBlock_49 : decode cX10_writeBlock 49 = .ok (.iaload, 1) := by decide +kernel
theorem dX10_writeBlock_50 : decode cX10_writeBlock 50 = .ok (.bipush 8, 2) := by decide +kernel
theorem dX10_writeBlock_52 : decode cX10_writeBlock 52 = .ok (.iadd, 1) := by decide +kernel
theorem dX10_writeBlock_53 : decode cX10_writeBlock 53 = .ok (.iastore, 1) := by decide +kernel
theorem dX10_writeBlock_54 : decode cX10_writeBlock 54 = .ok (.aload_n 0, 1) := by decide +kernel
theorem dX10_writeBlock_55 : decode cX10_writeBlock 55 = .ok (.getfield 25, 3) := by decide +kernel
theorem dX10_writeBlock_58 : decode cX10_writeBlock 58 = .ok (.iload 4, 2) := by decide +kernel
theorem dX10_writeBlock_60 : decode cX10_writeBlock 60 = .ok (.iload_n 3, 1) := by decide +kernel
theorem dX10_writeBlock_61 : decode cX10_writeBlock 61 = .ok (.invokevirtual 106, 3) := by decide +kernel
theorem dX10_writeBlock_64 : decode cX10_writeBlock 64 = .ok (.aload_n 0, 1) := by decide +kernel
theorem dX10_writeBlock_65 : decode cX10_writeBlock 65 = .ok (.getfield 18, 3) := by decide +kernel
theorem dX10_writeBlock_68 : decode cX10_writeBlock 68 = .ok (.getfield 109, 3) := by decide +kernel
theorem dX10_writeBlock_71 : decode cX10_writeBlock 71 = .ok (.iload_n 1, 1) := by decide +kernel
theorem dX10_writeBlock_72 : decode cX10_writeBlock 72 = .ok (.dup2, 1) := by decide +kernel
theorem dX10_writeBlock_73 : decode cX10_writeBlock 73 = .ok (.iaload, 1) := by decide +kernel
theorem dX10_writeBlock_74 : decode cX10_writeBlock 74 = .ok (.iconst 1, 1) := by decide +kernel
theorem dX10_writeBlock_75 : decode cX10_writeBlock 75 = .ok (.iload_n 2, 1) := by decide +kernel
theorem dX10_writeBlock_76 : decode cX10_writeBlock 76 = .ok (.ishl, 1) := by decide +kernel
theorem dX10_writeBlock_77 : decode cX10_writeBlock 77 = .ok (.ior, 1) := by decide +kernel
theorem dX10_writeBlock_78 : decode cX10_writeBlock 78 = .ok (.iastore, 1) := by decide +kernel
theorem dX10_writeBlock_79 : decode cX10_writeBlock 79 = .ok (.return_, 1) := by decide +kernel
theorem dX10_writeBlock_80 : decode cX10_writeBlock 80 = .ok (.aload_n 0, 1) := by decide +kernel
theorem dX10_writeBlock_81 : decode cX10_writeBlock 81 = .ok (.getfield 9, 3) := by decide +kernel
theorem dX10_writeBlock_84 : decode cX10_writeBlock 84 = .ok (.iconst 3, 1) := by decide +kernel
theorem dX10_writeBlock_85 : decode cX10_writeBlock 85 = .ok (.dup2, 1) := by decide +kernel
theorem dX10_writeBlock_86 : decode cX10_writeBlock 86 = .ok (.iaload, 1) := by decide +kernel
theorem dX10_writeBlock_87 : decode cX10_writeBlock 87 = .ok (.bipush 10, 2) := by decide +kernel
theorem dX10_writeBlock_89 : decode cX10_writeBlock 89 = .ok (.iadd, 1) := by decide +kernel
theorem dX10_writeBlock_90 : decode cX10_writeBlock 90 = .ok (.iastore, 1) := by decide +kernel
theorem dX10_writeBlock_91 : decode cX10_writeBlock 91 = .ok (.aload_n 0, 1) := by decide +kernel
theorem dX10_writeBlock_92 : decode cX10_writeBlock 92 = .ok (.getfield 25, 3) := by decide +kernel
theorem dX10_writeBlock_95 : decode cX10_writeBlock 95 = .ok (.getfield 103, 3) := by decide +kernel
theorem dX10_writeBlock_98 : decode cX10_writeBlock 98 = .ok (.iload 4, 2) := by decide +kernel
theorem dX10_writeBlock_100 : decode cX10_writeBlock 100 = .ok (.iload_n 3, 1) := by decide +kernel
theorem dX10_writeBlock_101 : decode cX10_writeBlock 101 = .ok (.iastore, 1) := by decide +kernel
theorem dX10_writeBlock_102 : decode cX10_writeBlock 102 = .ok (.aload_n 0, 1) := by decide +kernel
theorem dX10_writeBlock_103 : decode cX10_writeBlock 103 = .ok (.getfield 39, 3) := by decide +kernel
theorem dX10_writeBlock_106 : decode cX10_writeBlock 106 = .ok (.iload_n 1, 1) := by decide +kernel
theorem dX10_writeBlock_107 : decode cX10_writeBlock 107 = .ok (.invokevirtual 112, 3) := by decide +kernel
theorem dX10_writeBlock_110 : decode cX10_writeBlock 110 = .ok (.istore 5, 2) := by decide +kernel
theorem dX10_writeBlock_112 : decode cX10_writeBlock 112 = .ok (.iload 5, 2) := by decide +kernel
theorem dX10_writeBlock_114 : decode cX10_writeBlock 114 = .ok (.iconst (-1), 1) := by decide +kernel
theorem dX10_writeBlock_115 : decode cX10_writeBlock 115 = .ok (.if_icmp .eq 21, 3) := by decide +kernel
theorem dX10_writeBlock_118 : decode cX10_writeBlock 118 = .ok (.aload_n 0, 1) := by decide +kernel
theorem dX10_writeBlock_119 : decode cX10_writeBlock 119 = .ok (.getfield 39, 3) := by decide +kernel
theorem dX10_writeBlock_122 : decode cX10_writeBlock 122 = .ok (.getfield 115, 3) := by decide +kernel
theorem dX10_writeBlock_125 : decode cX10_writeBlock 125 = .ok (.iload 5, 2) := by decide +kernel
theorem dX10_writeBlock_127 : decode cX10_writeBlock 127 = .ok (.dup2, 1) := by decide +kernel
theorem dX10_writeBlock_128 : decode cX10_writeBlock 128 = .ok (.iaload, 1) := by decide +kernel
theorem dX10_writeBlock_129 : decode cX10_writeBlock 129 = .ok (.iconst 1, 1) := by decide +kernel
theorem dX10_writeBlock_130 : decode cX10_writeBlock 130 = .ok (.iload_n 2, 1) := by decide +kernel
theorem dX10_writeBlock_131 : decode cX10_writeBlock 131 = .ok (.ishl, 1) := by decide +kernel
theorem dX10_writeBlock_132 : decode cX10_writeBlock 132 = .ok (.iconst (-1), 1) := by decide +kernel
theorem dX10_writeBlock_133 : decode cX10_writeBlock 133 = .ok (.ixor, 1) := by decide +kernel
theorem dX10_writeBlock_134 : decode cX10_writeBlock 134 = .ok (.iand, 1) := by decide +kernel
theorem dX10_writeBlock_135 : decode cX10_writeBlock 135 = .ok (.iastore, 1) := by decide +kernel
theorem dX10_writeBlock_136 : decode cX10_writeBlock 136 = .ok (.return_, 1) := by decide +kernel
theorem dX10_readExtents_0 : decode cX10_readExtents 0 = .ok (.iconst 0, 1) := by decide +kernel
theorem dX10_readExtents_1 : decode cX10_readExtents 1 = .ok (.istore 4, 2) := by decide +kernel
theorem dX10_readExtents_3 : decode cX10_readExtents 3 = .ok (.iload_n 1, 1) := by decide +kernel
theorem dX10_readExtents_4 : decode cX10_readExtents 4 = .ok (.istore 5, 2) := by decide +kernel
theorem dX10_readExtents_6 : decode cX10_readExtents 6 = .ok (.iload 5, 2) := by decide +kernel
theorem dX10_readExtents_8 : decode cX10_readExtents 8 = .ok (.iload_n 2, 1) := by decide +kernel
theorem dX10_readExtents_9 : decode cX10_readExtents 9 = .ok (.if_icmp .gt 47, 3) := by decide +kernel
theorem dX10_readExtents_12 : decode cX10_readExtents 12 = .ok (.iconst 0, 1) := by decide +kernel
theorem dX10_readExtents_13 : decode cX10_readExtents 13 = .ok (.istore 6, 2) := by decide +kernel
theorem dX10_readExtents_15 : decode cX10_readExtents 15 = .ok (.iload 6, 2) := by decide +kernel
theorem dX10_readExtents_17 : decode cX10_readExtents 17 = .ok (.getstatic 118, 3) := by decide +kernel
theorem dX10_readExtents_20 : decode cX10_readExtents 20 = .ok (.iload 5, 2) := by decide +kernel
theorem dX10_readExtents_22 : decode cX10_readExtents 22 = .ok (.iaload, 1) := by decide +kernel
theorem dX10_readExtents_23 : decode cX10_readExtents 23 = .ok (.if_icmp .ge 27, 3) := by decide +kernel
theorem dX10_readExtents_26 : decode cX10_readExtents 26 = .ok (.iload 4, 2) := by decide +kernel
theorem dX10_readExtents_28 : decode cX10_readExtents 28 = .ok (.iload_n 3, 1) := by decide +kernel
theorem dX10_readExtents_29 : decode cX10_readExtents 29 = .ok (.if_icmp .ge 21, 3) := by decide +kernel
theorem dX10_readExtents_32 : decode cX10_readExtents 32 = .ok (.aload_n 0, 1) := by decide +kernel
theorem dX10_readExtents_33 : decode cX10_readExtents 33 = .ok (.iload 5, 2) := by decide +kernel
theorem dX10_readExtents_35 : decode cX10_readExtents 35 = .ok (.iload 6, 2) := by decide +kernel
theorem dX10_readExtents_37 : decode cX10_readExtents 37 = .ok (.invokevirtual 121, 3) := by decide +kernel
theorem dX10_readExtents_40 : decode cX10_readExtents 40 = .ok (.pop, 1) := by decide +kernel
theorem dX10_readExtents_41 : decode cX10_readExtents 41 = .ok (.iinc 4 1, 3) := by decide +kernel
theorem dX10_readExtents_44 : decode cX10_readExtents 44 = .ok (.iinc 6 1, 3) := by decide +kernel
theorem dX10_readExtents_47 : decode cX10_readExtents 47 = .ok (.goto (-32), 3) := by decide +kernel
theorem dX10_readExtents_50 : decode cX10_readExtents 50 = .ok (.iinc 5 1, 3) := by decide +kernel
theorem dX10_readExtents_53 : decode cX10_readExtents 53 = .ok (.goto (-47), 3) := by decide +kernel
theorem dX10_readExtents_56 : decode cX10_readExtents 56 = .ok (.iload 4, 2) := by decide +kernel
theorem dX10_readExtents_58 : decode cX10_readExtents 58 = .ok (.ireturn, 1) := by decide +kernel
theorem dX10_pass_0 : decode cX10_pass 0 = .ok (.iconst 0, 1) := by decide +kernel
theorem dX10_pass_1 : decode cX10_pass 1 = .ok (.istore_n 3, 1) := by decide +kernel
theorem dX10_pass_2 : decode cX10_pass 2 = .ok (.iload_n 3, 1) := by decide +kernel
theorem dX10_pass_3 : decode cX10_pass 3 = .ok (.iload_n 1, 1) := by decide +kernel
theorem dX10_pass_4 : decode cX10_pass 4 = .ok (.if_icmp .ge 14, 3) := by decide +kernel
theorem dX10_pass_7 : decode cX10_pass 7 = .ok (.aload_n 0, 1) := by decide +kernel
theorem dX10_pass_8 : decode cX10_pass 8 = .ok (.aload_n 2, 1) := by decide +kernel
theorem dX10_pass_9 : decode cX10_pass 9 = .ok (.invokevirtual 125, 3) := by decide +kernel
theorem dX10_pass_12 : decode cX10_pass 12 = .ok (.iinc 3 1, 3) := by decide +kernel
theorem dX10_pass_15 : decode cX10_pass 15 = .ok (.goto (-13), 3) := by decide +kernel
theorem dX10_pass_18 : decode cX10_pass 18 = .ok (.return_, 1) := by decide +kernel
theorem dX10_tick_0 : decode cX10_tick 0 = .ok (.aload_n 0, 1) := by decide +kernel
theorem dX10_tick_1 : decode cX10_tick 1 = .ok (.getfield 9, 3) := by decide +kernel
theorem dX10_tick_4 : decode cX10_tick 4 = .ok (.iconst 0, 1) := by decide +kernel
theorem dX10_tick_5 : decode cX10_tick 5 = .ok (.dup2, 1) := by decide +kernel
theorem dX10_tick_6 : decode cX10_tick 6 = .ok (.iaload, 1) := by decide +kernel
theorem dX10_tick_7 : decode cX10_tick 7 = .ok (.iconst 1, 1) := by decide +kernel
theorem dX10_tick_8 : decode cX10_tick 8 = .ok (.iadd, 1) := by decide +kernel
theorem dX10_tick_9 : decode cX10_tick 9 = .ok (.iastore, 1) := by decide +kernel
theorem dX10_tick_10 : decode cX10_tick 10 = .ok (.aload_n 0, 1) := by decide +kernel
theorem dX10_tick_11 : decode cX10_tick 11 = .ok (.invokevirtual 129, 3) := by decide +kernel
theorem dX10_tick_14 : decode cX10_tick 14 = .ok (.aload_n 0, 1) := by decide +kernel
theorem dX10_tick_15 : decode cX10_tick 15 = .ok (.invokevirtual 132, 3) := by decide +kernel
theorem dX10_tick_18 : decode cX10_tick 18 = .ok (.aload_n 0, 1) := by decide +kernel
theorem dX10_tick_19 : decode cX10_tick 19 = .ok (.getfield 9, 3) := by decide +kernel
theorem dX10_tick_22 : decode cX10_tick 22 = .ok (.iconst 0, 1) := by decide +kernel
theorem dX10_tick_23 : decode cX10_tick 23 = .ok (.iaload, 1) := by decide +kernel
theorem dX10_tick_24 : decode cX10_tick 24 = .ok (.iconst 4, 1) := by decide +kernel
theorem dX10_tick_25 : decode cX10_tick 25 = .ok (.irem, 1) := by decide +kernel
theorem dX10_tick_26 : decode cX10_tick 26 = .ok (.ifCond .ne 25, 3) := by decide +kernel
theorem dX10_tick_29 : decode cX10_tick 29 = .ok (.aload_n 0, 1) := by decide +kernel
theorem dX10_tick_30 : decode cX10_tick 30 = .ok (.aload_n 1, 1) := by decide +kernel
theorem dX10_tick_31 : decode cX10_tick 31 = .ok (.invokevirtual 135, 3) := by decide +kernel
theorem dX10_tick_34 : decode cX10_tick 34 = .ok (.aload_n 0, 1) := by decide +kernel
theorem dX10_tick_35 : decode cX10_tick 35 = .ok (.getfield 9, 3) := by decide +kernel
theorem dX10_tick_38 : decode cX10_tick 38 = .ok (.iconst 2, 1) := by decide +kernel
theorem dX10_tick_39 : decode cX10_tick 39 = .ok (.dup2, 1) := by decide +kernel
theorem dX10_tick_40 : decode cX10_tick 40 = .ok (.iaload, 1) := by decide +kernel
theorem dX10_tick_41 : decode cX10_tick 41 = .ok (.iconst 1, 1) := by decide +kernel
theorem dX10_tick_42 : decode cX10_tick 42 = .ok (.iadd, 1) := by decide +kernel
theorem dX10_tick_43 : decode cX10_tick 43 = .ok (.iastore, 1) := by decide +kernel
theorem dX10_tick_44 : decode cX10_tick 44 = .ok (.aload_n 0, 1) := by decide +kernel
theorem dX10_tick_45 : decode cX10_tick 45 = .ok (.getfield 18, 3) := by decide +kernel
theorem dX10_tick_48 : decode cX10_tick 48 = .ok (.invokevirtual 138, 3) := by decide +kernel
theorem dX10_tick_51 : decode cX10_tick 51 = .ok (.return_, 1) := by decide +kernel
theorem dX10_moveBlocks_0 : decode cX10_moveBlocks 0 = .ok (.aload_n 0, 1) := by decide +kernel
theorem dX10_moveBlocks_1 : decode cX10_moveBlocks 1 = .ok (.getfield 9, 3) := by decide +kernel
theorem dX10_moveBlocks_4 : decode cX10_moveBlocks 4 = .ok (.iconst 4, 1) := by decide +kernel
theorem dX10_moveBlocks_5 : decode cX10_moveBlocks 5 = .ok (.iaload, 1) := by decide +kernel
theorem dX10_moveBlocks_6 : decode cX10_moveBlocks 6 = .ok (.istore_n 1, 1) := by decide +kernel
theorem dX10_moveBlocks_7 : decode cX10_moveBlocks 7 = .ok (.iconst 0, 1) := by decide +kernel
theorem dX10_moveBlocks_8 : decode cX10_moveBlocks 8 = .ok (.istore_n 2, 1) := by decide +kernel
theorem dX10_moveBlocks_9 : decode cX10_moveBlocks 9 = .ok (.iload_n 2, 1) := by decide +kernel
theorem dX10_moveBlocks_10 : decode cX10_moveBlocks 10 = .ok (.aload_n 0, 1) := by decide +kernel
theorem dX10_moveBlocks_11 : decode cX10_moveBlocks 11 = .ok (.getfield 39, 3) := by decide +kernel
theorem dX10_moveBlocks_14 : decode cX10_moveBlocks 14 = .ok (.getfield 141, 3) := by decide +kernel
theorem dX10_moveBlocks_17 : decode cX10_moveBlocks 17 = .ok (.if_icmp .ge 43, 3) := by decide +kernel
theorem dX10_moveBlocks_20 : decode cX10_moveBlocks 20 = .ok (.iload_n 1, 1) := by decide +kernel
theorem dX10_moveBlocks_21 : decode cX10_moveBlocks 21 = .ok (.ifCond .le 39, 3) := by decide +kernel
theorem dX10_moveBlocks_24 : decode cX10_moveBlocks 24 = .ok (.aload_n 0, 1) := by decide +kernel
theorem dX10_moveBlocks_25 : decode cX10_moveBlocks 25 = .ok (.getfield 39, 3) := by decide +kernel
theorem dX10_moveBlocks_28 : decode cX10_moveBlocks 28 = .ok (.getfield 145, 3) := by decide +kernel
theorem dX10_moveBlocks_31 : decode cX10_moveBlocks 31 = .ok (.iload_n 2, 1) := by decide +kernel
theorem dX10_moveBlocks_32 : decode cX10_moveBlocks 32 = .ok (.iaload, 1) := by decide +kernel
theorem dX10_moveBlocks_33 : decode cX10_moveBlocks 33 = .ok (.iconst 1, 1) := by decide +kernel
theorem dX10_moveBlocks_34 : decode cX10_moveBlocks 34 = .ok (.if_icmp .eq 11, 3) := by decide +kernel
theorem dX10_moveBlocks_37 : decode cX10_moveBlocks 37 = .ok (.aload_n 0, 1) := by decide +kernel
theorem dX10_moveBlocks_38 : decode cX10_moveBlocks 38 = .ok (.iload_n 2, 1) := by decide +kernel
theorem dX10_moveBlocks_39 : decode cX10_moveBlocks 39 = .ok (.invokevirtual 148, 3) := by decide +kernel
theorem dX10_moveBlocks_42 : decode cX10_moveBlocks 42 = .ok (.ifCond .eq 12, 3) := by decide +kernel
theorem dX10_moveBlocks_45 : decode cX10_moveBlocks 45 = .ok (.iload_n 1, 1) := by decide +kernel
theorem dX10_moveBlocks_46 : decode cX10_moveBlocks 46 = .ok (.aload_n 0, 1) := by decide +kernel
theorem dX10_moveBlocks_47 : decode cX10_moveBlocks 47 = .ok (.iload_n 2, 1) := by decide +kernel
theorem dX10_moveBlocks_48 : decode cX10_moveBlocks 48 = .ok (.iload_n 1, 1) := by decide +kernel
theorem dX10_moveBlocks_49 : decode cX10_moveBlocks 49 = .ok (.invokevirtual 152, 3) := by decide +kernel
theorem dX10_moveBlocks_52 : decode cX10_moveBlocks 52 = .ok (.isub, 1) := by decide +kernel
theorem dX10_moveBlocks_53 : decode cX10_moveBlocks 53 = .ok (.istore_n 1, 1) := by decide +kernel
theorem dX10_moveBlocks_54 : decode cX10_moveBlocks 54 = .ok (.iinc 2 1, 3) := by decide +kernel
theorem dX10_moveBlocks_57 : decode cX10_moveBlocks 57 = .ok (.goto (-48), 3) := by decide +kernel
theorem dX10_moveBlocks_60 : decode cX10_moveBlocks 60 = .ok (.return_, 1) := by decide +kernel
theorem dX10_begin_0 : decode cX10_begin 0 = .ok (.aload_n 0, 1) := by decide +kernel
theorem dX10_begin_1 : decode cX10_begin 1 = .ok (.getfield 39, 3) := by decide +kernel
theorem dX10_begin_4 : decode cX10_begin 4 = .ok (.getfield 155, 3) := by decide +kernel
theorem dX10_begin_7 : decode cX10_begin 7 = .ok (.iload_n 1, 1) := by decide +kernel
theorem dX10_begin_8 : decode cX10_begin 8 = .ok (.iaload, 1) := by decide +kernel
theorem dX10_begin_9 : decode cX10_begin 9 = .ok (.istore_n 2, 1) := by decide +kernel
theorem dX10_begin_10 : decode cX10_begin 10 = .ok (.aload_n 0, 1) := by decide +kernel
theorem dX10_begin_11 : decode cX10_begin 11 = .ok (.getfield 39, 3) := by decide +kernel
theorem dX10_begin_14 : decode cX10_begin 14 = .ok (.getfield 158, 3) := by decide +kernel
theorem dX10_begin_17 : decode cX10_begin 17 = .ok (.iload_n 1, 1) := by decide +kernel
theorem dX10_begin_18 : decode cX10_begin 18 = .ok (.iaload, 1) := by decide +kernel
theorem dX10_begin_19 : decode cX10_begin 19 = .ok (.iconst 1, 1) := by decide +kernel
theorem dX10_begin_20 : decode cX10_begin 20 = .ok (.if_icmp .ne 28, 3) := by decide +kernel
theorem dX10_begin_23 : decode cX10_begin 23 = .ok (.aload_n 0, 1) := by decide +kernel
theorem dX10_begin_24 : decode cX10_begin 24 = .ok (.getfield 25, 3) := by decide +kernel
theorem dX10_begin_27 : decode cX10_begin 27 = .ok (.invokevirtual 161, 3) := by decide +kernel
theorem dX10_begin_30 : decode cX10_begin 30 = .ok (.getstatic 118, 3) := by decide +kernel
theorem dX10_begin_33 : decode cX10_begin 33 = .ok (.iload_n 2, 1) := by decide +kernel
theorem dX10_begin_34 : decode cX10_begin 34 = .ok (.iaload, 1) := by decide +kernel
theorem dX10_begin_35 : decode cX10_begin 35 = .ok (.if_icmp .ge 5, 3) := by decide +kernel
theorem dX10_begin_38 : decode cX10_begin 38 = .ok (.iconst 0, 1) := by decide +kernel
theorem dX10_begin_39 : decode cX10_begin 39 = .ok (.ireturn, 1) := by decide +kernel
theorem dX10_begin_40 : decode cX10_begin 40 = .ok (.aload_n 0, 1) := by decide +kernel
theorem dX10_begin_41 : decode cX10_begin 41 = .ok (.getfield 25, 3) := by decide +kernel
theorem dX10_begin_44 : decode cX10_begin 44 = .ok (.iload_n 2, 1) := by decide +kernel
theorem dX10_begin_45 : decode cX10_begin 45 = .ok (.invokevirtual 165, 3) := by decide +kernel
theorem dX10_begin_48 : decode cX10_begin 48 = .ok (.aload_n 0, 1) := by decide +kernel
theorem dX10_begin_49 : decode cX10_begin 49 = .ok (.getfield 39, 3) := by decide +kernel
theorem dX10_begin_52 : decode cX10_begin 52 = .ok (.getfield 145, 3) := by decide +kernel
theorem dX10_begin_55 : decode cX10_begin 55 = .ok (.iload_n 1, 1) := by decide +kernel
theorem dX10_begin_56 : decode cX10_begin 56 = .ok (.iconst 1, 1) := by decide +kernel
theorem dX10_begin_57 : decode cX10_begin 57 = .ok (.iastore, 1) := by decide +kernel
theorem dX10_begin_58 : decode cX10_begin 58 = .ok (.aload_n 0, 1) := by decide +kernel
theorem dX10_begin_59 : decode cX10_begin 59 = .ok (.iconst 0, 1) := by decide +kernel
theorem dX10_begin_60 : decode cX10_begin 60 = .ok (.iload_n 2, 1) := by decide +kernel
theorem dX10_begin_61 : decode cX10_begin 61 = .ok (.aload_n 0, 1) := by decide +kernel
theorem dX10_begin_62 : decode cX10_begin 62 = .ok (.getfield 39, 3) := by decide +kernel
theorem dX10_begin_65 : decode cX10_begin 65 = .ok (.getfield 158, 3) := by decide +kernel
theorem dX10_begin_68 : decode cX10_begin 68 = .ok (.iload_n 1, 1) := by decide +kernel
theorem dX10_begin_69 : decode cX10_begin 69 = .ok (.iaload, 1) := by decide +kernel
theorem dX10_begin_70 : decode cX10_begin 70 = .ok (.invokevirtual 169, 3) := by decide +kernel
theorem dX10_begin_73 : decode cX10_begin 73 = .ok (.iconst 1, 1) := by decide +kernel
theorem dX10_begin_74 : decode cX10_begin 74 = .ok (.ireturn, 1) := by decide +kernel
theorem dX10_copyBlocks_0 : decode cX10_copyBlocks 0 = .ok (.aload_n 0, 1) := by decide +kernel
theorem dX10_copyBlocks_1 : decode cX10_copyBlocks 1 = .ok (.getfield 39, 3) := by decide +kernel
theorem dX10_copyBlocks_4 : decode cX10_copyBlocks 4 = .ok (.getfield 155, 3) := by decide +kernel
theorem dX10_copyBlocks_7 : decode cX10_copyBlocks 7 = .ok (.iload_n 1, 1) := by decide +kernel
theorem dX10_copyBlocks_8 : decode cX10_copyBlocks 8 = .ok (.iaload, 1) := by decide +kernel
theorem dX10_copyBlocks_9 : decode cX10_copyBlocks 9 = .ok (.istore_n 3, 1) := by decide +kernel
theorem dX10_copyBlocks_10 : decode cX10_copyBlocks 10 = .ok (.aload_n 0, 1) := by decide +kernel
theorem dX10_copyBlocks_11 : decode cX10_copyBlocks 11 = .ok (.iload_n 1, 1) := by decide +kernel
theorem dX10_copyBlocks_12 : decode cX10_copyBlocks 12 = .ok (.invokevirtual 172, 3) := by decide +kernel
theorem dX10_copyBlocks_15 : decode cX10_copyBlocks 15 = .ok (.istore 4, 2) := by decide +kernel
theorem dX10_copyBlocks_17 : decode cX10_copyBlocks 17 = .ok (.iconst 0, 1) := by decide +kernel
theorem dX10_copyBlocks_18 : decode cX10_copyBlocks 18 = .ok (.istore 5, 2) := by decide +kernel
theorem dX10_copyBlocks_20 : decode cX10_copyBlocks 20 = .ok (.iconst 0, 1) := by decide +kernel
theorem dX10_copyBlocks_21 : decode cX10_copyBlocks 21 = .ok (.istore 6, 2) := by decide +kernel
theorem dX10_copyBlocks_23 : decode cX10_copyBlocks 23 = .ok (.iload 6, 2) := by decide +kernel
theorem dX10_copyBlocks_25 : decode cX10_copyBlocks 25 = .ok (.getstatic 118, 3) := by decide +kernel
theorem dX10_copyBlocks_28 : decode cX10_copyBlocks 28 = .ok (.iload_n 3, 1) := by decide +kernel
theorem dX10_copyBlocks_29 : decode cX10_copyBlocks 29 = .ok (.iaload, 1) := by decide +kernel
theorem dX10_copyBlocks_30 : decode cX10_copyBlocks 30 = .ok (.if_icmp .ge 37, 3) := by decide +kernel
theorem dX10_copyBlocks_33 : decode cX10_copyBlocks 33 = .ok (.iload 5, 2) := by decide +kernel
theorem dX10_copyBlocks_35 : decode cX10_copyBlocks 35 = .ok (.iload_n 2, 1) := by decide +kernel
theorem dX10_copyBlocks_36 : decode cX10_copyBlocks 36 = .ok (.if_icmp .ge 31, 3) := by decide +kernel
theorem dX10_copyBlocks_39 : decode cX10_copyBlocks 39 = .ok (.iload 4, 2) := by decide +kernel
theorem dX10_copyBlocks_41 : decode cX10_copyBlocks 41 = .ok (.iload 6, 2) := by decide +kernel
theorem dX10_copyBlocks_43 : decode cX10_copyBlocks 43 = .ok (.ishr, 1) := by decide +kernel
theorem dX10_copyBlocks_44 : decode cX10_copyBlocks 44 = .ok (.iconst 1, 1) := by decide +kernel
theorem dX10_copyBlocks_45 : decode cX10_copyBlocks 45 = .ok (.iand, 1) := by decide +kernel
theorem dX10_copyBlocks_46 : decode cX10_copyBlocks 46 = .ok (.iconst 1, 1) := by decide +kernel
theorem dX10_copyBlocks_47 : decode cX10_copyBlocks 47 = .ok (.if_icmp .ne 14, 3) := by decide +kernel
theorem dX10_copyBlocks_50 : decode cX10_copyBlocks 50 = .ok (.aload_n 0, 1) := by decide +kernel
theorem dX10_copyBlocks_51 : decode cX10_copyBlocks 51 = .ok (.iload_n 1, 1) := by decide +kernel
theorem dX10_copyBlocks_52 : decode cX10_copyBlocks 52 = .ok (.iload_n 3, 1) := by decide +kernel
theorem dX10_copyBlocks_53 : decode cX10_copyBlocks 53 = .ok (.iload 6, 2) := by decide +kernel
theorem dX10_copyBlocks_55 : decode cX10_copyBlocks 55 = .ok (.invokevirtual 175, 3) := by decide +kernel
theorem dX10_copyBlocks_58 : decode cX10_copyBlocks 58 = .ok (.iinc 5 1, 3) := by decide +kernel
theorem dX10_copyBlocks_61 : decode cX10_copyBlocks 61 = .ok (.iinc 6 1, 3) := by decide +kernel
theorem dX10_copyBlocks_64 : decode cX10_copyBlocks 64 = .ok (.goto (-41), 3) := by decide +kernel
theorem dX10_copyBlocks_67 : decode cX10_copyBlocks 67 = .ok (.aload_n 0, 1) := by decide +kernel
theorem dX10_copyBlocks_68 : decode cX10_copyBlocks 68 = .ok (.getfield 9, 3) := by decide +kernel
theorem dX10_copyBlocks_71 : decode cX10_copyBlocks 71 = .ok (.bipush 10, 2) := by decide +kernel
theorem dX10_copyBlocks_73 : decode cX10_copyBlocks 73 = .ok (.dup2, 1) := by decide +kernel
theorem dX10_copyBlocks_74 : decode cX10_copyBlocks 74 = .ok (.iaload, 1) := by decide +kernel
theorem dX10_copyBlocks_75 : decode cX10_copyBlocks 75 = .ok (.iload 5, 2) := by decide +kernel
theorem dX10_copyBlocks_77 : decode cX10_copyBlocks 77 = .ok (.iadd, 1) := by decide +kernel
theorem dX10_copyBlocks_78 : decode cX10_copyBlocks 78 = .ok (.iastore, 1) := by decide +kernel
theorem dX10_copyBlocks_79 : decode cX10_copyBlocks 79 = .ok (.aload_n 0, 1) := by decide +kernel
theorem dX10_copyBlocks_80 : decode cX10_copyBlocks 80 = .ok (.getfield 9, 3) := by decide +kernel
theorem dX10_copyBlocks_83 : decode cX10_copyBlocks 83 = .ok (.iconst 3, 1) := by decide +kernel
theorem dX10_copyBlocks_84 : decode cX10_copyBlocks 84 = .ok (.dup2, 1) := by decide +kernel
theorem dX10_copyBlocks_85 : decode cX10_copyBlocks 85 = .ok (.iaload, 1) := by decide +kernel
theorem dX10_copyBlocks_86 : decode cX10_copyBlocks 86 = .ok (.bipush 9, 2) := by decide +kernel
theorem dX10_copyBlocks_88 : decode cX10_copyBlocks 88 = .ok (.iload 5, 2) := by decide +kernel
theorem dX10_copyBlocks_90 : decode cX10_copyBlocks 90 = .ok (.imul, 1) := by decide +kernel
theorem dX10_copyBlocks_91 : decode cX10_copyBlocks 91 = .ok (.iadd, 1) := by decide +kernel
theorem dX10_copyBlocks_92 : decode cX10_copyBlocks 92 = .ok (.iastore, 1) := by decide +kernel
theorem dX10_copyBlocks_93 : decode cX10_copyBlocks 93 = .ok (.iload 5, 2) := by decide +kernel
theorem dX10_copyBlocks_95 : decode cX10_copyBlocks 95 = .ok (.ireturn, 1) := by decide +kernel
theorem dX10_copyBlock_0 : decode cX10_copyBlock 0 = .ok (.getstatic 79, 3) := by decide +kernel
theorem dX10_copyBlock_3 : decode cX10_copyBlock 3 = .ok (.iload_n 2, 1) := by decide +kernel
theorem dX10_copyBlock_4 : decode cX10_copyBlock 4 = .ok (.iaload, 1) := by decide +kernel
theorem dX10_copyBlock_5 : decode cX10_copyBlock 5 = .ok (.iload_n 3, 1) := by decide +kernel
theorem dX10_copyBlock_6 : decode cX10_copyBlock 6 = .ok (.iadd, 1) := by decide +kernel
theorem dX10_copyBlock_7 : decode cX10_copyBlock 7 = .ok (.istore 4, 2) := by decide +kernel
theorem dX10_copyBlock_9 : decode cX10_copyBlock 9 = .ok (.aload_n 0, 1) := by decide +kernel
theorem dX10_copyBlock_10 : decode cX10_copyBlock 10 = .ok (.getfield 39, 3) := by decide +kernel
theorem dX10_copyBlock_13 : decode cX10_copyBlock 13 = .ok (.getfield 158, 3) := by decide +kernel
theorem dX10_copyBlock_16 : decode cX10_copyBlock 16 = .ok (.iload_n 1, 1) := by decide +kernel
theorem dX10_copyBlock_17 : decode cX10_copyBlock 17 = .ok (.iaload, 1) := by decide +kernel
theorem dX10_copyBlock_18 : decode cX10_copyBlock 18 = .ok (.iconst 1, 1) := by decide +kernel
theorem dX10_copyBlock_19 : decode cX10_copyBlock 19 = .ok (.if_icmp .ne 40, 3) := by decide +kernel
theorem dX10_copyBlock_22 : decode cX10_copyBlock 22 = .ok (.aload_n 0, 1) := by decide +kernel
theorem dX10_copyBlock_23 : decode cX10_copyBlock 23 = .ok (.getfield 25, 3) := by decide +kernel
theorem dX10_copyBlock_26 : decode cX10_copyBlock 26 = .ok (.iload 4, 2) := by decide +kernel
theorem dX10_copyBlock_28 : decode cX10_copyBlock 28 = .ok (.aload_n 0, 1) := by decide +kernel
theorem dX10_copyBlock_29 : decode cX10_copyBlock 29 = .ok (.getfield 25, 3) := by decide +kernel
theorem dX10_copyBlock_32 : decode cX10_copyBlock 32 = .ok (.getfield 103, 3) := by decide +kernel
theorem dX10_copyBlock_35 : decode cX10_copyBlock 35 = .ok (.iload 4, 2) := by decide +kernel
theorem dX10_copyBlock_37 : decode cX10_copyBlock 37 = .ok (.iaload, 1) := by decide +kernel
theorem dX10_copyBlock_38 : decode cX10_copyBlock 38 = .ok (.invokevirtual 106, 3) := by decide +kernel
theorem dX10_copyBlock_41 : decode cX10_copyBlock 41 = .ok (.aload_n 0, 1) := by decide +kernel
theorem dX10_copyBlock_42 : decode cX10_copyBlock 42 = .ok (.getfield 39, 3) := by decide +kernel
theorem dX10_copyBlock_45 : decode cX10_copyBlock 45 = .ok (.getfield 115, 3) := by decide +kernel
theorem dX10_copyBlock_48 : decode cX10_copyBlock 48 = .ok (.iload_n 1, 1) := by decide +kernel
theorem dX10_copyBlock_49 : decode cX10_copyBlock 49 = .ok (.dup2, 1) := by decide +kernel
theorem dX10_copyBlock_50 : decode cX10_copyBlock 50 = .ok (.iaload, 1) := by decide +kernel
theorem dX10_copyBlock_51 : decode cX10_copyBlock 51 = .ok (.iconst 1, 1) := by decide +kernel
theorem dX10_copyBlock_52 : decode cX10_copyBlock 52 = .ok (.iload_n 3, 1) := by decide +kernel
theorem dX10_copyBlock_53 : decode cX10_copyBlock 53 = .ok (.ishl, 1) := by decide +kernel
theorem dX10_copyBlock_54 : decode cX10_copyBlock 54 = .ok (.ior, 1) := by decide +kernel
theorem dX10_copyBlock_55 : decode cX10_copyBlock 55 = .ok (.iastore, 1) := by decide +kernel
theorem dX10_copyBlock_56 : decode cX10_copyBlock 56 = .ok (.goto 39, 3) := by decide +kernel
theorem dX10_copyBlock_59 : decode cX10_copyBlock 59 = .ok (.aload_n 0, 1) := by decide +kernel
theorem dX10_copyBlock_60 : decode cX10_copyBlock 60 = .ok (.getfield 25, 3) := by decide +kernel
theorem dX10_copyBlock_63 : decode cX10_copyBlock 63 = .ok (.getfield 103, 3) := by decide +kernel
theorem dX10_copyBlock_66 : decode cX10_copyBlock 66 = .ok (.iload 4, 2) := by decide +kernel
theorem dX10_copyBlock_68 : decode cX10_copyBlock 68 = .ok (.aload_n 0, 1) := by decide +kernel
theorem dX10_copyBlock_69 : decode cX10_copyBlock 69 = .ok (.getfield 25, 3) := by decide +kernel
theorem dX10_copyBlock_72 : decode cX10_copyBlock 72 = .ok (.iload 4, 2) := by decide +kernel
theorem dX10_copyBlock_74 : decode cX10_copyBlock 74 = .ok (.invokevirtual 100, 3) := by decide +kernel
theorem dX10_copyBlock_77 : decode cX10_copyBlock 77 = .ok (.iastore, 1) := by decide +kernel
theorem dX10_copyBlock_78 : decode cX10_copyBlock 78 = .ok (.aload_n 0, 1) := by decide +kernel
theorem dX10_copyBlock_79 : decode cX10_copyBlock 79 = .ok (.getfield 18, 3) := by decide +kernel
theorem dX10_copyBlock_82 : decode cX10_copyBlock 82 = .ok (.getfield 109, 3) := by decide +kernel
theorem dX10_copyBlock_85 : decode cX10_copyBlock 85 = .ok (.iload_n 2, 1) := by decide +kernel
theorem dX10_copyBlock_86 : decode cX10_copyBlock 86 = .ok (.dup2, 1) := by decide +kernel
theorem dX10_copyBlock_87 : decode cX10_copyBlock 87 = .ok (.iaload, 1) := by decide +kernel
theorem dX10_copyBlock_88 : decode cX10_copyBlock 88 = .ok (.iconst 1, 1) := by decide +kernel
theorem dX10_copyBlock_89 : decode cX10_copyBlock 89 = .ok (.iload_n 3, 1) := by decide +kernel
theorem dX10_copyBlock_90 : decode cX10_copyBlock 90 = .ok (.ishl, 1) := by decide +kernel
theorem dX10_copyBlock_91 : decode cX10_copyBlock 91 = .ok (.iconst (-1), 1) := by decide +kernel
theorem dX10_copyBlock_92 : decode cX10_copyBlock 92 = .ok (.ixor, 1) := by decide +kernel
theorem dX10_copyBlock_93 : decode cX10_copyBlock 93 = .ok (.iand, 1) := by decide +kernel
theorem dX10_copyBlock_94 : decode cX10_copyBlock 94 = .ok (.iastore, 1) := by decide +kernel
theorem dX10_copyBlock_95 : decode cX10_copyBlock 95 = .ok (.return_, 1) := by decide +kernel
theorem dX10_blocksToCopy_0 : decode cX10_blocksToCopy 0 = .ok (.aload_n 0, 1) := by decide +kernel
theorem dX10_blocksToCopy_1 : decode cX10_blocksToCopy 1 = .ok (.getfield 39, 3) := by decide +kernel
theorem dX10_blocksToCopy_4 : decode cX10_blocksToCopy 4 = .ok (.getfield 155, 3) := by decide +kernel
theorem dX10_blocksToCopy_7 : decode cX10_blocksToCopy 7 = .ok (.iload_n 1, 1) := by decide +kernel
theorem dX10_blocksToCopy_8 : decode cX10_blocksToCopy 8 = .ok (.iaload, 1) := by decide +kernel
theorem dX10_blocksToCopy_9 : decode cX10_blocksToCopy 9 = .ok (.istore_n 2, 1) := by decide +kernel
theorem dX10_blocksToCopy_10 : decode cX10_blocksToCopy 10 = .ok (.aload_n 0, 1) := by decide +kernel
theorem dX10_blocksToCopy_11 : decode cX10_blocksToCopy 11 = .ok (.getfield 39, 3) := by decide +kernel
theorem dX10_blocksToCopy_14 : decode cX10_blocksToCopy 14 = .ok (.getfield 158, 3) := by decide +kernel
theorem dX10_blocksToCopy_17 : decode cX10_blocksToCopy 17 = .ok (.iload_n 1, 1) := by decide +kernel
theorem dX10_blocksToCopy_18 : decode cX10_blocksToCopy 18 = .ok (.iaload, 1) := by decide +kernel
theorem dX10_blocksToCopy_19 : decode cX10_blocksToCopy 19 = .ok (.iconst 1, 1) := by decide +kernel
theorem dX10_blocksToCopy_20 : decode cX10_blocksToCopy 20 = .ok (.if_icmp .ne 20, 3) := by decide +kernel
theorem dX10_blocksToCopy_23 : decode cX10_blocksToCopy 23 = .ok (.iload_n 2, 1) := by decide +kernel
theorem dX10_blocksToCopy_24 : decode cX10_blocksToCopy 24 = .ok (.invokestatic 178, 3) := by decide +kernel
theorem dX10_blocksToCopy_27 : decode cX10_blocksToCopy 27 = .ok (.aload_n 0, 1) := by decide +kernel
theorem dX10_blocksToCopy_28 : decode cX10_blocksToCopy 28 = .ok (.getfield 39, 3) := by decide +kernel
theorem dX10_blocksToCopy_31 : decode cX10_blocksToCopy 31 = .ok (.getfield 115, 3) := by decide +kernel
theorem dX10_blocksToCopy_34 : decode cX10_blocksToCopy 34 = .ok (.iload_n 1, 1) := by decide +kernel
theorem dX10_blocksToCopy_35 : decode cX10_blocksToCopy 35 = .ok (.iaload, 1) := by decide +kernel
theorem dX10_blocksToCopy_36 : decode cX10_blocksToCopy 36 = .ok (.iconst (-1), 1) := by decide +kernel
theorem dX10_blocksToCopy_37 : decode cX10_blocksToCopy 37 = .ok (.ixor, 1) := by decide +kernel
theorem dX10_blocksToCopy_38 : decode cX10_blocksToCopy 38 = .ok (.iand, 1) := by decide +kernel
theorem dX10_blocksToCopy_39 : decode cX10_blocksToCopy 39 = .ok (.ireturn, 1) := by decide +kernel
theorem dX10_blocksToCopy_40 : decode cX10_blocksToCopy 40 = .ok (.aload_n 0, 1) := by decide +kernel
theorem dX10_blocksToCopy_41 : decode cX10_blocksToCopy 41 = .ok (.getfield 18, 3) := by decide +kernel
theorem dX10_blocksToCopy_44 : decode cX10_blocksToCopy 44 = .ok (.getfield 109, 3) := by decide +kernel
theorem dX10_blocksToCopy_47 : decode cX10_blocksToCopy 47 = .ok (.iload_n 2, 1) := by decide +kernel
theorem dX10_blocksToCopy_48 : decode cX10_blocksToCopy 48 = .ok (.iaload, 1) := by decide +kernel
theorem dX10_blocksToCopy_49 : decode cX10_blocksToCopy 49 = .ok (.ireturn, 1) := by decide +kernel
theorem dX10_switchWhole_0 : decode cX10_switchWhole 0 = .ok (.iconst 0, 1) := by decide +kernel
theorem dX10_switchWhole_1 : decode cX10_switchWhole 1 = .ok (.istore_n 1, 1) := by decide +kernel
theorem dX10_switchWhole_2 : decode cX10_switchWhole 2 = .ok (.aload_n 0, 1) := by decide +kernel
theorem dX10_switchWhole_3 : decode cX10_switchWhole 3 = .ok (.getfield 39, 3) := by decide +kernel
theorem dX10_switchWhole_6 : decode cX10_switchWhole 6 = .ok (.getfield 141, 3) := by decide +kernel
theorem dX10_switchWhole_9 : decode cX10_switchWhole 9 = .ok (.istore_n 2, 1) := by decide +kernel
theorem dX10_switchWhole_10 : decode cX10_switchWhole 10 = .ok (.iload_n 2, 1) := by decide +kernel
theorem dX10_switchWhole_11 : decode cX10_switchWhole 11 = .ok (.ifCond .le 41, 3) := by decide +kernel
theorem dX10_switchWhole_14 : decode cX10_switchWhole 14 = .ok (.aload_n 0, 1) := by decide +kernel
theorem dX10_switchWhole_15 : decode cX10_switchWhole 15 = .ok (.getfield 39, 3) := by decide +kernel
theorem dX10_switchWhole_18 : decode cX10_switchWhole 18 = .ok (.getfield 145, 3) := by decide +kernel
theorem dX10_switchWhole_21 : decode cX10_switchWhole 21 = .ok (.iload_n 1, 1) := by decide +kernel
theorem dX10_switchWhole_22 : decode cX10_switchWhole 22 = .ok (.iaload, 1) := by decide +kernel
theorem dX10_switchWhole_23 : decode cX10_switchWhole 23 = .ok (.iconst 1, 1) := by decide +kernel
theorem dX10_switchWhole_24 : decode cX10_switchWhole 24 = .ok (.if_icmp .ne 19, 3) := by decide +kernel
theorem dX10_switchWhole_27 : decode cX10_switchWhole 27 = .ok (.aload_n 0, 1) := by decide +kernel
theorem dX10_switchWhole_28 : decode cX10_switchWhole 28 = .ok (.iload_n 1, 1) := by decide +kernel
theorem dX10_switchWhole_29 : decode cX10_switchWhole 29 = .ok (.invokevirtual 172, 3) := by decide +kernel
theorem dX10_switchWhole_32 : decode cX10_switchWhole 32 = .ok (.ifCond .ne 11, 3) := by decide +kernel
theorem dX10_switchWhole_35 : decode cX10_switchWhole 35 = .ok (.aload_n 0, 1) := by decide +kernel
theorem dX10_switchWhole_36 : decode cX10_switchWhole 36 = .ok (.iload_n 1, 1) := by decide +kernel
theorem dX10_switchWhole_37 : decode cX10_switchWhole 37 = .ok (.invokevirtual 181, 3) := by decide +kernel
theorem dX10_switchWhole_40 : decode cX10_switchWhole 40 = .ok (.goto 6, 3) := by decide +kernel
theorem dX10_switchWhole_43 : decode cX10_switchWhole 43 = .ok (.iinc 1 1, 3) := by decide +kernel
theorem dX10_switchWhole_46 : decode cX10_switchWhole 46 = .ok (.iinc 2 (-1), 3) := by decide +kernel
theorem dX10_switchWhole_49 : decode cX10_switchWhole 49 = .ok (.goto (-39), 3) := by decide +kernel
theorem dX10_switchWhole_52 : decode cX10_switchWhole 52 = .ok (.return_, 1) := by decide +kernel
theorem dX10_switchOver_0 : decode cX10_switchOver 0 = .ok (.aload_n 0, 1) := by decide +kernel
theorem dX10_switchOver_1 : decode cX10_switchOver 1 = .ok (.getfield 39, 3) := by decide +kernel
theorem dX10_switchOver_4 : decode cX10_switchOver 4 = .ok (.getfield 155, 3) := by decide +kernel
theorem dX10_switchOver_7 : decode cX10_switchOver 7 = .ok (.iload_n 1, 1) := by decide +kernel
theorem dX10_switchOver_8 : decode cX10_switchOver 8 = .ok (.iaload, 1) := by decide +kernel
theorem dX10_switchOver_9 : decode cX10_switchOver 9 = .ok (.istore_n 2, 1) := by decide +kernel
theorem dX10_switchOver_10 : decode cX10_switchOver 10 = .ok (.aload_n 0, 1) := by decide +kernel
theorem dX10_switchOver_11 : decode cX10_switchOver 11 = .ok (.getfield 39, 3) := by decide +kernel
theorem dX10_switchOver_14 : decode cX10_switchOver 14 = .ok (.getfield 158, 3) := by decide +kernel
theorem dX10_switchOver_17 : decode cX10_switchOver 17 = .ok (.iload_n 1, 1) := by decide +kernel
theorem dX10_switchOver_18 : decode cX10_switchOver 18 = .ok (.iaload, 1) := by decide +kernel
theorem dX10_switchOver_19 : decode cX10_switchOver 19 = .ok (.istore_n 3, 1) := by decide +kernel
theorem dX10_switchOver_20 : decode cX10_switchOver 20 = .ok (.aload_n 0, 1) := by decide +kernel
theorem dX10_switchOver_21 : decode cX10_switchOver 21 = .ok (.getfield 18, 3) := by decide +kernel
theorem dX10_switchOver_24 : decode cX10_switchOver 24 = .ok (.getfield 76, 3) := by decide +kernel
theorem dX10_switchOver_27 : decode cX10_switchOver 27 = .ok (.iload_n 2, 1) := by decide +kernel
theorem dX10_switchOver_28 : decode cX10_switchOver 28 = .ok (.iload_n 3, 1) := by decide +kernel
theorem dX10_switchOver_29 : decode cX10_switchOver 29 = .ok (.iastore, 1) := by decide +kernel
theorem dX10_switchOver_30 : decode cX10_switchOver 30 = .ok (.aload_n 0, 1) := by decide +kernel
theorem dX10_switchOver_31 : decode cX10_switchOver 31 = .ok (.getfield 18, 3) := by decide +kernel
theorem dX10_switchOver_34 : decode cX10_switchOver 34 = .ok (.getfield 109, 3) := by decide +kernel
theorem dX10_switchOver_37 : decode cX10_switchOver 37 = .ok (.iload_n 2, 1) := by decide +kernel
theorem dX10_switchOver_38 : decode cX10_switchOver 38 = .ok (.iconst 0, 1) := by decide +kernel
theorem dX10_switchOver_39 : decode cX10_switchOver 39 = .ok (.iastore, 1) := by decide +kernel
theorem dX10_switchOver_40 : decode cX10_switchOver 40 = .ok (.aload_n 0, 1) := by decide +kernel
theorem dX10_switchOver_41 : decode cX10_switchOver 41 = .ok (.getfield 18, 3) := by decide +kernel
theorem dX10_switchOver_44 : decode cX10_switchOver 44 = .ok (.getfield 184, 3) := by decide +kernel
theorem dX10_switchOver_47 : decode cX10_switchOver 47 = .ok (.iload_n 2, 1) := by decide +kernel
theorem dX10_switchOver_48 : decode cX10_switchOver 48 = .ok (.aload_n 0, 1) := by decide +kernel
theorem dX10_switchOver_49 : decode cX10_switchOver 49 = .ok (.getfield 9, 3) := by decide +kernel
theorem dX10_switchOver_52 : decode cX10_switchOver 52 = .ok (.iconst 2, 1) := by decide +kernel
theorem dX10_switchOver_53 : decode cX10_switchOver 53 = .ok (.iaload, 1) := by decide +kernel
theorem dX10_switchOver_54 : decode cX10_switchOver 54 = .ok (.iconst 3, 1) := by decide +kernel
theorem dX10_switchOver_55 : decode cX10_switchOver 55 = .ok (.iadd, 1) := by decide +kernel
theorem dX10_switchOver_56 : decode cX10_switchOver 56 = .ok (.iastore, 1) := by decide +kernel
theorem dX10_switchOver_57 : decode cX10_switchOver 57 = .ok (.aload_n 0, 1) := by decide +kernel
theorem dX10_switchOver_58 : decode cX10_switchOver 58 = .ok (.getfield 18, 3) := by decide +kernel
theorem dX10_switchOver_61 : decode cX10_switchOver 61 = .ok (.getfield 187, 3) := by decide +kernel
theorem dX10_switchOver_64 : decode cX10_switchOver 64 = .ok (.iload_n 2, 1) := by decide +kernel
theorem dX10_switchOver_65 : decode cX10_switchOver 65 = .ok (.dup2, 1) := by decide +kernel
theorem dX10_switchOver_66 : decode cX10_switchOver 66 = .ok (.iaload, 1) := by decide +kernel
theorem dX10_switchOver_67 : decode cX10_switchOver 67 = .ok (.iconst 1, 1) := by decide +kernel
theorem dX10_switchOver_68 : decode cX10_switchOver 68 = .ok (.iadd, 1) := by decide +kernel
theorem dX10_switchOver_69 : decode cX10_switchOver 69 = .ok (.iastore, 1) := by decide +kernel
theorem dX10_switchOver_70 : decode cX10_switchOver 70 = .ok (.aload_n 0, 1) := by decide +kernel
theorem dX10_switchOver_71 : decode cX10_switchOver 71 = .ok (.getfield 18, 3) := by decide +kernel
theorem dX10_switchOver_74 : decode cX10_switchOver 74 = .ok (.getfield 97, 3) := by decide +kernel
theorem dX10_switchOver_77 : decode cX10_switchOver 77 = .ok (.iload_n 2, 1) := by decide +kernel
theorem dX10_switchOver_78 : decode cX10_switchOver 78 = .ok (.iconst 0, 1) := by decide +kernel
theorem dX10_switchOver_79 : decode cX10_switchOver 79 = .ok (.iastore, 1) := by decide +kernel
theorem dX10_switchOver_80 : decode cX10_switchOver 80 = .ok (.iload_n 3, 1) := by decide +kernel
theorem dX10_switchOver_81 : decode cX10_switchOver 81 = .ok (.ifCond .ne 11, 3) := by decide +kernel
theorem dX10_switchOver_84 : decode cX10_switchOver 84 = .ok (.aload_n 0, 1) := by decide +kernel
theorem dX10_switchOver_85 : decode cX10_switchOver 85 = .ok (.getfield 25, 3) := by decide +kernel
theorem dX10_switchOver_88 : decode cX10_switchOver 88 = .ok (.iload_n 2, 1) := by decide +kernel
theorem dX10_switchOver_89 : decode cX10_switchOver 89 = .ok (.invokevirtual 190, 3) := by decide +kernel
theorem dX10_switchOver_92 : decode cX10_switchOver 92 = .ok (.aload_n 0, 1) := by decide +kernel
theorem dX10_switchOver_93 : decode cX10_switchOver 93 = .ok (.getfield 39, 3) := by decide +kernel
theorem dX10_switchOver_96 : decode cX10_switchOver 96 = .ok (.iload_n 1, 1) := by decide +kernel
theorem dX10_switchOver_97 : decode cX10_switchOver 97 = .ok (.invokevirtual 193, 3) := by decide +kernel
theorem dX10_switchOver_100 : decode cX10_switchOver 100 = .ok (.aload_n 0, 1) := by decide +kernel
theorem dX10_switchOver_101 : decode cX10_switchOver 101 = .ok (.getfield 9, 3) := by decide +kernel
theorem dX10_switchOver_104 : decode cX10_switchOver 104 = .ok (.bipush 11, 2) := by decide +kernel
theorem dX10_switchOver_106 : decode cX10_switchOver 106 = .ok (.dup2, 1) := by decide +kernel
theorem dX10_switchOver_107 : decode cX10_switchOver 107 = .ok (.iaload, 1) := by decide +kernel
theorem dX10_switchOver_108 : decode cX10_switchOver 108 = .ok (.iconst 1, 1) := by decide +kernel
theorem dX10_switchOver_109 : decode cX10_switchOver 109 = .ok (.iadd, 1) := by decide +kernel
theorem dX10_switchOver_110 : decode cX10_switchOver 110 = .ok (.iastore, 1) := by decide +kernel
theorem dX10_switchOver_111 : decode cX10_switchOver 111 = .ok (.aload_n 0, 1) := by decide +kernel
theorem dX10_switchOver_112 : decode cX10_switchOver 112 = .ok (.iconst 1, 1) := by decide +kernel
theorem dX10_switchOver_113 : decode cX10_switchOver 113 = .ok (.iload_n 2, 1) := by decide +kernel
theorem dX10_switchOver_114 : decode cX10_switchOver 114 = .ok (.iload_n 3, 1) := by decide +kernel
theorem dX10_switchOver_115 : decode cX10_switchOver 115 = .ok (.invokevirtual 169, 3) := by decide +kernel
theorem dX10_switchOver_118 : decode cX10_switchOver 118 = .ok (.return_, 1) := by decide +kernel
theorem dX10_makePlan_0 : decode cX10_makePlan 0 = .ok (.iconst 0, 1) := by decide +kernel
theorem dX10_makePlan_1 : decode cX10_makePlan 1 = .ok (.istore_n 2, 1) := by decide +kernel
theorem dX10_makePlan_2 : decode cX10_makePlan 2 = .ok (.aload_n 0, 1) := by decide +kernel
theorem dX10_makePlan_3 : decode cX10_makePlan 3 = .ok (.getfield 39, 3) := by decide +kernel
theorem dX10_makePlan_6 : decode cX10_makePlan 6 = .ok (.getfield 141, 3) := by decide +kernel
theorem dX10_makePlan_9 : decode cX10_makePlan 9 = .ok (.istore_n 3, 1) := by decide +kernel
theorem dX10_makePlan_10 : decode cX10_makePlan 10 = .ok (.iload_n 3, 1) := by decide +kernel
theorem dX10_makePlan_11 : decode cX10_makePlan 11 = .ok (.ifCond .le 33, 3) := by decide +kernel
theorem dX10_makePlan_14 : decode cX10_makePlan 14 = .ok (.aload_n 0, 1) := by decide +kernel
theorem dX10_makePlan_15 : decode cX10_makePlan 15 = .ok (.getfield 39, 3) := by decide +kernel
theorem dX10_makePlan_18 : decode cX10_makePlan 18 = .ok (.getfield 145, 3) := by decide +kernel
theorem dX10_makePlan_21 : decode cX10_makePlan 21 = .ok (.iload_n 2, 1) := by decide +kernel
theorem dX10_makePlan_22 : decode cX10_makePlan 22 = .ok (.iaload, 1) := by decide +kernel
theorem dX10_makePlan_23 : decode cX10_makePlan 23 = .ok (.iconst 1, 1) := by decide +kernel
theorem dX10_makePlan_24 : decode cX10_makePlan 24 = .ok (.if_icmp .ne 9, 3) := by decide +kernel
theorem dX10_makePlan_27 : decode cX10_makePlan 27 = .ok (.iinc 2 1, 3) := by decide +kernel
theorem dX10_makePlan_30 : decode cX10_makePlan 30 = .ok (.goto 8, 3) := by decide +kernel
theorem dX10_makePlan_33 : decode cX10_makePlan 33 = .ok (.aload_n 0, 1) := by decide +kernel
theorem dX10_makePlan_34 : decode cX10_makePlan 34 = .ok (.iload_n 2, 1) := by decide +kernel
theorem dX10_makePlan_35 : decode cX10_makePlan 35 = .ok (.invokevirtual 196, 3) := by decide +kernel
theorem dX10_makePlan_38 : decode cX10_makePlan 38 = .ok (.iinc 3 (-1), 3) := by decide +kernel
theorem dX10_makePlan_41 : decode cX10_makePlan 41 = .ok (.goto (-31), 3) := by decide +kernel
theorem dX10_makePlan_44 : decode cX10_makePlan 44 = .ok (.aload_n 1, 1) := by decide +kernel
theorem dX10_makePlan_45 : decode cX10_makePlan 45 = .ok (.aload_n 0, 1) := by decide +kernel
theorem dX10_makePlan_46 : decode cX10_makePlan 46 = .ok (.aload_n 0, 1) := by decide +kernel
theorem dX10_makePlan_47 : decode cX10_makePlan 47 = .ok (.getfield 9, 3) := by decide +kernel
theorem dX10_makePlan_50 : decode cX10_makePlan 50 = .ok (.iconst 5, 1) := by decide +kernel
theorem dX10_makePlan_51 : decode cX10_makePlan 51 = .ok (.iaload, 1) := by decide +kernel
theorem dX10_makePlan_52 : decode cX10_makePlan 52 = .ok (.invokevirtual 199, 3) := by decide +kernel
theorem dX10_makePlan_55 : decode cX10_makePlan 55 = .ok (.aload_n 1, 1) := by decide +kernel
theorem dX10_makePlan_56 : decode cX10_makePlan 56 = .ok (.aload_n 0, 1) := by decide +kernel
theorem dX10_makePlan_57 : decode cX10_makePlan 57 = .ok (.getfield 18, 3) := by decide +kernel
theorem dX10_makePlan_60 : decode cX10_makePlan 60 = .ok (.invokevirtual 205, 3) := by decide +kernel
theorem dX10_makePlan_63 : decode cX10_makePlan 63 = .ok (.iconst 0, 1) := by decide +kernel
theorem dX10_makePlan_64 : decode cX10_makePlan 64 = .ok (.istore_n 3, 1) := by decide +kernel
theorem dX10_makePlan_65 : decode cX10_makePlan 65 = .ok (.iload_n 3, 1) := by decide +kernel
theorem dX10_makePlan_66 : decode cX10_makePlan 66 = .ok (.aload_n 1, 1) := by decide +kernel
theorem dX10_makePlan_67 : decode cX10_makePlan 67 = .ok (.getfield 208, 3) := by decide +kernel
theorem dX10_makePlan_70 : decode cX10_makePlan 70 = .ok (.if_icmp .ge 38, 3) := by decide +kernel
theorem dX10_makePlan_73 : decode cX10_makePlan 73 = .ok (.aload_n 1, 1) := by decide +kernel
theorem dX10_makePlan_74 : decode cX10_makePlan 74 = .ok (.getfield 211, 3) := by decide +kernel
theorem dX10_makePlan_77 : decode cX10_makePlan 77 = .ok (.iload_n 3, 1) := by decide +kernel
theorem dX10_makePlan_78 : decode cX10_makePlan 78 = .ok (.iaload, 1) := by decide +kernel
theorem dX10_makePlan_79 : decode cX10_makePlan 79 = .ok (.istore 4, 2) := by decide +kernel
theorem dX10_makePlan_81 : decode cX10_makePlan 81 = .ok (.aload_n 0, 1) := by decide +kernel
theorem dX10_makePlan_82 : decode cX10_makePlan 82 = .ok (.getfield 39, 3) := by decide +kernel
theorem dX10_makePlan_85 : decode cX10_makePlan 85 = .ok (.iload 4, 2) := by decide +kernel
theorem dX10_makePlan_87 : decode cX10_makePlan 87 = .ok (.iconst 1, 1) := by decide +kernel
theorem dX10_makePlan_88 : decode cX10_makePlan 88 = .ok (.aload_n 0, 1) := by decide +kernel
theorem dX10_makePlan_89 : decode cX10_makePlan 89 = .ok (.getfield 18, 3) := by decide +kernel
theorem dX10_makePlan_92 : decode cX10_makePlan 92 = .ok (.getfield 76, 3) := by decide +kernel
theorem dX10_makePlan_95 : decode cX10_makePlan 95 = .ok (.iload 4, 2) := by decide +kernel
theorem dX10_makePlan_97 : decode cX10_makePlan 97 = .ok (.iaload, 1) := by decide +kernel
theorem dX10_makePlan_98 : decode cX10_makePlan 98 = .ok (.isub, 1) := by decide +kernel
theorem dX10_makePlan_99 : decode cX10_makePlan 99 = .ok (.invokevirtual 214, 3) := by decide +kernel
theorem dX10_makePlan_102 : decode cX10_makePlan 102 = .ok (.iinc 3 1, 3) := by decide +kernel
theorem dX10_makePlan_105 : decode cX10_makePlan 105 = .ok (.goto (-40), 3) := by decide +kernel
theorem dX10_makePlan_108 : decode cX10_makePlan 108 = .ok (.aload_n 0, 1) := by decide +kernel
theorem dX10_makePlan_109 : decode cX10_makePlan 109 = .ok (.iconst 3, 1) := by decide +kernel
theorem dX10_makePlan_110 : decode cX10_makePlan 110 = .ok (.aload_n 1, 1) := by decide +kernel
theorem dX10_makePlan_111 : decode cX10_makePlan 111 = .ok (.getfield 216, 3) := by decide +kernel
theorem dX10_makePlan_114 : decode cX10_makePlan 114 = .ok (.aload_n 1, 1) := by decide +kernel
theorem dX10_makePlan_115 : decode cX10_makePlan 115 = .ok (.getfield 208, 3) := by decide +kernel
theorem dX10_makePlan_118 : decode cX10_makePlan 118 = .ok (.invokevirtual 169, 3) := by decide +kernel
theorem dX10_makePlan_121 : decode cX10_makePlan 121 = .ok (.return_, 1) := by decide +kernel
theorem dX10_dropMove_0 : decode cX10_dropMove 0 = .ok (.aload_n 0, 1) := by decide +kernel
theorem dX10_dropMove_1 : decode cX10_dropMove 1 = .ok (.getfield 39, 3) := by decide +kernel
theorem dX10_dropMove_4 : decode cX10_dropMove 4 = .ok (.getfield 155, 3) := by decide +kernel
theorem dX10_dropMove_7 : decode cX10_dropMove 7 = .ok (.iload_n 1, 1) := by decide +kernel
theorem dX10_dropMove_8 : decode cX10_dropMove 8 = .ok (.iaload, 1) := by decide +kernel
theorem dX10_dropMove_9 : decode cX10_dropMove 9 = .ok (.istore_n 2, 1) := by decide +kernel
theorem dX10_dropMove_10 : decode cX10_dropMove 10 = .ok (.aload_n 0, 1) := by decide +kernel
theorem dX10_dropMove_11 : decode cX10_dropMove 11 = .ok (.getfield 39, 3) := by decide +kernel
theorem dX10_dropMove_14 : decode cX10_dropMove 14 = .ok (.getfield 158, 3) := by decide +kernel
theorem dX10_dropMove_17 : decode cX10_dropMove 17 = .ok (.iload_n 1, 1) := by decide +kernel
theorem dX10_dropMove_18 : decode cX10_dropMove 18 = .ok (.iaload, 1) := by decide +kernel
theorem dX10_dropMove_19 : decode cX10_dropMove 19 = .ok (.istore_n 3, 1) := by decide +kernel
theorem dX10_dropMove_20 : decode cX10_dropMove 20 = .ok (.aload_n 0, 1) := by decide +kernel
theorem dX10_dropMove_21 : decode cX10_dropMove 21 = .ok (.getfield 39, 3) := by decide +kernel
theorem dX10_dropMove_24 : decode cX10_dropMove 24 = .ok (.iload_n 1, 1) := by decide +kernel
theorem dX10_dropMove_25 : decode cX10_dropMove 25 = .ok (.invokevirtual 219, 3) := by decide +kernel
theorem dX10_dropMove_28 : decode cX10_dropMove 28 = .ok (.ifCond .eq 11, 3) := by decide +kernel
theorem dX10_dropMove_31 : decode cX10_dropMove 31 = .ok (.aload_n 0, 1) := by decide +kernel
theorem dX10_dropMove_32 : decode cX10_dropMove 32 = .ok (.getfield 25, 3) := by decide +kernel
theorem dX10_dropMove_35 : decode cX10_dropMove 35 = .ok (.iload_n 2, 1) := by decide +kernel
theorem dX10_dropMove_36 : decode cX10_dropMove 36 = .ok (.invokevirtual 190, 3) := by decide +kernel
theorem dX10_dropMove_39 : decode cX10_dropMove 39 = .ok (.aload_n 0, 1) := by decide +kernel
theorem dX10_dropMove_40 : decode cX10_dropMove 40 = .ok (.getfield 39, 3) := by decide +kernel
theorem dX10_dropMove_43 : decode cX10_dropMove 43 = .ok (.iload_n 1, 1) := by decide +kernel
theorem dX10_dropMove_44 : decode cX10_dropMove 44 = .ok (.invokevirtual 193, 3) := by decide +kernel
theorem dX10_dropMove_47 : decode cX10_dropMove 47 = .ok (.aload_n 0, 1) := by decide +kernel
theorem dX10_dropMove_48 : decode cX10_dropMove 48 = .ok (.iconst 2, 1) := by decide +kernel
theorem dX10_dropMove_49 : decode cX10_dropMove 49 = .ok (.iload_n 2, 1) := by decide +kernel
theorem dX10_dropMove_50 : decode cX10_dropMove 50 = .ok (.iload_n 3, 1) := by decide +kernel
theorem dX10_dropMove_51 : decode cX10_dropMove 51 = .ok (.invokevirtual 169, 3) := by decide +kernel
theorem dX10_dropMove_54 : decode cX10_dropMove 54 = .ok (.return_, 1) := by decide +kernel
theorem dX10_loseMemory_0 : decode cX10_loseMemory 0 = .ok (.aload_n 0, 1) := by decide +kernel
theorem dX10_loseMemory_1 : decode cX10_loseMemory 1 = .ok (.getfield 39, 3) := by decide +kernel
theorem dX10_loseMemory_4 : decode cX10_loseMemory 4 = .ok (.getfield 141, 3) := by decide +kernel
theorem dX10_loseMemory_7 : decode cX10_loseMemory 7 = .ok (.istore_n 1, 1) := by decide +kernel
theorem dX10_loseMemory_8 : decode cX10_loseMemory 8 = .ok (.iconst 0, 1) := by decide +kernel
theorem dX10_loseMemory_9 : decode cX10_loseMemory 9 = .ok (.istore_n 2, 1) := by decide +kernel
theorem dX10_loseMemory_10 : decode cX10_loseMemory 10 = .ok (.iconst 0, 1) := by decide +kernel
theorem dX10_loseMemory_11 : decode cX10_loseMemory 11 = .ok (.istore_n 3, 1) := by decide +kernel
theorem dX10_loseMemory_12 : decode cX10_loseMemory 12 = .ok (.iload_n 3, 1) := by decide +kernel
theorem dX10_loseMemory_13 : decode cX10_loseMemory 13 = .ok (.aload_n 0, 1) := by decide +kernel
theorem dX10_loseMemory_14 : decode cX10_loseMemory 14 = .ok (.getfield 39, 3) := by decide +kernel
theorem dX10_loseMemory_17 : decode cX10_loseMemory 17 = .ok (.getfield 141, 3) := by decide +kernel
theorem dX10_loseMemory_20 : decode cX10_loseMemory 20 = .ok (.if_icmp .ge 52, 3) := by decide +kernel
theorem dX10_loseMemory_23 : decode cX10_loseMemory 23 = .ok (.aload_n 0, 1) := by decide +kernel
theorem dX10_loseMemory_24 : decode cX10_loseMemory 24 = .ok (.getfield 39, 3) := by decide +kernel
theorem dX10_loseMemory_27 : decode cX10_loseMemory 27 = .ok (.iload_n 3, 1) := by decide +kernel
theorem dX10_loseMemory_28 : decode cX10_loseMemory 28 = .ok (.invokevirtual 219, 3) := by decide +kernel
theorem dX10_loseMemory_31 : decode cX10_loseMemory 31 = .ok (.ifCond .eq 35, 3) := by decide +kernel
theorem dX10_loseMemory_34 : decode cX10_loseMemory 34 = .ok (.aload_n 0, 1) := by decide +kernel
theorem dX10_loseMemory_35 : decode cX10_loseMemory 35 = .ok (.getfield 25, 3) := by decide +kernel
theorem dX10_loseMemory_38 : decode cX10_loseMemory 38 = .ok (.aload_n 0, 1) := by decide +kernel
theorem dX10_loseMemory_39 : decode cX10_loseMemory 39 = .ok (.getfield 39, 3) := by decide +kernel
theorem dX10_loseMemory_42 : decode cX10_loseMemory 42 = .ok (.getfield 155, 3) := by decide +kernel
theorem dX10_loseMemory_45 : decode cX10_loseMemory 45 = .ok (.iload_n 3, 1) := by decide +kernel
theorem dX10_loseMemory_46 : decode cX10_loseMemory 46 = .ok (.iaload, 1) := by decide +kernel
theorem dX10_loseMemory_47 : decode cX10_loseMemory 47 = .ok (.invokevirtual 190, 3) := by decide +kernel
theorem dX10_loseMemory_50 : decode cX10_loseMemory 50 = .ok (.iload_n 2, 1) := by decide +kernel
theorem dX10_loseMemory_51 : decode cX10_loseMemory 51 = .ok (.getstatic 118, 3) := by decide +kernel
theorem dX10_loseMemory_54 : decode cX10_loseMemory 54 = .ok (.aload_n 0, 1) := by decide +kernel
theorem dX10_loseMemory_55 : decode cX10_loseMemory 55 = .ok (.getfield 39, 3) := by decide +kernel
theorem dX10_loseMemory_58 : decode cX10_loseMemory 58 = .ok (.getfield 155, 3) := by decide +kernel
theorem dX10_loseMemory_61 : decode cX10_loseMemory 61 = .ok (.iload_n 3, 1) := by decide +kernel
theorem dX10_loseMemory_62 : decode cX10_loseMemory 62 = .ok (.iaload, 1) := by decide +kernel
theorem dX10_loseMemory_63 : decode cX10_loseMemory 63 = .ok (.iaload, 1) := by decide +kernel
theorem dX10_loseMemory_64 : decode cX10_loseMemory 64 = .ok (.iadd, 1) := by decide +kernel
theorem dX10_loseMemory_65 : decode cX10_loseMemory 65 = .ok (.istore_n 2, 1) := by decide +kernel
theorem dX10_loseMemory_66 : decode cX10_loseMemory 66 = .ok (.iinc 3 1, 3) := by decide +kernel
theorem dX10_loseMemory_69 : decode cX10_loseMemory 69 = .ok (.goto (-57), 3) := by decide +kernel
theorem dX10_loseMemory_72 : decode cX10_loseMemory 72 = .ok (.aload_n 0, 1) := by decide +kernel
theorem dX10_loseMemory_73 : decode cX10_loseMemory 73 = .ok (.getfield 39, 3) := by decide +kernel
theorem dX10_loseMemory_76 : decode cX10_loseMemory 76 = .ok (.iconst 0, 1) := by decide +kernel
theorem dX10_loseMemory_77 : decode cX10_loseMemory 77 = .ok (.putfield 141, 3) := by decide +kernel
theorem dX10_loseMemory_80 : decode cX10_loseMemory 80 = .ok (.aload_n 0, 1) := by decide +kernel
theorem dX10_loseMemory_81 : decode cX10_loseMemory 81 = .ok (.getfield 32, 3) := by decide +kernel
theorem dX10_loseMemory_84 : decode cX10_loseMemory 84 = .ok (.iconst 0, 1) := by decide +kernel
theorem dX10_loseMemory_85 : decode cX10_loseMemory 85 = .ok (.putfield 222, 3) := by decide +kernel
theorem dX10_loseMemory_88 : decode cX10_loseMemory 88 = .ok (.aload_n 0, 1) := by decide +kernel
theorem dX10_loseMemory_89 : decode cX10_loseMemory 89 = .ok (.getfield 18, 3) := by decide +kernel
theorem dX10_loseMemory_92 : decode cX10_loseMemory 92 = .ok (.invokevirtual 223, 3) := by decide +kernel
theorem dX10_loseMemory_95 : decode cX10_loseMemory 95 = .ok (.aload_n 0, 1) := by decide +kernel
theorem dX10_loseMemory_96 : decode cX10_loseMemory 96 = .ok (.getfield 9, 3) := by decide +kernel
theorem dX10_loseMemory_99 : decode cX10_loseMemory 99 = .ok (.bipush 12, 2) := by decide +kernel
theorem dX10_loseMemory_101 : decode cX10_loseMemory 101 = .ok (.dup2, 1) := by decide +kernel
theorem dX10_loseMemory_102 : decode cX10_loseMemory 102 = .ok (.iaload, 1) := by decide +kernel
theorem dX10_loseMemory_103 : decode cX10_loseMemory 103 = .ok (.iconst 1, 1) := by decide +kernel
theorem dX10_loseMemory_104 : decode cX10_loseMemory 104 = .ok (.iadd, 1) := by decide +kernel
theorem dX10_loseMemory_105 : decode cX10_loseMemory 105 = .ok (.iastore, 1) := by decide +kernel
theorem dX10_loseMemory_106 : decode cX10_loseMemory 106 = .ok (.aload_n 0, 1) := by decide +kernel
theorem dX10_loseMemory_107 : decode cX10_loseMemory 107 = .ok (.iconst 4, 1) := by decide +kernel
theorem dX10_loseMemory_108 : decode cX10_loseMemory 108 = .ok (.iload_n 1, 1) := by decide +kernel
theorem dX10_loseMemory_109 : decode cX10_loseMemory 109 = .ok (.iload_n 2, 1) := by decide +kernel
theorem dX10_loseMemory_110 : decode cX10_loseMemory 110 = .ok (.invokevirtual 169, 3) := by decide +kernel
theorem dX10_loseMemory_113 : decode cX10_loseMemory 113 = .ok (.iload_n 1, 1) := by decide +kernel
theorem dX10_loseMemory_114 : decode cX10_loseMemory 114 = .ok (.ireturn, 1) := by decide +kernel
theorem dX10_live_0 : decode cX10_live 0 = .ok (.aload_n 0, 1) := by decide +kernel
theorem dX10_live_1 : decode cX10_live 1 = .ok (.getfield 9, 3) := by decide +kernel
theorem dX10_live_4 : decode cX10_live 4 = .ok (.iconst 1, 1) := by decide +kernel
theorem dX10_live_5 : decode cX10_live 5 = .ok (.iload_n 1, 1) := by decide +kernel
theorem dX10_live_6 : decode cX10_live 6 = .ok (.iconst 2, 1) := by decide +kernel
theorem dX10_live_7 : decode cX10_live 7 = .ok (.imul, 1) := by decide +kernel
theorem dX10_live_8 : decode cX10_live 8 = .ok (.sipush 409, 3) := by decide +kernel
theorem dX10_live_11 : decode cX10_live 11 = .ok (.iadd, 1) := by decide +kernel
theorem dX10_live_12 : decode cX10_live 12 = .ok (.iastore, 1) := by decide +kernel
theorem dX10_live_13 : decode cX10_live 13 = .ok (.iconst 0, 1) := by decide +kernel
theorem dX10_live_14 : decode cX10_live 14 = .ok (.istore 4, 2) := by decide +kernel
theorem dX10_live_16 : decode cX10_live 16 = .ok (.iload 4, 2) := by decide +kernel
theorem dX10_live_18 : decode cX10_live 18 = .ok (.iload_n 2, 1) := by decide +kernel
theorem dX10_live_19 : decode cX10_live 19 = .ok (.if_icmp .ge 44, 3) := by decide +kernel
theorem dX10_live_22 : decode cX10_live 22 = .ok (.aload_n 0, 1) := by decide +kernel
theorem dX10_live_23 : decode cX10_live 23 = .ok (.getfield 9, 3) := by decide +kernel
theorem dX10_live_26 : decode cX10_live 26 = .ok (.iconst 1, 1) := by decide +kernel
theorem dX10_live_27 : decode cX10_live 27 = .ok (.iaload, 1) := by decide +kernel
theorem dX10_live_28 : decode cX10_live 28 = .ok (.istore 5, 2) := by decide +kernel
theorem dX10_live_30 : decode cX10_live 30 = .ok (.aload_n 0, 1) := by decide +kernel
theorem dX10_live_31 : decode cX10_live 31 = .ok (.getfield 9, 3) := by decide +kernel
theorem dX10_live_34 : decode cX10_live 34 = .ok (.iconst 1, 1) := by decide +kernel
theorem dX10_live_35 : decode cX10_live 35 = .ok (.iload 5, 2) := by decide +kernel
theorem dX10_live_37 : decode cX10_live 37 = .ok (.sipush 773, 3) := by decide +kernel
theorem dX10_live_40 : decode cX10_live 40 = .ok (.imul, 1) := by decide +kernel
theorem dX10_live_41 : decode cX10_live 41 = .ok (.sipush 641, 3) := by decide +kernel
theorem dX10_live_44 : decode cX10_live 44 = .ok (.iadd, 1) := by decide +kernel
theorem dX10_live_45 : decode cX10_live 45 = .ok (.sipush 31139, 3) := by decide +kernel
theorem dX10_live_48 : decode cX10_live 48 = .ok (.irem, 1) := by decide +kernel
theorem dX10_live_49 : decode cX10_live 49 = .ok (.iastore, 1) := by decide +kernel
theorem dX10_live_50 : decode cX10_live 50 = .ok (.aload_n 0, 1) := by decide +kernel
theorem dX10_live_51 : decode cX10_live 51 = .ok (.iload 5, 2) := by decide +kernel
theorem dX10_live_53 : decode cX10_live 53 = .ok (.aload_n 3, 1) := by decide +kernel
theorem dX10_live_54 : decode cX10_live 54 = .ok (.invokevirtual 226, 3) := by decide +kernel
theorem dX10_live_57 : decode cX10_live 57 = .ok (.iinc 4 1, 3) := by decide +kernel
theorem dX10_live_60 : decode cX10_live 60 = .ok (.goto (-44), 3) := by decide +kernel
theorem dX10_live_63 : decode cX10_live 63 = .ok (.return_, 1) := by decide +kernel
theorem dX10_happen_0 : decode cX10_happen 0 = .ok (.iload_n 1, 1) := by decide +kernel
theorem dX10_happen_1 : decode cX10_happen 1 = .ok (.bipush 10, 2) := by decide +kernel
theorem dX10_happen_3 : decode cX10_happen 3 = .ok (.idiv, 1) := by decide +kernel
theorem dX10_happen_4 : decode cX10_happen 4 = .ok (.istore_n 3, 1) := by decide +kernel
theorem dX10_happen_5 : decode cX10_happen 5 = .ok (.iload_n 3, 1) := by decide +kernel
theorem dX10_happen_6 : decode cX10_happen 6 = .ok (.bipush 10, 2) := by decide +kernel
theorem dX10_happen_8 : decode cX10_happen 8 = .ok (.irem, 1) := by decide +kernel
theorem dX10_happen_9 : decode cX10_happen 9 = .ok (.iload_n 1, 1) := by decide +kernel
theorem dX10_happen_10 : decode cX10_happen 10 = .ok (.bipush 100, 2) := by decide +kernel
theorem dX10_happen_12 : decode cX10_happen 12 = .ok (.idiv, 1) := by decide +kernel
theorem dX10_happen_13 : decode cX10_happen 13 = .ok (.bipush 10, 2) := by decide +kernel
theorem dX10_happen_15 : decode cX10_happen 15 = .ok (.irem, 1) := by decide +kernel
theorem dX10_happen_16 : decode cX10_happen 16 = .ok (.imul, 1) := by decide +kernel
theorem dX10_happen_17 : decode cX10_happen 17 = .ok (.bipush 10, 2) := by decide +kernel
theorem dX10_happen_19 : decode cX10_happen 19 = .ok (.idiv, 1) := by decide +kernel
theorem dX10_happen_20 : decode cX10_happen 20 = .ok (.istore 4, 2) := by decide +kernel
theorem dX10_happen_22 : decode cX10_happen 22 = .ok (.iload_n 1, 1) := by decide +kernel
theorem dX10_happen_23 : decode cX10_happen 23 = .ok (.getstatic 118, 3) := by decide +kernel
theorem dX10_happen_26 : decode cX10_happen 26 = .ok (.iload 4, 2) := by decide +kernel
theorem dX10_happen_28 : decode cX10_happen 28 = .ok (.iaload, 1) := by decide +kernel
theorem dX10_happen_29 : decode cX10_happen 29 = .ok (.irem, 1) := by decide +kernel
theorem dX10_happen_30 : decode cX10_happen 30 = .ok (.istore 5, 2) := by decide +kernel
theorem dX10_happen_32 : decode cX10_happen 32 = .ok (.iload_n 1, 1) := by decide +kernel
theorem dX10_happen_33 : decode cX10_happen 33 = .ok (.bipush 10, 2) := by decide +kernel
theorem dX10_happen_35 : decode cX10_happen 35 = .ok (.irem, 1) := by decide +kernel
theorem dX10_happen_36 : decode cX10_happen 36 = .ok (.istore 6, 2) := by decide +kernel
theorem dX10_happen_38 : decode cX10_happen 38 = .ok (.iload 6, 2) := by decide +kernel
theorem dX10_happen_40 : decode cX10_happen 40 = .ok (.iconst 3, 1) := by decide +kernel
theorem dX10_happen_41 : decode cX10_happen 41 = .ok (.if_icmp .gt 15, 3) := by decide +kernel
theorem dX10_happen_44 : decode cX10_happen 44 = .ok (.aload_n 0, 1) := by decide +kernel
theorem dX10_happen_45 : decode cX10_happen 45 = .ok (.iload 4, 2) := by decide +kernel
theorem dX10_happen_47 : decode cX10_happen 47 = .ok (.iload 5, 2) := by decide +kernel
theorem dX10_happen_49 : decode cX10_happen 49 = .ok (.invokevirtual 121, 3) := by decide +kernel
theorem dX10_happen_52 : decode cX10_happen 52 = .ok (.pop, 1) := by decide +kernel
theorem dX10_happen_53 : decode cX10_happen 53 = .ok (.goto 78, 3) := by decide +kernel
theorem dX10_happen_56 : decode cX10_happen 56 = .ok (.iload 6, 2) := by decide +kernel
theorem dX10_happen_58 : decode cX10_happen 58 = .ok (.iconst 5, 1) := by decide +kernel
theorem dX10_happen_59 : decode cX10_happen 59 = .ok (.if_icmp .gt 19, 3) := by decide +kernel
theorem dX10_happen_62 : decode cX10_happen 62 = .ok (.aload_n 0, 1) := by decide +kernel
theorem dX10_happen_63 : decode cX10_happen 63 = .ok (.iload 4, 2) := by decide +kernel
theorem dX10_happen_65 : decode cX10_happen 65 = .ok (.iload 5, 2) := by decide +kernel
theorem dX10_happen_67 : decode cX10_happen 67 = .ok (.iload_n 1, 1) := by decide +kernel
theorem dX10_happen_68 : decode cX10_happen 68 = .ok (.sipush 1000, 3) := by decide +kernel
theorem dX10_happen_71 : decode cX10_happen 71 = .ok (.irem, 1) := by decide +kernel
theorem dX10_happen_72 : decode cX10_happen 72 = .ok (.invokevirtual 230, 3) := by decide +kernel
theorem dX10_happen_75 : decode cX10_happen 75 = .ok (.goto 56, 3) := by decide +kernel
theorem dX10_happen_78 : decode cX10_happen 78 = .ok (.iload 6, 2) := by decide +kernel
theorem dX10_happen_80 : decode cX10_happen 80 = .ok (.bipush 6, 2) := by decide +kernel
theorem dX10_happen_82 : decode cX10_happen 82 = .ok (.if_icmp .ne 23, 3) := by decide +kernel
theorem dX10_happen_85 : decode cX10_happen 85 = .ok (.aload_n 0, 1) := by decide +kernel
theorem dX10_happen_86 : decode cX10_happen 86 = .ok (.iload_n 3, 1) := by decide +kernel
theorem dX10_happen_87 : decode cX10_happen 87 = .ok (.bipush 9, 2) := by decide +kernel
theorem dX10_happen_89 : decode cX10_happen 89 = .ok (.irem, 1) := by decide +kernel
theorem dX10_happen_90 : decode cX10_happen 90 = .ok (.iload_n 3, 1) := by decide +kernel
theorem dX10_happen_91 : decode cX10_happen 91 = .ok (.bipush 9, 2) := by decide +kernel
theorem dX10_happen_93 : decode cX10_happen 93 = .ok (.irem, 1) := by decide +kernel
theorem dX10_happen_94 : decode cX10_happen 94 = .ok (.iconst 1, 1) := by decide +kernel
theorem dX10_happen_95 : decode cX10_happen 95 = .ok (.iadd, 1) := by decide +kernel
theorem dX10_happen_96 : decode cX10_happen 96 = .ok (.bipush 23, 2) := by decide +kernel
theorem dX10_happen_98 : decode cX10_happen 98 = .ok (.invokevirtual 233, 3) := by decide +kernel
theorem dX10_happen_101 : decode cX10_happen 101 = .ok (.pop, 1) := by decide +kernel
theorem dX10_happen_102 : decode cX10_happen 102 = .ok (.goto 29, 3) := by decide +kernel
theorem dX10_happen_105 : decode cX10_happen 105 = .ok (.iload 6, 2) := by decide +kernel
theorem dX10_happen_107 : decode cX10_happen 107 = .ok (.bipush 9, 2) := by decide +kernel
theorem dX10_happen_109 : decode cX10_happen 109 = .ok (.if_icmp .ne 17, 3) := by decide +kernel
theorem dX10_happen_112 : decode cX10_happen 112 = .ok (.iload_n 3, 1) := by decide +kernel
theorem dX10_happen_113 : decode cX10_happen 113 = .ok (.iconst 4, 1) := by decide +kernel
theorem dX10_happen_114 : decode cX10_happen 114 = .ok (.irem, 1) := by decide +kernel
theorem dX10_happen_115 : decode cX10_happen 115 = .ok (.ifCond .ne 11, 3) := by decide +kernel
theorem dX10_happen_118 : decode cX10_happen 118 = .ok (.aload_n 0, 1) := by decide +kernel
theorem dX10_happen_119 : decode cX10_happen 119 = .ok (.invokevirtual 237, 3) := by decide +kernel
theorem dX10_happen_122 : decode cX10_happen 122 = .ok (.pop, 1) := by decide +kernel
theorem dX10_happen_123 : decode cX10_happen 123 = .ok (.goto 8, 3) := by decide +kernel
theorem dX10_happen_126 : decode cX10_happen 126 = .ok (.aload_n 0, 1) := by decide +kernel
theorem dX10_happen_127 : decode cX10_happen 127 = .ok (.aload_n 2, 1) := by decide +kernel
theorem dX10_happen_128 : decode cX10_happen 128 = .ok (.invokevirtual 125, 3) := by decide +kernel
theorem dX10_happen_131 : decode cX10_happen 131 = .ok (.return_, 1) := by decide +kernel
theorem dX11_init_0 : decode cX11_init 0 = .ok (.aload_n 0, 1) := by decide +kernel
theorem dX11_init_1 : decode cX11_init 1 = .ok (.invokespecial 1, 3) := by decide +kernel
theorem dX11_init_4 : decode cX11_init 4 = .ok (.aload_n 0, 1) := by decide +kernel
theorem dX11_init_5 : decode cX11_init 5 = .ok (.new 7, 3) := by decide +kernel
theorem dX11_init_8 : decode cX11_init 8 = .ok (.dup, 1) := by decide +kernel
theorem dX11_init_9 : decode cX11_init 9 = .ok (.invokespecial 9, 3) := by decide +kernel
theorem dX11_init_12 : decode cX11_init 12 = .ok (.putfield 10, 3) := by decide +kernel
theorem dX11_init_15 : decode cX11_init 15 = .ok (.aload_n 0, 1) := by decide +kernel
theorem dX11_init_16 : decode cX11_init 16 = .ok (.new 7, 3) := by decide +kernel
theorem dX11_init_19 : decode cX11_init 19 = .ok (.dup, 1) := by decide +kernel
theorem dX11_init_20 : decode cX11_init 20 = .ok (.invokespecial 9, 3) := by decide +kernel
theorem dX11_init_23 : decode cX11_init 23 = .ok (.putfield 16, 3) := by decide +kernel
theorem dX11_init_26 : decode cX11_init 26 = .ok (.aload_n 0, 1) := by decide +kernel
theorem dX11_init_27 : decode cX11_init 27 = .ok (.new 19, 3) := by decide +kernel
theorem dX11_init_30 : decode cX11_init 30 = .ok (.dup, 1) := by decide +kernel
theorem dX11_init_31 : decode cX11_init 31 = .ok (.invokespecial 21, 3) := by decide +kernel
theorem dX11_init_34 : decode cX11_init 34 = .ok (.putfield 22, 3) := by decide +kernel
theorem dX11_init_37 : decode cX11_init 37 = .ok (.aload_n 0, 1) := by decide +kernel
theorem dX11_init_38 : decode cX11_init 38 = .ok (.new 26, 3) := by decide +kernel
theorem dX11_init_41 : decode cX11_init 41 = .ok (.dup, 1) := by decide +kernel
theorem dX11_init_42 : decode cX11_init 42 = .ok (.invokespecial 28, 3) := by decide +kernel
theorem dX11_init_45 : decode cX11_init 45 = .ok (.putfield 29, 3) := by decide +kernel
theorem dX11_init_48 : decode cX11_init 48 = .ok (.aload_n 0, 1) := by decide +kernel
theorem dX11_init_49 : decode cX11_init 49 = .ok (.new 33, 3) := by decide +kernel
theorem dX11_init_52 : decode cX11_init 52 = .ok (.dup, 1) := by decide +kernel
theorem dX11_init_53 : decode cX11_init 53 = .ok (.invokespecial 35, 3) := by decide +kernel
theorem dX11_init_56 : decode cX11_init 56 = .ok (.putfield 36, 3) := by decide +kernel
theorem dX11_init_59 : decode cX11_init 59 = .ok (.aload_n 0, 1) := by decide +kernel
theorem dX11_init_60 : decode cX11_init 60 = .ok (.new 40, 3) := by decide +kernel
theorem dX11_init_63 : decode cX11_init 63 = .ok (.dup, 1) := by decide +kernel
theorem dX11_init_64 : decode cX11_init 64 = .ok (.invokespecial 42, 3) := by decide +kernel
theorem dX11_init_67 : decode cX11_init 67 = .ok (.putfield 43, 3) := by decide +kernel
theorem dX11_init_70 : decode cX11_init 70 = .ok (.aload_n 0, 1) := by decide +kernel
theorem dX11_init_71 : decode cX11_init 71 = .ok (.iconst 4, 1) := by decide +kernel
theorem dX11_init_72 : decode cX11_init 72 = .ok (.anewarray 47, 3) := by decide +kernel
theorem dX11_init_75 : decode cX11_init 75 = .ok (.putfield 49, 3) := by decide +kernel
theorem dX11_init_78 : decode cX11_init 78 = .ok (.aload_n 0, 1) := by decide +kernel
theorem dX11_init_79 : decode cX11_init 79 = .ok (.iconst 0, 1) := by decide +kernel
theorem dX11_init_80 : decode cX11_init 80 = .ok (.putfield 53, 3) := by decide +kernel
theorem dX11_init_83 : decode cX11_init 83 = .ok (.aload_n 0, 1) := by decide +kernel
theorem dX11_init_84 : decode cX11_init 84 = .ok (.new 7, 3) := by decide +kernel
theorem dX11_init_87 : decode cX11_init 87 = .ok (.dup, 1) := by decide +kernel
theorem dX11_init_88 : decode cX11_init 88 = .ok (.invokespecial 9, 3) := by decide +kernel
theorem dX11_init_91 : decode cX11_init 91 = .ok (.putfield 57, 3) := by decide +kernel
theorem dX11_init_94 : decode cX11_init 94 = .ok (.aload_n 0, 1) := by decide +kernel
theorem dX11_init_95 : decode cX11_init 95 = .ok (.new 19, 3) := by decide +kernel
theorem dX11_init_98 : decode cX11_init 98 = .ok (.dup, 1) := by decide +kernel
theorem dX11_init_99 : decode cX11_init 99 = .ok (.invokespecial 21, 3) := by decide +kernel
theorem dX11_init_102 : decode cX11_init 102 = .ok (.putfield 60, 3) := by decide +kernel
theorem dX11_init_105 : decode cX11_init 105 = .ok (.aload_n 0, 1) := by decide +kernel
theorem dX11_init_106 : decode cX11_init 106 = .ok (.iconst 0, 1) := by decide +kernel
theorem dX11_init_107 : decode cX11_init 107 = .ok (.putfield 63, 3) := by decide +kernel
theorem dX11_init_110 : decode cX11_init 110 = .ok (.return_, 1) := by decide +kernel
theorem dX11_feed_0 : decode cX11_feed 0 = .ok (.aload_n 0, 1) := by decide +kernel
theorem dX11_feed_1 : decode cX11_feed 1 = .ok (.getfield 43, 3) := by decide +kernel
theorem dX11_feed_4 : decode cX11_feed 4 = .ok (.getfield 66, 3) := by decide +kernel
theorem dX11_feed_7 : decode cX11_feed 7 = .ok (.sipush 280, 3) := by decide +kernel
theorem dX11_feed_10 : decode cX11_feed 10 = .ok (.if_icmp .le 5, 3) := by decide +kernel
theorem dX11_feed_13 : decode cX11_feed 13 = .ok (.iconst (-1), 1) := by decide +kernel
theorem dX11_feed_14 : decode cX11_feed 14 = .ok (.ireturn, 1) := by decide +kernel
theorem dX11_feed_15 : decode cX11_feed 15 = .ok (.aload_n 0, 1) := by decide +kernel
theorem dX11_feed_16 : decode cX11_feed 16 = .ok (.getfield 43, 3) := by decide +kernel
theorem dX11_feed_19 : decode cX11_feed 19 = .ok (.iload_n 1, 1) := by decide +kernel
theorem dX11_feed_20 : decode cX11_feed 20 = .ok (.invokevirtual 69, 3) := by decide +kernel
theorem dX11_feed_23 : decode cX11_feed 23 = .ok (.aload_n 0, 1) := by decide +kernel
theorem dX11_feed_24 : decode cX11_feed 24 = .ok (.getfield 43, 3) := by decide +kernel
theorem dX11_feed_27 : decode cX11_feed 27 = .ok (.iload_n 2, 1) := by decide +kernel
theorem dX11_feed_28 : decode cX11_feed 28 = .ok (.invokevirtual 69, 3) := by decide +kernel
theorem dX11_feed_31 : decode cX11_feed 31 = .ok (.aload_n 0, 1) := by decide +kernel
theorem dX11_feed_32 : decode cX11_feed 32 = .ok (.getfield 43, 3) := by decide +kernel
theorem dX11_feed_35 : decode cX11_feed 35 = .ok (.iload_n 3, 1) := by decide +kernel
theorem dX11_feed_36 : decode cX11_feed 36 = .ok (.invokevirtual 69, 3) := by decide +kernel
theorem dX11_feed_39 : decode cX11_feed 39 = .ok (.aload_n 0, 1) := by decide +kernel
theorem dX11_feed_40 : decode cX11_feed 40 = .ok (.getfield 43, 3) := by decide +kernel
theorem dX11_feed_43 : decode cX11_feed 43 = .ok (.iload 4, 2) := by decide +kernel
theorem dX11_feed_45 : decode cX11_feed 45 = .ok (.invokevirtual 69, 3) := by decide +kernel
theorem dX11_feed_48 : decode cX11_feed 48 = .ok (.aload_n 0, 1) := by decide +kernel
theorem dX11_feed_49 : decode cX11_feed 49 = .ok (.getfield 43, 3) := by decide +kernel
theorem dX11_feed_52 : decode cX11_feed 52 = .ok (.iload 5, 2) := by decide +kernel
theorem dX11_feed_54 : decode cX11_feed 54 = .ok (.invokevirtual 69, 3) := by decide +kernel
theorem dX11_feed_57 : decode cX11_feed 57 = .ok (.aload_n 0, 1) := by decide +kernel
theorem dX11_feed_58 : decode cX11_feed 58 = .ok (.getfield 43, 3) := by decide +kernel
theorem dX11_feed_61 : decode cX11_feed 61 = .ok (.getfield 66, 3) := by decide +kernel
theorem dX11_feed_64 : decode cX11_feed 64 = .ok (.ireturn, 1) := by decide +kernel
theorem dX11_end_0 : decode cX11_end 0 = .ok (.iload_n 1, 1) := by decide +kernel
theorem dX11_end_1 : decode cX11_end 1 = .ok (.ifCond .lt 14, 3) := by decide +kernel
theorem dX11_end_4 : decode cX11_end 4 = .ok (.iload_n 1, 1) := by decide +kernel
theorem dX11_end_5 : decode cX11_end 5 = .ok (.aload_n 0, 1) := by decide +kernel
theorem dX11_end_6 : decode cX11_end 6 = .ok (.getfield 43, 3) := by decide +kernel
theorem dX11_end_9 : decode cX11_end 9 = .ok (.getfield 66, 3) := by decide +kernel
theorem dX11_end_12 : decode cX11_end 12 = .ok (.if_icmp .le 5, 3) := by decide +kernel
theorem dX11_end_15 : decode cX11_end 15 = .ok (.iconst (-1), 1) := by decide +kernel
theorem dX11_end_16 : decode cX11_end 16 = .ok (.ireturn, 1) := by decide +kernel
theorem dX11_end_17 : decode cX11_end 17 = .ok (.aload_n 0, 1) := by decide +kernel
theorem dX11_end_18 : decode cX11_end 18 = .ok (.getfield 43, 3) := by decide +kernel
theorem dX11_end_21 : decode cX11_end 21 = .ok (.iload_n 1, 1) := by decide +kernel
theorem dX11_end_22 : decode cX11_end 22 = .ok (.putfield 66, 3) := by decide +kernel
theorem dX11_end_25 : decode cX11_end 25 = .ok (.iload_n 1, 1) := by decide +kernel
theorem dX11_end_26 : decode cX11_end 26 = .ok (.ireturn, 1) := by decide +kernel
theorem dX11_text_0 : decode cX11_text 0 = .ok (.aload_n 0, 1) := by decide +kernel
theorem dX11_text_1 : decode cX11_text 1 = .ok (.getfield 53, 3) := by decide +kernel
theorem dX11_text_4 : decode cX11_text 4 = .ok (.iconst 4, 1) := by decide +kernel
theorem dX11_text_5 : decode cX11_text 5 = .ok (.if_icmp .lt 5, 3) := by decide +kernel
theorem dX11_text_8 : decode cX11_text 8 = .ok (.iconst (-1), 1) := by decide +kernel
theorem dX11_text_9 : decode cX11_text 9 = .ok (.ireturn, 1) := by decide +kernel
theorem dX11_text_10 : decode cX11_text 10 = .ok (.aload_n 0, 1) := by decide +kernel
theorem dX11_text_11 : decode cX11_text 11 = .ok (.getfield 43, 3) := by decide +kernel
theorem dX11_text_14 : decode cX11_text 14 = .ok (.invokevirtual 73, 3) := by decide +kernel
theorem dX11_text_17 : decode cX11_text 17 = .ok (.astore_n 1, 1) := by decide +kernel
theorem dX11_text_18 : decode cX11_text 18 = .ok (.aload_n 1, 1) := by decide +kernel
theorem dX11_text_19 : decode cX11_text 19 = .ok (.ifnonnull 5, 3) := by decide +kernel
theorem dX11_text_22 : decode cX11_text 22 = .ok (.iconst (-1), 1) := by decide +kernel
theorem dX11_text_23 : decode cX11_text 23 = .ok (.ireturn, 1) := by decide +kernel
theorem dX11_text_24 : decode cX11_text 24 = .ok (.aload_n 0, 1) := by decide +kernel
theorem dX11_text_25 : decode cX11_text 25 = .ok (.getfield 49, 3) := by decide +kernel
theorem dX11_text_28 : decode cX11_text 28 = .ok (.aload_n 0, 1) := by decide +kernel
theorem dX11_text_29 : decode cX11_text 29 = .ok (.getfield 53, 3) := by decide +kernel
theorem dX11_text_32 : decode cX11_text 32 = .ok (.aload_n 1, 1) := by decide +kernel
theorem dX11_text_33 : decode cX11_text 33 = .ok (.aastore, 1) := by decide +kernel
theorem dX11_text_34 : decode cX11_text 34 = .ok (.aload_n 0, 1) := by decide +kernel
theorem dX11_text_35 : decode cX11_text 35 = .ok (.dup, 1) := by decide +kernel
theorem dX11_text_36 : decode cX11_text 36 = .ok (.getfield 53, 3) := by decide +kernel
theorem dX11_text_39 : decode cX11_text 39 = .ok (.iconst 1, 1) := by decide +kernel
theorem dX11_text_40 : decode cX11_text 40 = .ok (.iadd, 1) := by decide +kernel
theorem dX11_text_41 : decode cX11_text 41 = .ok (.putfield 53, 3) := by decide +kernel
theorem dX11_text_44 : decode cX11_text 44 = .ok (.aload_n 0, 1) := by decide +kernel
theorem dX11_text_45 : decode cX11_text 45 = .ok (.getfield 53, 3) := by decide +kernel
theorem dX11_text_48 : decode cX11_text 48 = .ok (.iconst 1, 1) := by decide +kernel
theorem dX11_text_49 : decode cX11_text 49 = .ok (.isub, 1) := by decide +kernel
theorem dX11_text_50 : decode cX11_text 50 = .ok (.ireturn, 1) := by decide +kernel
theorem dX11_fault_0 : decode cX11_fault 0 = .ok (.iload_n 1, 1) := by decide +kernel
theorem dX11_fault_1 : decode cX11_fault 1 = .ok (.ifCond .ne 11, 3) := by decide +kernel
theorem dX11_fault_4 : decode cX11_fault 4 = .ok (.aload_n 0, 1) := by decide +kernel
theorem dX11_fault_5 : decode cX11_fault 5 = .ok (.getfield 43, 3) := by decide +kernel
theorem dX11_fault_8 : decode cX11_fault 8 = .ok (.getfield 77, 3) := by decide +kernel
theorem dX11_fault_11 : decode cX11_fault 11 = .ok (.ireturn, 1) := by decide +kernel
theorem dX11_fault_12 : decode cX11_fault 12 = .ok (.iload_n 1, 1) := by decide +kernel
theorem dX11_fault_13 : decode cX11_fault 13 = .ok (.iconst 1, 1) := by decide +kernel
theorem dX11_fault_14 : decode cX11_fault 14 = .ok (.if_icmp .ne 13, 3) := by decide +kernel
theorem dX11_fault_17 : decode cX11_fault 17 = .ok (.aload_n 0, 1) := by decide +kernel
theorem dX11_fault_18 : decode cX11_fault 18 = .ok (.getfield 43, 3) := by decide +kernel
theorem dX11_fault_21 : decode cX11_fault 21 = .ok (.getfield 80, 3) := by decide +kernel
theorem dX11_fault_24 : decode cX11_fault 24 = .ok (.goto 4, 3) := by decide +kernel
theorem dX11_fault_27 : decode cX11_fault 27 = .ok (.iconst (-1), 1) := by decide +kernel
theorem dX11_fault_28 : decode cX11_fault 28 = .ok (.ireturn, 1) := by decide +kernel
theorem dX11_read_0 : decode cX11_read 0 = .ok (.iload_n 1, 1) := by decide +kernel
theorem dX11_read_1 : decode cX11_read 1 = .ok (.iload_n 2, 1) := by decide +kernel
theorem dX11_read_2 : decode cX11_read 2 = .ok (.invokestatic 83, 3) := by decide +kernel
theorem dX11_read_5 : decode cX11_read 5 = .ok (.ifCond .ne 5, 3) := by decide +kernel
theorem dX11_read_8 : decode cX11_read 8 = .ok (.iconst (-1), 1) := by decide +kernel
theorem dX11_read_9 : decode cX11_read 9 = .ok (.ireturn, 1) := by decide +kernel
theorem dX11_read_10 : decode cX11_read 10 = .ok (.aload_n 0, 1) := by decide +kernel
theorem dX11_read_11 : decode cX11_read 11 = .ok (.getfield 22, 3) := by decide +kernel
theorem dX11_read_14 : decode cX11_read 14 = .ok (.aload_n 0, 1) := by decide +kernel
theorem dX11_read_15 : decode cX11_read 15 = .ok (.getfield 10, 3) := by decide +kernel
theorem dX11_read_18 : decode cX11_read 18 = .ok (.invokevirtual 87, 3) := by decide +kernel
theorem dX11_read_21 : decode cX11_read 21 = .ok (.aload_n 0, 1) := by decide +kernel
theorem dX11_read_22 : decode cX11_read 22 = .ok (.getfield 10, 3) := by decide +kernel
theorem dX11_read_25 : decode cX11_read 25 = .ok (.iload_n 1, 1) := by decide +kernel
theorem dX11_read_26 : decode cX11_read 26 = .ok (.iload_n 2, 1) := by decide +kernel
theorem dX11_read_27 : decode cX11_read 27 = .ok (.invokevirtual 91, 3) := by decide +kernel
theorem dX11_read_30 : decode cX11_read 30 = .ok (.ireturn, 1) := by decide +kernel
theorem dX11_write_0 : decode cX11_write 0 = .ok (.iload_n 1, 1) := by decide +kernel
theorem dX11_write_1 : decode cX11_write 1 = .ok (.iload_n 2, 1) := by decide +kernel
theorem dX11_write_2 : decode cX11_write 2 = .ok (.invokestatic 83, 3) := by decide +kernel
theorem dX11_write_5 : decode cX11_write 5 = .ok (.ifCond .eq 14, 3) := by decide +kernel
theorem dX11_write_8 : decode cX11_write 8 = .ok (.iload_n 3, 1) := by decide +kernel
theorem dX11_write_9 : decode cX11_write 9 = .ok (.ifCond .lt 10, 3) := by decide +kernel
theorem dX11_write_12 : decode cX11_write 12 = .ok (.iload_n 3, 1) := by decide +kernel
theorem dX11_write_13 : decode cX11_write 13 = .ok (.sipush 1000, 3) := by decide +kernel
theorem dX11_write_16 : decode cX11_write 16 = .ok (.if_icmp .lt 5, 3) := by decide +kernel
theorem dX11_write_19 : decode cX11_write 19 = .ok (.iconst (-1), 1) := by decide +kernel
theorem dX11_write_20 : decode cX11_write 20 = .ok (.ireturn, 1) := by decide +kernel
theorem dX11_write_21 : decode cX11_write 21 = .ok (.aload_n 0, 1) := by decide +kernel
theorem dX11_write_22 : decode cX11_write 22 = .ok (.getfield 22, 3) := by decide +kernel
theorem dX11_write_25 : decode cX11_write 25 = .ok (.aload_n 0, 1) := by decide +kernel
theorem dX11_write_26 : decode cX11_write 26 = .ok (.getfield 10, 3) := by decide +kernel
theorem dX11_write_29 : decode cX11_write 29 = .ok (.invokevirtual 87, 3) := by decide +kernel
theorem dX11_write_32 : decode cX11_write 32 = .ok (.aload_n 0, 1) := by decide +kernel
theorem dX11_write_33 : decode cX11_write 33 = .ok (.getfield 10, 3) := by decide +kernel
theorem dX11_write_36 : decode cX11_write 36 = .ok (.iload_n 1, 1) := by decide +kernel
theorem dX11_write_37 : decode cX11_write 37 = .ok (.iload_n 2, 1) := by decide +kernel
theorem dX11_write_38 : decode cX11_write 38 = .ok (.iload_n 3, 1) := by decide +kernel
theorem dX11_write_39 : decode cX11_write 39 = .ok (.invokevirtual 95, 3) := by decide +kernel
theorem dX11_write_42 : decode cX11_write 42 = .ok (.aload_n 0, 1) := by decide +kernel
theorem dX11_write_43 : decode cX11_write 43 = .ok (.getfield 10, 3) := by decide +kernel
theorem dX11_write_46 : decode cX11_write 46 = .ok (.getfield 99, 3) := by decide +kernel
theorem dX11_write_49 : decode cX11_write 49 = .ok (.getfield 103, 3) := by decide +kernel
theorem dX11_write_52 : decode cX11_write 52 = .ok (.iload_n 1, 1) := by decide +kernel
theorem dX11_write_53 : decode cX11_write 53 = .ok (.iaload, 1) := by decide +kernel
theorem dX11_write_54 : decode cX11_write 54 = .ok (.ireturn, 1) := by decide +kernel
theorem dX11_scan_0 : decode cX11_scan 0 = .ok (.iload_n 1, 1) := by decide +kernel
theorem dX11_scan_1 : decode cX11_scan 1 = .ok (.invokestatic 109, 3) := by decide +kernel
theorem dX11_scan_4 : decode cX11_scan 4 = .ok (.ifCond .eq 15, 3) := by decide +kernel
theorem dX11_scan_7 : decode cX11_scan 7 = .ok (.iload_n 2, 1) := by decide +kernel
theorem dX11_scan_8 : decode cX11_scan 8 = .ok (.invokestatic 109, 3) := by decide +kernel
theorem dX11_scan_11 : decode cX11_scan 11 = .ok (.ifCond .eq 8, 3) := by decide +kernel
theorem dX11_scan_14 : decode cX11_scan 14 = .ok (.iload_n 1, 1) := by decide +kernel
theorem dX11_scan_15 : decode cX11_scan 15 = .ok (.iload_n 2, 1) := by decide +kernel
theorem dX11_scan_16 : decode cX11_scan 16 = .ok (.if_icmp .le 5, 3) := by decide +kernel
theorem dX11_scan_19 : decode cX11_scan 19 = .ok (.iconst (-1), 1) := by decide +kernel
theorem dX11_scan_20 : decode cX11_scan 20 = .ok (.ireturn, 1) := by decide +kernel
theorem dX11_scan_21 : decode cX11_scan 21 = .ok (.aload_n 0, 1) := by decide +kernel
theorem dX11_scan_22 : decode cX11_scan 22 = .ok (.getfield 22, 3) := by decide +kernel
theorem dX11_scan_25 : decode cX11_scan 25 = .ok (.aload_n 0, 1) := by decide +kernel
theorem dX11_scan_26 : decode cX11_scan 26 = .ok (.getfield 10, 3) := by decide +kernel
theorem dX11_scan_29 : decode cX11_scan 29 = .ok (.invokevirtual 87, 3) := by decide +kernel
theorem dX11_scan_32 : decode cX11_scan 32 = .ok (.aload_n 0, 1) := by decide +kernel
theorem dX11_scan_33 : decode cX11_scan 33 = .ok (.getfield 10, 3) := by decide +kernel
theorem dX11_scan_36 : decode cX11_scan 36 = .ok (.getfield 113, 3) := by decide +kernel
theorem dX11_scan_39 : decode cX11_scan 39 = .ok (.bipush 8, 2) := by decide +kernel
theorem dX11_scan_41 : decode cX11_scan 41 = .ok (.iaload, 1) := by decide +kernel
theorem dX11_scan_42 : decode cX11_scan 42 = .ok (.istore_n 3, 1) := by decide +kernel
theorem dX11_scan_43 : decode cX11_scan 43 = .ok (.aload_n 0, 1) := by decide +kernel
theorem dX11_scan_44 : decode cX11_scan 44 = .ok (.getfield 10, 3) := by decide +kernel
theorem dX11_scan_47 : decode cX11_scan 47 = .ok (.iload_n 1, 1) := by decide +kernel
theorem dX11_scan_48 : decode cX11_scan 48 = .ok (.iload_n 2, 1) := by decide +kernel
theorem dX11_scan_49 : decode cX11_scan 49 = .ok (.bipush 23, 2) := by decide +kernel
theorem dX11_scan_51 : decode cX11_scan 51 = .ok (.invokevirtual 116, 3) := by decide +kernel
theorem dX11_scan_54 : decode cX11_scan 54 = .ok (.pop, 1) := by decide +kernel
theorem dX11_scan_55 : decode cX11_scan 55 = .ok (.aload_n 0, 1) := by decide +kernel
theorem dX11_scan_56 : decode cX11_scan 56 = .ok (.getfield 10, 3) := by decide +kernel
theorem dX11_scan_59 : decode cX11_scan 59 = .ok (.getfield 113, 3) := by decide +kernel
theorem dX11_scan_62 : decode cX11_scan 62 = .ok (.bipush 8, 2) := by decide +kernel
theorem dX11_scan_64 : decode cX11_scan 64 = .ok (.iaload, 1) := by decide +kernel
theorem dX11_scan_65 : decode cX11_scan 65 = .ok (.iload_n 3, 1) := by decide +kernel
theorem dX11_scan_66 : decode cX11_scan 66 = .ok (.isub, 1) := by decide +kernel
theorem dX11_scan_67 : decode cX11_scan 67 = .ok (.ireturn, 1) := by decide +kernel
theorem dX11_pin_0 : decode cX11_pin 0 = .ok (.iload_n 1, 1) := by decide +kernel
theorem dX11_pin_1 : decode cX11_pin 1 = .ok (.invokestatic 109, 3) := by decide +kernel
theorem dX11_pin_4 : decode cX11_pin 4 = .ok (.ifCond .eq 28, 3) := by decide +kernel
theorem dX11_pin_7 : decode cX11_pin 7 = .ok (.iload_n 2, 1) := by decide +kernel
theorem dX11_pin_8 : decode cX11_pin 8 = .ok (.ifCond .lt 24, 3) := by decide +kernel
theorem dX11_pin_11 : decode cX11_pin 11 = .ok (.iload_n 2, 1) := by decide +kernel
theorem dX11_pin_12 : decode cX11_pin 12 = .ok (.iconst 2, 1) := by decide +kernel
theorem dX11_pin_13 : decode cX11_pin 13 = .ok (.if_icmp .gt 19, 3) := by decide +kernel
theorem dX11_pin_16 : decode cX11_pin 16 = .ok (.aload_n 0, 1) := by decide +kernel
theorem dX11_pin_17 : decode cX11_pin 17 = .ok (.getfield 10, 3) := by decide +kernel
theorem dX11_pin_20 : decode cX11_pin 20 = .ok (.getfield 99, 3) := by decide +kernel
theorem dX11_pin_23 : decode cX11_pin 23 = .ok (.getfield 120, 3) := by decide +kernel
theorem dX11_pin_26 : decode cX11_pin 26 = .ok (.iload_n 1, 1) := by decide +kernel
theorem dX11_pin_27 : decode cX11_pin 27 = .ok (.iaload, 1) := by decide +kernel
theorem dX11_pin_28 : decode cX11_pin 28 = .ok (.iload_n 2, 1) := by decide +kernel
theorem dX11_pin_29 : decode cX11_pin 29 = .ok (.if_icmp .ne 5, 3) := by decide +kernel
theorem dX11_pin_32 : decode cX11_pin 32 = .ok (.iconst 0, 1) := by decide +kernel
theorem dX11_pin_33 : decode cX11_pin 33 = .ok (.ireturn, 1) := by decide +kernel
theorem dX11_pin_34 : decode cX11_pin 34 = .ok (.aload_n 0, 1) := by decide +kernel
theorem dX11_pin_35 : decode cX11_pin 35 = .ok (.getfield 22, 3) := by decide +kernel
theorem dX11_pin_38 : decode cX11_pin 38 = .ok (.aload_n 0, 1) := by decide +kernel
theorem dX11_pin_39 : decode cX11_pin 39 = .ok (.getfield 10, 3) := by decide +kernel
theorem dX11_pin_42 : decode cX11_pin 42 = .ok (.invokevirtual 87, 3) := by decide +kernel
theorem dX11_pin_45 : decode cX11_pin 45 = .ok (.aload_n 0, 1) := by decide +kernel
theorem dX11_pin_46 : decode cX11_pin 46 = .ok (.getfield 10, 3) := by decide +kernel
theorem dX11_pin_49 : decode cX11_pin 49 = .ok (.getfield 99, 3) := by decide +kernel
theorem dX11_pin_52 : decode cX11_pin 52 = .ok (.getfield 120, 3) := by decide +kernel
theorem dX11_pin_55 : decode cX11_pin 55 = .ok (.iload_n 1, 1) := by decide +kernel
theorem dX11_pin_56 : decode cX11_pin 56 = .ok (.iload_n 2, 1) := by decide +kernel
theorem dX11_pin_57 : decode cX11_pin 57 = .ok (.iastore, 1) := by decide +kernel
theorem dX11_pin_58 : decode cX11_pin 58 = .ok (.aload_n 0, 1) := by decide +kernel
theorem dX11_pin_59 : decode cX11_pin 59 = .ok (.getfield 10, 3) := by decide +kernel
theorem dX11_pin_62 : decode cX11_pin 62 = .ok (.iconst 5, 1) := by decide +kernel
theorem dX11_pin_63 : decode cX11_pin 63 = .ok (.iload_n 1, 1) := by decide +kernel
theorem dX11_pin_64 : decode cX11_pin 64 = .ok (.iload_n 2, 1) := by decide +kernel
theorem dX11_pin_65 : decode cX11_pin 65 = .ok (.invokevirtual 123, 3) := by decide +kernel
theorem dX11_pin_68 : decode cX11_pin 68 = .ok (.iconst 1, 1) := by decide +kernel
theorem dX11_pin_69 : decode cX11_pin 69 = .ok (.ireturn, 1) := by decide +kernel
theorem dX11_tell_0 : decode cX11_tell 0 = .ok (.iload_n 1, 1) := by decide +kernel
theorem dX11_tell_1 : decode cX11_tell 1 = .ok (.ifCond .lt 20, 3) := by decide +kernel
theorem dX11_tell_4 : decode cX11_tell 4 = .ok (.iload_n 1, 1) := by decide +kernel
theorem dX11_tell_5 : decode cX11_tell 5 = .ok (.iconst 2, 1) := by decide +kernel
theorem dX11_tell_6 : decode cX11_tell 6 = .ok (.if_icmp .gt 15, 3) := by decide +kernel
theorem dX11_tell_9 : decode cX11_tell 9 = .ok (.iload_n 2, 1) := by decide +kernel
theorem dX11_tell_10 : decode cX11_tell 10 = .ok (.ifCond .lt 11, 3) := by decide +kernel
theorem dX11_tell_13 : decode cX11_tell 13 = .ok (.iload_n 2, 1) := by decide +kernel
theorem dX11_tell_14 : decode cX11_tell 14 = .ok (.iload_n 1, 1) := by decide +kernel
theorem dX11_tell_15 : decode cX11_tell 15 = .ok (.invokestatic 126, 3) := by decide +kernel
theorem dX11_tell_18 : decode cX11_tell 18 = .ok (.if_icmp .le 5, 3) := by decide +kernel
theorem dX11_tell_21 : decode cX11_tell 21 = .ok (.iconst 0, 1) := by decide +kernel
theorem dX11_tell_22 : decode cX11_tell 22 = .ok (.ireturn, 1) := by decide +kernel
theorem dX11_tell_23 : decode cX11_tell 23 = .ok (.aload_n 0, 1) := by decide +kernel
theorem dX11_tell_24 : decode cX11_tell 24 = .ok (.getfield 22, 3) := by decide +kernel
theorem dX11_tell_27 : decode cX11_tell 27 = .ok (.aload_n 0, 1) := by decide +kernel
theorem dX11_tell_28 : decode cX11_tell 28 = .ok (.getfield 10, 3) := by decide +kernel
theorem dX11_tell_31 : decode cX11_tell 31 = .ok (.invokevirtual 87, 3) := by decide +kernel
theorem dX11_tell_34 : decode cX11_tell 34 = .ok (.aload_n 0, 1) := by decide +kernel
theorem dX11_tell_35 : decode cX11_tell 35 = .ok (.getfield 10, 3) := by decide +kernel
theorem dX11_tell_38 : decode cX11_tell 38 = .ok (.getfield 113, 3) := by decide +kernel
theorem dX11_tell_41 : decode cX11_tell 41 = .ok (.iconst 4, 1) := by decide +kernel
theorem dX11_tell_42 : decode cX11_tell 42 = .ok (.iload_n 1, 1) := by decide +kernel
theorem dX11_tell_43 : decode cX11_tell 43 = .ok (.iadd, 1) := by decide +kernel
theorem dX11_tell_44 : decode cX11_tell 44 = .ok (.iload_n 2, 1) := by decide +kernel
theorem dX11_tell_45 : decode cX11_tell 45 = .ok (.iastore, 1) := by decide +kernel
theorem dX11_tell_46 : decode cX11_tell 46 = .ok (.iconst 1, 1) := by decide +kernel
theorem dX11_tell_47 : decode cX11_tell 47 = .ok (.ireturn, 1) := by decide +kernel
theorem dX11_ask_0 : decode cX11_ask 0 = .ok (.iload_n 1, 1) := by decide +kernel
theorem dX11_ask_1 : decode cX11_ask 1 = .ok (.invokestatic 109, 3) := by decide +kernel
theorem dX11_ask_4 : decode cX11_ask 4 = .ok (.ifCond .eq 18, 3) := by decide +kernel
theorem dX11_ask_7 : decode cX11_ask 7 = .ok (.aload_n 0, 1) := by decide +kernel
theorem dX11_ask_8 : decode cX11_ask 8 = .ok (.getfield 10, 3) := by decide +kernel
theorem dX11_ask_11 : decode cX11_ask 11 = .ok (.getfield 130, 3) := by decide +kernel
theorem dX11_ask_14 : decode cX11_ask 14 = .ok (.iload_n 1, 1) := by decide +kernel
theorem dX11_ask_15 : decode cX11_ask 15 = .ok (.invokevirtual 134, 3) := by decide +kernel
theorem dX11_ask_18 : decode cX11_ask 18 = .ok (.iconst (-1), 1) := by decide +kernel
theorem dX11_ask_19 : decode cX11_ask 19 = .ok (.if_icmp .eq 5, 3) := by decide +kernel
theorem dX11_ask_22 : decode cX11_ask 22 = .ok (.iconst (-1), 1) := by decide +kernel
theorem dX11_ask_23 : decode cX11_ask 23 = .ok (.ireturn, 1) := by decide +kernel
theorem dX11_ask_24 : decode cX11_ask 24 = .ok (.aload_n 0, 1) := by decide +kernel
theorem dX11_ask_25 : decode cX11_ask 25 = .ok (.getfield 22, 3) := by decide +kernel
theorem dX11_ask_28 : decode cX11_ask 28 = .ok (.aload_n 0, 1) := by decide +kernel
theorem dX11_ask_29 : decode cX11_ask 29 = .ok (.getfield 10, 3) := by decide +kernel
theorem dX11_ask_32 : decode cX11_ask 32 = .ok (.invokevirtual 87, 3) := by decide +kernel
theorem dX11_ask_35 : decode cX11_ask 35 = .ok (.aload_n 0, 1) := by decide +kernel
theorem dX11_ask_36 : decode cX11_ask 36 = .ok (.getfield 10, 3) := by decide +kernel
theorem dX11_ask_39 : decode cX11_ask 39 = .ok (.getfield 130, 3) := by decide +kernel
theorem dX11_ask_42 : decode cX11_ask 42 = .ok (.iload_n 1, 1) := by decide +kernel
theorem dX11_ask_43 : decode cX11_ask 43 = .ok (.iconst 1, 1) := by decide +kernel
theorem dX11_ask_44 : decode cX11_ask 44 = .ok (.aload_n 0, 1) := by decide +kernel
theorem dX11_ask_45 : decode cX11_ask 45 = .ok (.getfield 10, 3) := by decide +kernel
theorem dX11_ask_48 : decode cX11_ask 48 = .ok (.getfield 99, 3) := by decide +kernel
theorem dX11_ask_51 : decode cX11_ask 51 = .ok (.getfield 103, 3) := by decide +kernel
theorem dX11_ask_54 : decode cX11_ask 54 = .ok (.iload_n 1, 1) := by decide +kernel
theorem dX11_ask_55 : decode cX11_ask 55 = .ok (.iaload, 1) := by decide +kernel
theorem dX11_ask_56 : decode cX11_ask 56 = .ok (.isub, 1) := by decide +kernel
theorem dX11_ask_57 : decode cX11_ask 57 = .ok (.invokevirtual 139, 3) := by decide +kernel
theorem dX11_ask_60 : decode cX11_ask 60 = .ok (.aload_n 0, 1) := by decide +kernel
theorem dX11_ask_61 : decode cX11_ask 61 = .ok (.getfield 10, 3) := by decide +kernel
theorem dX11_ask_64 : decode cX11_ask 64 = .ok (.getfield 130, 3) := by decide +kernel
theorem dX11_ask_67 : decode cX11_ask 67 = .ok (.getfield 143, 3) := by decide +kernel
theorem dX11_ask_70 : decode cX11_ask 70 = .ok (.ireturn, 1) := by decide +kernel
theorem dX11_drop_0 : decode cX11_drop 0 = .ok (.aload_n 0, 1) := by decide +kernel
theorem dX11_drop_1 : decode cX11_drop 1 = .ok (.getfield 10, 3) := by decide +kernel
theorem dX11_drop_4 : decode cX11_drop 4 = .ok (.getfield 130, 3) := by decide +kernel
theorem dX11_drop_7 : decode cX11_drop 7 = .ok (.iload_n 1, 1) := by decide +kernel
theorem dX11_drop_8 : decode cX11_drop 8 = .ok (.invokevirtual 134, 3) := by decide +kernel
theorem dX11_drop_11 : decode cX11_drop 11 = .ok (.istore_n 2, 1) := by decide +kernel
theorem dX11_drop_12 : decode cX11_drop 12 = .ok (.iload_n 2, 1) := by decide +kernel
theorem dX11_drop_13 : decode cX11_drop 13 = .ok (.iconst (-1), 1) := by decide +kernel
theorem dX11_drop_14 : decode cX11_drop 14 = .ok (.if_icmp .ne 5, 3) := by decide +kernel
theorem dX11_drop_17 : decode cX11_drop 17 = .ok (.iconst (-1), 1) := by decide +kernel
theorem dX11_drop_18 : decode cX11_drop 18 = .ok (.ireturn, 1) := by decide +kernel
theorem dX11_drop_19 : decode cX11_drop 19 = .ok (.aload_n 0, 1) := by decide +kernel
theorem dX11_drop_20 : decode cX11_drop 20 = .ok (.getfield 22, 3) := by decide +kernel
theorem dX11_drop_23 : decode cX11_drop 23 = .ok (.aload_n 0, 1) := by decide +kernel
theorem dX11_drop_24 : decode cX11_drop 24 = .ok (.getfield 10, 3) := by decide +kernel
theorem dX11_drop_27 : decode cX11_drop 27 = .ok (.invokevirtual 87, 3) := by decide +kernel
theorem dX11_drop_30 : decode cX11_drop 30 = .ok (.aload_n 0, 1) := by decide +kernel
theorem dX11_drop_31 : decode cX11_drop 31 = .ok (.getfield 10, 3) := by decide +kernel
theorem dX11_drop_34 : decode cX11_drop 34 = .ok (.iload_n 2, 1) := by decide +kernel
theorem dX11_drop_35 : decode cX11_drop 35 = .ok (.invokevirtual 146, 3) := by decide +kernel
theorem dX11_drop_38 : decode cX11_drop 38 = .ok (.aload_n 0, 1) := by decide +kernel
theorem dX11_drop_39 : decode cX11_drop 39 = .ok (.getfield 10, 3) := by decide +kernel
theorem dX11_drop_42 : decode cX11_drop 42 = .ok (.getfield 130, 3) := by decide +kernel
theorem dX11_drop_45 : decode cX11_drop 45 = .ok (.getfield 143, 3) := by decide +kernel
theorem dX11_drop_48 : decode cX11_drop 48 = .ok (.ireturn, 1) := by decide +kernel
theorem dX11_day_0 : decode cX11_day 0 = .ok (.iload_n 1, 1) := by decide +kernel
theorem dX11_day_1 : decode cX11_day 1 = .ok (.invokestatic 149, 3) := by decide +kernel
theorem dX11_day_4 : decode cX11_day 4 = .ok (.ifCond .ne 5, 3) := by decide +kernel
theorem dX11_day_7 : decode cX11_day 7 = .ok (.iconst (-1), 1) := by decide +kernel
theorem dX11_day_8 : decode cX11_day 8 = .ok (.ireturn, 1) := by decide +kernel
theorem dX11_day_9 : decode cX11_day 9 = .ok (.aload_n 0, 1) := by decide +kernel
theorem dX11_day_10 : decode cX11_day 10 = .ok (.getfield 22, 3) := by decide +kernel
theorem dX11_day_13 : decode cX11_day 13 = .ok (.aload_n 0, 1) := by decide +kernel
theorem dX11_day_14 : decode cX11_day 14 = .ok (.getfield 10, 3) := by decide +kernel
theorem dX11_day_17 : decode cX11_day 17 = .ok (.invokevirtual 87, 3) := by decide +kernel
theorem dX11_day_20 : decode cX11_day 20 = .ok (.aload_n 0, 1) := by decide +kernel
theorem dX11_day_21 : decode cX11_day 21 = .ok (.getfield 10, 3) := by decide +kernel
theorem dX11_day_24 : decode cX11_day 24 = .ok (.iload_n 1, 1) := by decide +kernel
theorem dX11_day_25 : decode cX11_day 25 = .ok (.aload_n 0, 1) := by decide +kernel
theorem dX11_day_26 : decode cX11_day 26 = .ok (.getfield 29, 3) := by decide +kernel
theorem dX11_day_29 : decode cX11_day 29 = .ok (.invokevirtual 152, 3) := by decide +kernel
theorem dX11_day_32 : decode cX11_day 32 = .ok (.aload_n 0, 1) := by decide +kernel
theorem dX11_day_33 : decode cX11_day 33 = .ok (.getfield 10, 3) := by decide +kernel
theorem dX11_day_36 : decode cX11_day 36 = .ok (.getfield 113, 3) := by decide +kernel
theorem dX11_day_39 : decode cX11_day 39 = .ok (.iconst 0, 1) := by decide +kernel
theorem dX11_day_40 : decode cX11_day 40 = .ok (.iaload, 1) := by decide +kernel
theorem dX11_day_41 : decode cX11_day 41 = .ok (.ireturn, 1) := by decide +kernel
theorem dX11_crash_0 : decode cX11_crash 0 = .ok (.aload_n 0, 1) := by decide +kernel
theorem dX11_crash_1 : decode cX11_crash 1 = .ok (.getfield 22, 3) := by decide +kernel
theorem dX11_crash_4 : decode cX11_crash 4 = .ok (.aload_n 0, 1) := by decide +kernel
theorem dX11_crash_5 : decode cX11_crash 5 = .ok (.getfield 10, 3) := by decide +kernel
theorem dX11_crash_8 : decode cX11_crash 8 = .ok (.invokevirtual 87, 3) := by decide +kernel
theorem dX11_crash_11 : decode cX11_crash 11 = .ok (.aload_n 0, 1) := by decide +kernel
theorem dX11_crash_12 : decode cX11_crash 12 = .ok (.getfield 10, 3) := by decide +kernel
theorem dX11_crash_15 : decode cX11_crash 15 = .ok (.invokevirtual 156, 3) := by decide +kernel
theorem dX11_crash_18 : decode cX11_crash 18 = .ok (.ireturn, 1) := by decide +kernel
theorem dX11_played_0 : decode cX11_played 0 = .ok (.aload_n 0, 1) := by decide +kernel
theorem dX11_played_1 : decode cX11_played 1 = .ok (.iload_n 1, 1) := by decide +kernel
theorem dX11_played_2 : decode cX11_played 2 = .ok (.invokevirtual 160, 3) := by decide +kernel
theorem dX11_played_5 : decode cX11_played 5 = .ok (.astore_n 2, 1) := by decide +kernel
theorem dX11_played_6 : decode cX11_played 6 = .ok (.aload_n 2, 1) := by decide +kernel
theorem dX11_played_7 : decode cX11_played 7 = .ok (.ifnonnull 5, 3) := by decide +kernel
theorem dX11_played_10 : decode cX11_played 10 = .ok (.iconst (-1), 1) := by decide +kernel
theorem dX11_played_11 : decode cX11_played 11 = .ok (.ireturn, 1) := by decide +kernel
theorem dX11_played_12 : decode cX11_played 12 = .ok (.aload_n 0, 1) := by decide +kernel
theorem dX11_played_13 : decode cX11_played 13 = .ok (.getfield 22, 3) := by decide +kernel
theorem dX11_played_16 : decode cX11_played 16 = .ok (.aload_n 0, 1) := by decide +kernel
theorem dX11_played_17 : decode cX11_played 17 = .ok (.getfield 10, 3) := by decide +kernel
theorem dX11_played_20 : decode cX11_played 20 = .ok (.invokevirtual 87, 3) := by decide +kernel
theorem dX11_played_23 : decode cX11_played 23 = .ok (.aload_n 0, 1) := by decide +kernel
theorem dX11_played_24 : decode cX11_played 24 = .ok (.getfield 36, 3) := by decide +kernel
theorem dX11_played_27 : decode cX11_played 27 = .ok (.aload_n 2, 1) := by decide +kernel
theorem dX11_played_28 : decode cX11_played 28 = .ok (.aload_n 0, 1) := by decide +kernel
theorem dX11_played_29 : decode cX11_played 29 = .ok (.getfield 10, 3) := by decide +kernel
theorem dX11_played_32 : decode cX11_played 32 = .ok (.aload_n 0, 1) := by decide +kernel
theorem dX11_played_33 : decode cX11_played 33 = .ok (.getfield 29, 3) := by decide +kernel
theorem dX11_played_36 : decode cX11_played 36 = .ok (.invokevirtual 164, 3) := by decide +kernel
theorem dX11_played_39 : decode cX11_played 39 = .ok (.ireturn, 1) := by decide +kernel
theorem dX11_years_0 : decode cX11_years 0 = .ok (.iload_n 1, 1) := by decide +kernel
theorem dX11_years_1 : decode cX11_years 1 = .ok (.ifCond .lt 21, 3) := by decide +kernel
theorem dX11_years_4 : decode cX11_years 4 = .ok (.iload_n 1, 1) := by decide +kernel
theorem dX11_years_5 : decode cX11_years 5 = .ok (.sipush 9999, 3) := by decide +kernel
theorem dX11_years_8 : decode cX11_years 8 = .ok (.if_icmp .gt 14, 3) := by decide +kernel
theorem dX11_years_11 : decode cX11_years 11 = .ok (.iload_n 2, 1) := by decide +kernel
theorem dX11_years_12 : decode cX11_years 12 = .ok (.iconst 1, 1) := by decide +kernel
theorem dX11_years_13 : decode cX11_years 13 = .ok (.if_icmp .lt 9, 3) := by decide +kernel
theorem dX11_years_16 : decode cX11_years 16 = .ok (.iload_n 2, 1) := by decide +kernel
theorem dX11_years_17 : decode cX11_years 17 = .ok (.bipush 24, 2) := by decide +kernel
theorem dX11_years_19 : decode cX11_years 19 = .ok (.if_icmp .le 5, 3) := by decide +kernel
theorem dX11_years_22 : decode cX11_years 22 = .ok (.iconst (-1), 1) := by decide +kernel
theorem dX11_years_23 : decode cX11_years 23 = .ok (.ireturn, 1) := by decide +kernel
theorem dX11_years_24 : decode cX11_years 24 = .ok (.aload_n 0, 1) := by decide +kernel
theorem dX11_years_25 : decode cX11_years 25 = .ok (.getfield 22, 3) := by decide +kernel
theorem dX11_years_28 : decode cX11_years 28 = .ok (.aload_n 0, 1) := by decide +kernel
theorem dX11_years_29 : decode cX11_years 29 = .ok (.getfield 10, 3) := by decide +kernel
theorem dX11_years_32 : decode cX11_years 32 = .ok (.invokevirtual 87, 3) := by decide +kernel
theorem dX11_years_35 : decode cX11_years 35 = .ok (.aload_n 0, 1) := by decide +kernel
theorem dX11_years_36 : decode cX11_years 36 = .ok (.getfield 10, 3) := by decide +kernel
theorem dX11_years_39 : decode cX11_years 39 = .ok (.iload_n 1, 1) := by decide +kernel
theorem dX11_years_40 : decode cX11_years 40 = .ok (.iload_n 2, 1) := by decide +kernel
theorem dX11_years_41 : decode cX11_years 41 = .ok (.aload_n 0, 1) := by decide +kernel
theorem dX11_years_42 : decode cX11_years 42 = .ok (.getfield 29, 3) := by decide +kernel
theorem dX11_years_45 : decode cX11_years 45 = .ok (.invokevirtual 168, 3) := by decide +kernel
theorem dX11_years_48 : decode cX11_years 48 = .ok (.aload_n 0, 1) := by decide +kernel
theorem dX11_years_49 : decode cX11_years 49 = .ok (.getfield 10, 3) := by decide +kernel
theorem dX11_years_52 : decode cX11_years 52 = .ok (.getfield 113, 3) := by decide +kernel
theorem dX11_years_55 : decode cX11_years 55 = .ok (.iconst 0, 1) := by decide +kernel
theorem dX11_years_56 : decode cX11_years 56 = .ok (.iaload, 1) := by decide +kernel
theorem dX11_years_57 : decode cX11_years 57 = .ok (.ireturn, 1) := by decide +kernel
theorem dX11_undo_0 : decode cX11_undo 0 = .ok (.aload_n 0, 1) := by decide +kernel
theorem dX11_undo_1 : decode cX11_undo 1 = .ok (.getfield 22, 3) := by decide +kernel
theorem dX11_undo_4 : decode cX11_undo 4 = .ok (.aload_n 0, 1) := by decide +kernel
theorem dX11_undo_5 : decode cX11_undo 5 = .ok (.getfield 10, 3) := by decide +kernel
theorem dX11_undo_8 : decode cX11_undo 8 = .ok (.invokevirtual 172, 3) := by decide +kernel
theorem dX11_undo_11 : decode cX11_undo 11 = .ok (.ifCond .eq 13, 3) := by decide +kernel
theorem dX11_undo_14 : decode cX11_undo 14 = .ok (.aload_n 0, 1) := by decide +kernel
theorem dX11_undo_15 : decode cX11_undo 15 = .ok (.getfield 22, 3) := by decide +kernel
theorem dX11_undo_18 : decode cX11_undo 18 = .ok (.getfield 176, 3) := by decide +kernel
theorem dX11_undo_21 : decode cX11_undo 21 = .ok (.goto 4, 3) := by decide +kernel
theorem dX11_undo_24 : decode cX11_undo 24 = .ok (.iconst (-1), 1) := by decide +kernel
theorem dX11_undo_25 : decode cX11_undo 25 = .ok (.ireturn, 1) := by decide +kernel
theorem dX11_is_0 : decode cX11_is 0 = .ok (.iload_n 1, 1) := by decide +kernel
theorem dX11_is_1 : decode cX11_is 1 = .ok (.ifCond .lt 21, 3) := by decide +kernel
theorem dX11_is_4 : decode cX11_is 4 = .ok (.iload_n 1, 1) := by decide +kernel
theorem dX11_is_5 : decode cX11_is 5 = .ok (.bipush 13, 2) := by decide +kernel
theorem dX11_is_7 : decode cX11_is 7 = .ok (.if_icmp .ge 15, 3) := by decide +kernel
theorem dX11_is_10 : decode cX11_is 10 = .ok (.aload_n 0, 1) := by decide +kernel
theorem dX11_is_11 : decode cX11_is 11 = .ok (.getfield 10, 3) := by decide +kernel
theorem dX11_is_14 : decode cX11_is 14 = .ok (.getfield 113, 3) := by decide +kernel
theorem dX11_is_17 : decode cX11_is 17 = .ok (.iload_n 1, 1) := by decide +kernel
theorem dX11_is_18 : decode cX11_is 18 = .ok (.iaload, 1) := by decide +kernel
theorem dX11_is_19 : decode cX11_is 19 = .ok (.goto 4, 3) := by decide +kernel
theorem dX11_is_22 : decode cX11_is 22 = .ok (.iconst (-1), 1) := by decide +kernel
theorem dX11_is_23 : decode cX11_is 23 = .ok (.ireturn, 1) := by decide +kernel
theorem dX11_where_0 : decode cX11_where 0 = .ok (.iload_n 1, 1) := by decide +kernel
theorem dX11_where_1 : decode cX11_where 1 = .ok (.invokestatic 109, 3) := by decide +kernel
theorem dX11_where_4 : decode cX11_where 4 = .ok (.ifCond .eq 18, 3) := by decide +kernel
theorem dX11_where_7 : decode cX11_where 7 = .ok (.aload_n 0, 1) := by decide +kernel
theorem dX11_where_8 : decode cX11_where 8 = .ok (.getfield 10, 3) := by decide +kernel
theorem dX11_where_11 : decode cX11_where 11 = .ok (.getfield 99, 3) := by decide +kernel
theorem dX11_where_14 : decode cX11_where 14 = .ok (.getfield 103, 3) := by decide +kernel
theorem dX11_where_17 : decode cX11_where 17 = .ok (.iload_n 1, 1) := by decide +kernel
theorem dX11_where_18 : decode cX11_where 18 = .ok (.iaload, 1) := by decide +kernel
theorem dX11_where_19 : decode cX11_where 19 = .ok (.goto 4, 3) := by decide +kernel
theorem dX11_where_22 : decode cX11_where 22 = .ok (.iconst (-1), 1) := by decide +kernel
theorem dX11_where_23 : decode cX11_where 23 = .ok (.ireturn, 1) := by decide +kernel
theorem dX11_slot_0 : decode cX11_slot 0 = .ok (.iload_n 1, 1) := by decide +kernel
theorem dX11_slot_1 : decode cX11_slot 1 = .ok (.iload_n 2, 1) := by decide +kernel
theorem dX11_slot_2 : decode cX11_slot 2 = .ok (.invokestatic 83, 3) := by decide +kernel
theorem dX11_slot_5 : decode cX11_slot 5 = .ok (.ifCond .eq 18, 3) := by decide +kernel
theorem dX11_slot_8 : decode cX11_slot 8 = .ok (.aload_n 0, 1) := by decide +kernel
theorem dX11_slot_9 : decode cX11_slot 9 = .ok (.getfield 10, 3) := by decide +kernel
theorem dX11_slot_12 : decode cX11_slot 12 = .ok (.getfield 99, 3) := by decide +kernel
theorem dX11_slot_15 : decode cX11_slot 15 = .ok (.getfield 103, 3) := by decide +kernel
theorem dX11_slot_18 : decode cX11_slot 18 = .ok (.iload_n 1, 1) := by decide +kernel
theorem dX11_slot_19 : decode cX11_slot 19 = .ok (.iaload, 1) := by decide +kernel
theorem dX11_slot_20 : decode cX11_slot 20 = .ok (.ifCond .ne 5, 3) := by decide +kernel
theorem dX11_slot_23 : decode cX11_slot 23 = .ok (.iconst (-1), 1) := by decide +kernel
theorem dX11_slot_24 : decode cX11_slot 24 = .ok (.ireturn, 1) := by decide +kernel
theorem dX11_slot_25 : decode cX11_slot 25 = .ok (.aload_n 0, 1) := by decide +kernel
theorem dX11_slot_26 : decode cX11_slot 26 = .ok (.getfield 10, 3) := by decide +kernel
theorem dX11_slot_29 : decode cX11_slot 29 = .ok (.getfield 177, 3) := by decide +kernel
theorem dX11_slot_32 : decode cX11_slot 32 = .ok (.getfield 181, 3) := by decide +kernel
theorem dX11_slot_35 : decode cX11_slot 35 = .ok (.getstatic 186, 3) := by decide +kernel
theorem dX11_slot_38 : decode cX11_slot 38 = .ok (.iload_n 1, 1) := by decide +kernel
theorem dX11_slot_39 : decode cX11_slot 39 = .ok (.iaload, 1) := by decide +kernel
theorem dX11_slot_40 : decode cX11_slot 40 = .ok (.iload_n 2, 1) := by decide +kernel
theorem dX11_slot_41 : decode cX11_slot 41 = .ok (.iadd, 1) := by decide +kernel
theorem dX11_slot_42 : decode cX11_slot 42 = .ok (.iaload, 1) := by decide +kernel
theorem dX11_slot_43 : decode cX11_slot 43 = .ok (.ireturn, 1) := by decide +kernel
theorem dX11_on_0 : decode cX11_on 0 = .ok (.iload_n 1, 1) := by decide +kernel
theorem dX11_on_1 : decode cX11_on 1 = .ok (.iconst 1, 1) := by decide +kernel
theorem dX11_on_2 : decode cX11_on 2 = .ok (.if_icmp .ne 30, 3) := by decide +kernel
theorem dX11_on_5 : decode cX11_on 5 = .ok (.iload_n 2, 1) := by decide +kernel
theorem dX11_on_6 : decode cX11_on 6 = .ok (.ifCond .lt 24, 3) := by decide +kernel
theorem dX11_on_9 : decode cX11_on 9 = .ok (.iload_n 2, 1) := by decide +kernel
theorem dX11_on_10 : decode cX11_on 10 = .ok (.bipush 9, 2) := by decide +kernel
theorem dX11_on_12 : decode cX11_on 12 = .ok (.if_icmp .ge 18, 3) := by decide +kernel
theorem dX11_on_15 : decode cX11_on 15 = .ok (.aload_n 0, 1) := by decide +kernel
theorem dX11_on_16 : decode cX11_on 16 = .ok (.getfield 10, 3) := by decide +kernel
theorem dX11_on_19 : decode cX11_on 19 = .ok (.getfield 177, 3) := by decide +kernel
theorem dX11_on_22 : decode cX11_on 22 = .ok (.getfield 189, 3) := by decide +kernel
theorem dX11_on_25 : decode cX11_on 25 = .ok (.iload_n 2, 1) := by decide +kernel
theorem dX11_on_26 : decode cX11_on 26 = .ok (.iaload, 1) := by decide +kernel
theorem dX11_on_27 : decode cX11_on 27 = .ok (.goto 4, 3) := by decide +kernel
theorem dX11_on_30 : decode cX11_on 30 = .ok (.iconst (-1), 1) := by decide +kernel
theorem dX11_on_31 : decode cX11_on 31 = .ok (.ireturn, 1) := by decide +kernel
theorem dX11_on_32 : decode cX11_on 32 = .ok (.iload_n 1, 1) := by decide +kernel
theorem dX11_on_33 : decode cX11_on 33 = .ok (.ifCond .ne 28, 3) := by decide +kernel
theorem dX11_on_36 : decode cX11_on 36 = .ok (.iload_n 2, 1) := by decide +kernel
theorem dX11_on_37 : decode cX11_on 37 = .ok (.ifCond .lt 24, 3) := by decide +kernel
theorem dX11_on_40 : decode cX11_on 40 = .ok (.iload_n 2, 1) := by decide +kernel
theorem dX11_on_41 : decode cX11_on 41 = .ok (.bipush 23, 2) := by decide +kernel
theorem dX11_on_43 : decode cX11_on 43 = .ok (.if_icmp .ge 18, 3) := by decide +kernel
theorem dX11_on_46 : decode cX11_on 46 = .ok (.aload_n 0, 1) := by decide +kernel
theorem dX11_on_47 : decode cX11_on 47 = .ok (.getfield 10, 3) := by decide +kernel
theorem dX11_on_50 : decode cX11_on 50 = .ok (.getfield 177, 3) := by decide +kernel
theorem dX11_on_53 : decode cX11_on 53 = .ok (.getfield 192, 3) := by decide +kernel
theorem dX11_on_56 : decode cX11_on 56 = .ok (.iload_n 2, 1) := by decide +kernel
theorem dX11_on_57 : decode cX11_on 57 = .ok (.iaload, 1) := by decide +kernel
theorem dX11_on_58 : decode cX11_on 58 = .ok (.goto 4, 3) := by decide +kernel
theorem dX11_on_61 : decode cX11_on 61 = .ok (.iconst (-1), 1) := by decide +kernel
theorem dX11_on_62 : decode cX11_on 62 = .ok (.ireturn, 1) := by decide +kernel
theorem dX11_holder_0 : decode cX11_holder 0 = .ok (.iload_n 1, 1) := by decide +kernel
theorem dX11_holder_1 : decode cX11_holder 1 = .ok (.ifCond .lt 24, 3) := by decide +kernel
theorem dX11_holder_4 : decode cX11_holder 4 = .ok (.iload_n 1, 1) := by decide +kernel
theorem dX11_holder_5 : decode cX11_holder 5 = .ok (.bipush 9, 2) := by decide +kernel
theorem dX11_holder_7 : decode cX11_holder 7 = .ok (.if_icmp .ge 18, 3) := by decide +kernel
theorem dX11_holder_10 : decode cX11_holder 10 = .ok (.aload_n 0, 1) := by decide +kernel
theorem dX11_holder_11 : decode cX11_holder 11 = .ok (.getfield 10, 3) := by decide +kernel
theorem dX11_holder_14 : decode cX11_holder 14 = .ok (.getfield 177, 3) := by decide +kernel
theorem dX11_holder_17 : decode cX11_holder 17 = .ok (.getfield 195, 3) := by decide +kernel
theorem dX11_holder_20 : decode cX11_holder 20 = .ok (.iload_n 1, 1) := by decide +kernel
theorem dX11_holder_21 : decode cX11_holder 21 = .ok (.iaload, 1) := by decide +kernel
theorem dX11_holder_22 : decode cX11_holder 22 = .ok (.goto 4, 3) := by decide +kernel
theorem dX11_holder_25 : decode cX11_holder 25 = .ok (.iconst (-1), 1) := by decide +kernel
theorem dX11_holder_26 : decode cX11_holder 26 = .ok (.ireturn, 1) := by decide +kernel
theorem dX11_free_0 : decode cX11_free 0 = .ok (.iload_n 1, 1) := by decide +kernel
theorem dX11_free_1 : decode cX11_free 1 = .ok (.ifCond .lt 23, 3) := by decide +kernel
theorem dX11_free_4 : decode cX11_free 4 = .ok (.iload_n 1, 1) := by decide +kernel
theorem dX11_free_5 : decode cX11_free 5 = .ok (.bipush 9, 2) := by decide +kernel
theorem dX11_free_7 : decode cX11_free 7 = .ok (.if_icmp .ge 17, 3) := by decide +kernel
theorem dX11_free_10 : decode cX11_free 10 = .ok (.aload_n 0, 1) := by decide +kernel
theorem dX11_free_11 : decode cX11_free 11 = .ok (.getfield 10, 3) := by decide +kernel
theorem dX11_free_14 : decode cX11_free 14 = .ok (.getfield 177, 3) := by decide +kernel
theorem dX11_free_17 : decode cX11_free 17 = .ok (.iload_n 1, 1) := by decide +kernel
theorem dX11_free_18 : decode cX11_free 18 = .ok (.invokevirtual 198, 3) := by decide +kernel
theorem dX11_free_21 : decode cX11_free 21 = .ok (.goto 4, 3) := by decide +kernel
theorem dX11_free_24 : decode cX11_free 24 = .ok (.iconst (-1), 1) := by decide +kernel
theorem dX11_free_25 : decode cX11_free 25 = .ok (.ireturn, 1) := by decide +kernel
theorem dX11_position_0 : decode cX11_position 0 = .ok (.iload_n 1, 1) := by decide +kernel
theorem dX11_position_1 : decode cX11_position 1 = .ok (.iload_n 2, 1) := by decide +kernel
theorem dX11_position_2 : decode cX11_position 2 = .ok (.invokestatic 83, 3) := by decide +kernel
theorem dX11_position_5 : decode cX11_position 5 = .ok (.ifCond .eq 13, 3) := by decide +kernel
theorem dX11_position_8 : decode cX11_position 8 = .ok (.getstatic 186, 3) := by decide +kernel
theorem dX11_position_11 : decode cX11_position 11 = .ok (.iload_n 1, 1) := by decide +kernel
theorem dX11_position_12 : decode cX11_position 12 = .ok (.iaload, 1) := by decide +kernel
theorem dX11_position_13 : decode cX11_position 13 = .ok (.iload_n 2, 1) := by decide +kernel
theorem dX11_position_14 : decode cX11_position 14 = .ok (.iadd, 1) := by decide +kernel
theorem dX11_position_15 : decode cX11_position 15 = .ok (.goto 4, 3) := by decide +kernel
theorem dX11_position_18 : decode cX11_position 18 = .ok (.iconst (-1), 1) := by decide +kernel
theorem dX11_position_19 : decode cX11_position 19 = .ok (.ireturn, 1) := by decide +kernel
theorem dX11_heat_0 : decode cX11_heat 0 = .ok (.iload_n 1, 1) := by decide +kernel
theorem dX11_heat_1 : decode cX11_heat 1 = .ok (.invokestatic 109, 3) := by decide +kernel
theorem dX11_heat_4 : decode cX11_heat 4 = .ok (.ifCond .eq 18, 3) := by decide +kernel
theorem dX11_heat_7 : decode cX11_heat 7 = .ok (.aload_n 0, 1) := by decide +kernel
theorem dX11_heat_8 : decode cX11_heat 8 = .ok (.getfield 10, 3) := by decide +kernel
theorem dX11_heat_11 : decode cX11_heat 11 = .ok (.getfield 99, 3) := by decide +kernel
theorem dX11_heat_14 : decode cX11_heat 14 = .ok (.getfield 201, 3) := by decide +kernel
theorem dX11_heat_17 : decode cX11_heat 17 = .ok (.iload_n 1, 1) := by decide +kernel
theorem dX11_heat_18 : decode cX11_heat 18 = .ok (.iaload, 1) := by decide +kernel
theorem dX11_heat_19 : decode cX11_heat 19 = .ok (.goto 4, 3) := by decide +kernel
theorem dX11_heat_22 : decode cX11_heat 22 = .ok (.iconst (-1), 1) := by decide +kernel
theorem dX11_heat_23 : decode cX11_heat 23 = .ok (.ireturn, 1) := by decide +kernel
theorem dX11_of_0 : decode cX11_of 0 = .ok (.iload_n 1, 1) := by decide +kernel
theorem dX11_of_1 : decode cX11_of 1 = .ok (.invokestatic 109, 3) := by decide +kernel
theorem dX11_of_4 : decode cX11_of 4 = .ok (.ifCond .eq 18, 3) := by decide +kernel
theorem dX11_of_7 : decode cX11_of 7 = .ok (.aload_n 0, 1) := by decide +kernel
theorem dX11_of_8 : decode cX11_of 8 = .ok (.getfield 10, 3) := by decide +kernel
theorem dX11_of_11 : decode cX11_of 11 = .ok (.getfield 99, 3) := by decide +kernel
theorem dX11_of_14 : decode cX11_of 14 = .ok (.iload_n 1, 1) := by decide +kernel
theorem dX11_of_15 : decode cX11_of 15 = .ok (.iload_n 2, 1) := by decide +kernel
theorem dX11_of_16 : decode cX11_of 16 = .ok (.invokevirtual 204, 3) := by decide +kernel
theorem dX11_of_19 : decode cX11_of 19 = .ok (.goto 4, 3) := by decide +kernel
theorem dX11_of_22 : decode cX11_of 22 = .ok (.iconst (-1), 1) := by decide +kernel
theorem dX11_of_23 : decode cX11_of 23 = .ok (.ireturn, 1) := by decide +kernel
theorem dX11_head_0 : decode cX11_head 0 = .ok (.aload_n 0, 1) := by decide +kernel
theorem dX11_head_1 : decode cX11_head 1 = .ok (.getfield 10, 3) := by decide +kernel
theorem dX11_head_4 : decode cX11_head 4 = .ok (.getfield 207, 3) := by decide +kernel
theorem dX11_head_7 : decode cX11_head 7 = .ok (.iload_n 1, 1) := by decide +kernel
theorem dX11_head_8 : decode cX11_head 8 = .ok (.iload_n 2, 1) := by decide +kernel
theorem dX11_head_9 : decode cX11_head 9 = .ok (.invokevirtual 211, 3) := by decide +kernel
theorem dX11_head_12 : decode cX11_head 12 = .ok (.ireturn, 1) := by decide +kernel
theorem dX11_move_0 : decode cX11_move 0 = .ok (.aload_n 0, 1) := by decide +kernel
theorem dX11_move_1 : decode cX11_move 1 = .ok (.getfield 10, 3) := by decide +kernel
theorem dX11_move_4 : decode cX11_move 4 = .ok (.getfield 130, 3) := by decide +kernel
theorem dX11_move_7 : decode cX11_move 7 = .ok (.astore_n 3, 1) := by decide +kernel
theorem dX11_move_8 : decode cX11_move 8 = .ok (.iload_n 1, 1) := by decide +kernel
theorem dX11_move_9 : decode cX11_move 9 = .ok (.iconst (-1), 1) := by decide +kernel
theorem dX11_move_10 : decode cX11_move 10 = .ok (.if_icmp .ne 8, 3) := by decide +kernel
theorem dX11_move_13 : decode cX11_move 13 = .ok (.aload_n 3, 1) := by decide +kernel
theorem dX11_move_14 : decode cX11_move 14 = .ok (.getfield 143, 3) := by decide +kernel
theorem dX11_move_17 : decode cX11_move 17 = .ok (.ireturn, 1) := by decide +kernel
theorem dX11_move_18 : decode cX11_move 18 = .ok (.iload_n 1, 1) := by decide +kernel
theorem dX11_move_19 : decode cX11_move 19 = .ok (.ifCond .lt 11, 3) := by decide +kernel
theorem dX11_move_22 : decode cX11_move 22 = .ok (.iload_n 1, 1) := by decide +kernel
theorem dX11_move_23 : decode cX11_move 23 = .ok (.aload_n 3, 1) := by decide +kernel
theorem dX11_move_24 : decode cX11_move 24 = .ok (.getfield 143, 3) := by decide +kernel
theorem dX11_move_27 : decode cX11_move 27 = .ok (.if_icmp .lt 6, 3) := by decide +kernel
theorem dX11_move_30 : decode cX11_move 30 = .ok (.bipush (-2), 2) := by decide +kernel
theorem dX11_move_32 : decode cX11_move 32 = .ok (.ireturn, 1) := by decide +kernel
theorem dX11_move_33 : decode cX11_move 33 = .ok (.iload_n 2, 1) := by decide +kernel
theorem dX11_move_34 : decode cX11_move 34 = .ok (.iconst 3, 1) := by decide +kernel
theorem dX11_move_35 : decode cX11_move 35 = .ok (.if_icmp .ne 14, 3) := by decide +kernel
theorem dX11_move_38 : decode cX11_move 38 = .ok (.aload_n 0, 1) := by decide +kernel
theorem dX11_move_39 : decode cX11_move 39 = .ok (.getfield 10, 3) := by decide +kernel
theorem dX11_move_42 : decode cX11_move 42 = .ok (.iload_n 1, 1) := by decide +kernel
theorem dX11_move_43 : decode cX11_move 43 = .ok (.invokevirtual 214, 3) := by decide +kernel
theorem dX11_move_46 : decode cX11_move 46 = .ok (.goto 9, 3) := by decide +kernel
theorem dX11_move_49 : decode cX11_move 49 = .ok (.aload_n 3, 1) := by decide +kernel
theorem dX11_move_50 : decode cX11_move 50 = .ok (.iload_n 1, 1) := by decide +kernel
theorem dX11_move_51 : decode cX11_move 51 = .ok (.iload_n 2, 1) := by decide +kernel
theorem dX11_move_52 : decode cX11_move 52 = .ok (.invokevirtual 217, 3) := by decide +kernel
theorem dX11_move_55 : decode cX11_move 55 = .ok (.ireturn, 1) := by decide +kernel
theorem dX11_moveOf_0 : decode cX11_moveOf 0 = .ok (.aload_n 0, 1) := by decide +kernel
theorem dX11_moveOf_1 : decode cX11_moveOf 1 = .ok (.getfield 10, 3) := by decide +kernel
theorem dX11_moveOf_4 : decode cX11_moveOf 4 = .ok (.getfield 130, 3) := by decide +kernel
theorem dX11_moveOf_7 : decode cX11_moveOf 7 = .ok (.iload_n 1, 1) := by decide +kernel
theorem dX11_moveOf_8 : decode cX11_moveOf 8 = .ok (.invokevirtual 134, 3) := by decide +kernel
theorem dX11_moveOf_11 : decode cX11_moveOf 11 = .ok (.ireturn, 1) := by decide +kernel
theorem dX11_plan_0 : decode cX11_plan 0 = .ok (.aload_n 0, 1) := by decide +kernel
theorem dX11_plan_1 : decode cX11_plan 1 = .ok (.getfield 29, 3) := by decide +kernel
theorem dX11_plan_4 : decode cX11_plan 4 = .ok (.aload_n 0, 1) := by decide +kernel
theorem dX11_plan_5 : decode cX11_plan 5 = .ok (.getfield 10, 3) := by decide +kernel
theorem dX11_plan_8 : decode cX11_plan 8 = .ok (.aload_n 0, 1) := by decide +kernel
theorem dX11_plan_9 : decode cX11_plan 9 = .ok (.getfield 10, 3) := by decide +kernel
theorem dX11_plan_12 : decode cX11_plan 12 = .ok (.getfield 113, 3) := by decide +kernel
theorem dX11_plan_15 : decode cX11_plan 15 = .ok (.iconst 5, 1) := by decide +kernel
theorem dX11_plan_16 : decode cX11_plan 16 = .ok (.iaload, 1) := by decide +kernel
theorem dX11_plan_17 : decode cX11_plan 17 = .ok (.invokevirtual 218, 3) := by decide +kernel
theorem dX11_plan_20 : decode cX11_plan 20 = .ok (.aload_n 0, 1) := by decide +kernel
theorem dX11_plan_21 : decode cX11_plan 21 = .ok (.getfield 29, 3) := by decide +kernel
theorem dX11_plan_24 : decode cX11_plan 24 = .ok (.getfield 222, 3) := by decide +kernel
theorem dX11_plan_27 : decode cX11_plan 27 = .ok (.ireturn, 1) := by decide +kernel
theorem dX11_worth_0 : decode cX11_worth 0 = .ok (.iload_n 1, 1) := by decide +kernel
theorem dX11_worth_1 : decode cX11_worth 1 = .ok (.ifCond .lt 9, 3) := by decide +kernel
theorem dX11_worth_4 : decode cX11_worth 4 = .ok (.iload_n 1, 1) := by decide +kernel
theorem dX11_worth_5 : decode cX11_worth 5 = .ok (.bipush 12, 2) := by decide +kernel
theorem dX11_worth_7 : decode cX11_worth 7 = .ok (.if_icmp .le 6, 3) := by decide +kernel
theorem dX11_worth_10 : decode cX11_worth 10 = .ok (.ldc 225, 2) := by decide +kernel
theorem dX11_worth_12 : decode cX11_worth 12 = .ok (.ireturn, 1) := by decide +kernel
theorem dX11_worth_13 : decode cX11_worth 13 = .ok (.aload_n 0, 1) := by decide +kernel
theorem dX11_worth_14 : decode cX11_worth 14 = .ok (.getfield 29, 3) := by decide +kernel
theorem dX11_worth_17 : decode cX11_worth 17 = .ok (.aload_n 0, 1) := by decide +kernel
theorem dX11_worth_18 : decode cX11_worth 18 = .ok (.getfield 10, 3) := by decide +kernel
theorem dX11_worth_21 : decode cX11_worth 21 = .ok (.iload_n 1, 1) := by decide +kernel
theorem dX11_worth_22 : decode cX11_worth 22 = .ok (.invokevirtual 218, 3) := by decide +kernel
theorem dX11_worth_25 : decode cX11_worth 25 = .ok (.aload_n 0, 1) := by decide +kernel
theorem dX11_worth_26 : decode cX11_worth 26 = .ok (.getfield 29, 3) := by decide +kernel
theorem dX11_worth_29 : decode cX11_worth 29 = .ok (.getfield 226, 3) := by decide +kernel
theorem dX11_worth_32 : decode cX11_worth 32 = .ok (.ireturn, 1) := by decide +kernel
theorem dX11_value_0 : decode cX11_value 0 = .ok (.aload_n 0, 1) := by decide +kernel
theorem dX11_value_1 : decode cX11_value 1 = .ok (.getfield 29, 3) := by decide +kernel
theorem dX11_value_4 : decode cX11_value 4 = .ok (.aload_n 0, 1) := by decide +kernel
theorem dX11_value_5 : decode cX11_value 5 = .ok (.getfield 10, 3) := by decide +kernel
theorem dX11_value_8 : decode cX11_value 8 = .ok (.aload_n 0, 1) := by decide +kernel
theorem dX11_value_9 : decode cX11_value 9 = .ok (.getfield 10, 3) := by decide +kernel
theorem dX11_value_12 : decode cX11_value 12 = .ok (.getfield 113, 3) := by decide +kernel
theorem dX11_value_15 : decode cX11_value 15 = .ok (.iconst 5, 1) := by decide +kernel
theorem dX11_value_16 : decode cX11_value 16 = .ok (.iaload, 1) := by decide +kernel
theorem dX11_value_17 : decode cX11_value 17 = .ok (.invokevirtual 229, 3) := by decide +kernel
theorem dX11_value_20 : decode cX11_value 20 = .ok (.aload_n 0, 1) := by decide +kernel
theorem dX11_value_21 : decode cX11_value 21 = .ok (.getfield 29, 3) := by decide +kernel
theorem dX11_value_24 : decode cX11_value 24 = .ok (.iload_n 1, 1) := by decide +kernel
theorem dX11_value_25 : decode cX11_value 25 = .ok (.invokevirtual 232, 3) := by decide +kernel
theorem dX11_value_28 : decode cX11_value 28 = .ok (.ifCond .eq 14, 3) := by decide +kernel
theorem dX11_value_31 : decode cX11_value 31 = .ok (.aload_n 0, 1) := by decide +kernel
theorem dX11_value_32 : decode cX11_value 32 = .ok (.getfield 29, 3) := by decide +kernel
theorem dX11_value_35 : decode cX11_value 35 = .ok (.iload_n 1, 1) := by decide +kernel
theorem dX11_value_36 : decode cX11_value 36 = .ok (.invokevirtual 235, 3) := by decide +kernel
theorem dX11_value_39 : decode cX11_value 39 = .ok (.goto 5, 3) := by decide +kernel
theorem dX11_value_42 : decode cX11_value 42 = .ok (.ldc 225, 2) := by decide +kernel
theorem dX11_value_44 : decode cX11_value 44 = .ok (.ireturn, 1) := by decide +kernel
theorem dX11_needs_0 : decode cX11_needs 0 = .ok (.aload_n 0, 1) := by decide +kernel
theorem dX11_needs_1 : decode cX11_needs 1 = .ok (.getfield 29, 3) := by decide +kernel
theorem dX11_needs_4 : decode cX11_needs 4 = .ok (.aload_n 0, 1) := by decide +kernel
theorem dX11_needs_5 : decode cX11_needs 5 = .ok (.getfield 10, 3) := by decide +kernel
theorem dX11_needs_8 : decode cX11_needs 8 = .ok (.aload_n 0, 1) := by decide +kernel
theorem dX11_needs_9 : decode cX11_needs 9 = .ok (.getfield 10, 3) := by decide +kernel
theorem dX11_needs_12 : decode cX11_needs 12 = .ok (.getfield 113, 3) := by decide +kernel
theorem dX11_needs_15 : decode cX11_needs 15 = .ok (.iconst 5, 1) := by decide +kernel
theorem dX11_needs_16 : decode cX11_needs 16 = .ok (.iaload, 1) := by decide +kernel
theorem dX11_needs_17 : decode cX11_needs 17 = .ok (.invokevirtual 229, 3) := by decide +kernel
theorem dX11_needs_20 : decode cX11_needs 20 = .ok (.aload_n 0, 1) := by decide +kernel
theorem dX11_needs_21 : decode cX11_needs 21 = .ok (.getfield 29, 3) := by decide +kernel
theorem dX11_needs_24 : decode cX11_needs 24 = .ok (.iload_n 1, 1) := by decide +kernel
theorem dX11_needs_25 : decode cX11_needs 25 = .ok (.invokevirtual 232, 3) := by decide +kernel
theorem dX11_needs_28 : decode cX11_needs 28 = .ok (.ifCond .eq 14, 3) := by decide +kernel
theorem dX11_needs_31 : decode cX11_needs 31 = .ok (.aload_n 0, 1) := by decide +kernel
theorem dX11_needs_32 : decode cX11_needs 32 = .ok (.getfield 29, 3) := by decide +kernel
theorem dX11_needs_35 : decode cX11_needs 35 = .ok (.iload_n 1, 1) := by decide +kernel
theorem dX11_needs_36 : decode cX11_needs 36 = .ok (.invokevirtual 238, 3) := by decide +kernel
theorem dX11_needs_39 : decode cX11_needs 39 = .ok (.goto 4, 3) := by decide +kernel
theorem dX11_needs_42 : decode cX11_needs 42 = .ok (.iconst (-1), 1) := by decide +kernel
theorem dX11_needs_43 : decode cX11_needs 43 = .ok (.ireturn, 1) := by decide +kernel
theorem dX11_threshold_0 : decode cX11_threshold 0 = .ok (.iload_n 1, 1) := by decide +kernel
theorem dX11_threshold_1 : decode cX11_threshold 1 = .ok (.invokestatic 109, 3) := by decide +kernel
theorem dX11_threshold_4 : decode cX11_threshold 4 = .ok (.ifCond .eq 18, 3) := by decide +kernel
theorem dX11_threshold_7 : decode cX11_threshold 7 = .ok (.aload_n 0, 1) := by decide +kernel
theorem dX11_threshold_8 : decode cX11_threshold 8 = .ok (.getfield 29, 3) := by decide +kernel
theorem dX11_threshold_11 : decode cX11_threshold 11 = .ok (.aload_n 0, 1) := by decide +kernel
theorem dX11_threshold_12 : decode cX11_threshold 12 = .ok (.getfield 10, 3) := by decide +kernel
theorem dX11_threshold_15 : decode cX11_threshold 15 = .ok (.iload_n 1, 1) := by decide +kernel
theorem dX11_threshold_16 : decode cX11_threshold 16 = .ok (.invokevirtual 241, 3) := by decide +kernel
theorem dX11_threshold_19 : decode cX11_threshold 19 = .ok (.goto 4, 3) := by decide +kernel
theorem dX11_threshold_22 : decode cX11_threshold 22 = .ok (.iconst (-1), 1) := by decide +kernel
theorem dX11_threshold_23 : decode cX11_threshold 23 = .ok (.ireturn, 1) := by decide +kernel
theorem dX11_displaced_0 : decode cX11_displaced 0 = .ok (.iload_n 1, 1) := by decide +kernel
theorem dX11_displaced_1 : decode cX11_displaced 1 = .ok (.invokestatic 109, 3) := by decide +kernel
theorem dX11_displaced_4 : decode cX11_displaced 4 = .ok (.ifCond .eq 19, 3) := by decide +kernel
theorem dX11_displaced_7 : decode cX11_displaced 7 = .ok (.aload_n 0, 1) := by decide +kernel
theorem dX11_displaced_8 : decode cX11_displaced 8 = .ok (.getfield 29, 3) := by decide +kernel
theorem dX11_displaced_11 : decode cX11_displaced 11 = .ok (.aload_n 0, 1) := by decide +kernel
theorem dX11_displaced_12 : decode cX11_displaced 12 = .ok (.getfield 10, 3) := by decide +kernel
theorem dX11_displaced_15 : decode cX11_displaced 15 = .ok (.iload_n 1, 1) := by decide +kernel
theorem dX11_displaced_16 : decode cX11_displaced 16 = .ok (.invokevirtual 241, 3) := by decide +kernel
theorem dX11_displaced_19 : decode cX11_displaced 19 = .ok (.iconst (-1), 1) := by decide +kernel
theorem dX11_displaced_20 : decode cX11_displaced 20 = .ok (.if_icmp .ne 5, 3) := by decide +kernel
theorem dX11_displaced_23 : decode cX11_displaced 23 = .ok (.iconst (-1), 1) := by decide +kernel
theorem dX11_displaced_24 : decode cX11_displaced 24 = .ok (.ireturn, 1) := by decide +kernel
theorem dX11_displaced_25 : decode cX11_displaced 25 = .ok (.aload_n 0, 1) := by decide +kernel
theorem dX11_displaced_26 : decode cX11_displaced 26 = .ok (.getfield 29, 3) := by decide +kernel
theorem dX11_displaced_29 : decode cX11_displaced 29 = .ok (.getfield 222, 3) := by decide +kernel
theorem dX11_displaced_32 : decode cX11_displaced 32 = .ok (.istore_n 2, 1) := by decide +kernel
theorem dX11_displaced_33 : decode cX11_displaced 33 = .ok (.aload_n 0, 1) := by decide +kernel
theorem dX11_displaced_34 : decode cX11_displaced 34 = .ok (.getfield 29, 3) := by decide +kernel
theorem dX11_displaced_37 : decode cX11_displaced 37 = .ok (.aload_n 0, 1) := by decide +kernel
theorem dX11_displaced_38 : decode cX11_displaced 38 = .ok (.getfield 10, 3) := by decide +kernel
theorem dX11_displaced_41 : decode cX11_displaced 41 = .ok (.aload_n 0, 1) := by decide +kernel
theorem dX11_displaced_42 : decode cX11_displaced 42 = .ok (.getfield 10, 3) := by decide +kernel
theorem dX11_displaced_45 : decode cX11_displaced 45 = .ok (.getfield 113, 3) := by decide +kernel
theorem dX11_displaced_48 : decode cX11_displaced 48 = .ok (.iconst 5, 1) := by decide +kernel
theorem dX11_displaced_49 : decode cX11_displaced 49 = .ok (.iaload, 1) := by decide +kernel
theorem dX11_displaced_50 : decode cX11_displaced 50 = .ok (.invokevirtual 218, 3) := by decide +kernel
theorem dX11_displaced_53 : decode cX11_displaced 53 = .ok (.aload_n 0, 1) := by decide +kernel
theorem dX11_displaced_54 : decode cX11_displaced 54 = .ok (.getfield 29, 3) := by decide +kernel
theorem dX11_displaced_57 : decode cX11_displaced 57 = .ok (.getfield 222, 3) := by decide +kernel
theorem dX11_displaced_60 : decode cX11_displaced 60 = .ok (.iload_n 2, 1) := by decide +kernel
theorem dX11_displaced_61 : decode cX11_displaced 61 = .ok (.iconst (-1), 1) := by decide +kernel
theorem dX11_displaced_62 : decode cX11_displaced 62 = .ok (.ixor, 1) := by decide +kernel
theorem dX11_displaced_63 : decode cX11_displaced 63 = .ok (.iand, 1) := by decide +kernel
theorem dX11_displaced_64 : decode cX11_displaced 64 = .ok (.ireturn, 1) := by decide +kernel
theorem dX11_may_0 : decode cX11_may 0 = .ok (.iload_n 1, 1) := by decide +kernel
theorem dX11_may_1 : decode cX11_may 1 = .ok (.invokestatic 109, 3) := by decide +kernel
theorem dX11_may_4 : decode cX11_may 4 = .ok (.ifCond .ne 5, 3) := by decide +kernel
theorem dX11_may_7 : decode cX11_may 7 = .ok (.iconst 0, 1) := by decide +kernel
theorem dX11_may_8 : decode cX11_may 8 = .ok (.ireturn, 1) := by decide +kernel
theorem dX11_may_9 : decode cX11_may 9 = .ok (.aload_n 0, 1) := by decide +kernel
theorem dX11_may_10 : decode cX11_may 10 = .ok (.getfield 29, 3) := by decide +kernel
theorem dX11_may_13 : decode cX11_may 13 = .ok (.aload_n 0, 1) := by decide +kernel
theorem dX11_may_14 : decode cX11_may 14 = .ok (.getfield 10, 3) := by decide +kernel
theorem dX11_may_17 : decode cX11_may 17 = .ok (.aload_n 0, 1) := by decide +kernel
theorem dX11_may_18 : decode cX11_may 18 = .ok (.getfield 10, 3) := by decide +kernel
theorem dX11_may_21 : decode cX11_may 21 = .ok (.getfield 113, 3) := by decide +kernel
theorem dX11_may_24 : decode cX11_may 24 = .ok (.iconst 5, 1) := by decide +kernel
theorem dX11_may_25 : decode cX11_may 25 = .ok (.iaload, 1) := by decide +kernel
theorem dX11_may_26 : decode cX11_may 26 = .ok (.invokevirtual 229, 3) := by decide +kernel
theorem dX11_may_29 : decode cX11_may 29 = .ok (.aload_n 0, 1) := by decide +kernel
theorem dX11_may_30 : decode cX11_may 30 = .ok (.getfield 29, 3) := by decide +kernel
theorem dX11_may_33 : decode cX11_may 33 = .ok (.iload_n 1, 1) := by decide +kernel
theorem dX11_may_34 : decode cX11_may 34 = .ok (.iload_n 2, 1) := by decide +kernel
theorem dX11_may_35 : decode cX11_may 35 = .ok (.invokevirtual 245, 3) := by decide +kernel
theorem dX11_may_38 : decode cX11_may 38 = .ok (.aload_n 0, 1) := by decide +kernel
theorem dX11_may_39 : decode cX11_may 39 = .ok (.getfield 29, 3) := by decide +kernel
theorem dX11_may_42 : decode cX11_may 42 = .ok (.invokevirtual 249, 3) := by decide +kernel
theorem dX11_may_45 : decode cX11_may 45 = .ok (.ireturn, 1) := by decide +kernel
theorem dX11_next_0 : decode cX11_next 0 = .ok (.aload_n 0, 1) := by decide +kernel
theorem dX11_next_1 : decode cX11_next 1 = .ok (.getfield 29, 3) := by decide +kernel
theorem dX11_next_4 : decode cX11_next 4 = .ok (.aload_n 0, 1) := by decide +kernel
theorem dX11_next_5 : decode cX11_next 5 = .ok (.getfield 10, 3) := by decide +kernel
theorem dX11_next_8 : decode cX11_next 8 = .ok (.aload_n 0, 1) := by decide +kernel
theorem dX11_next_9 : decode cX11_next 9 = .ok (.getfield 10, 3) := by decide +kernel
theorem dX11_next_12 : decode cX11_next 12 = .ok (.getfield 113, 3) := by decide +kernel
theorem dX11_next_15 : decode cX11_next 15 = .ok (.iconst 5, 1) := by decide +kernel
theorem dX11_next_16 : decode cX11_next 16 = .ok (.iaload, 1) := by decide +kernel
theorem dX11_next_17 : decode cX11_next 17 = .ok (.invokevirtual 218, 3) := by decide +kernel
theorem dX11_next_20 : decode cX11_next 20 = .ok (.aload_n 0, 1) := by decide +kernel
theorem dX11_next_21 : decode cX11_next 21 = .ok (.getfield 29, 3) := by decide +kernel
theorem dX11_next_24 : decode cX11_next 24 = .ok (.aload_n 0, 1) := by decide +kernel
theorem dX11_next_25 : decode cX11_next 25 = .ok (.getfield 10, 3) := by decide +kernel
theorem dX11_next_28 : decode cX11_next 28 = .ok (.getfield 99, 3) := by decide +kernel
theorem dX11_next_31 : decode cX11_next 31 = .ok (.invokevirtual 253, 3) := by decide +kernel
theorem dX11_next_34 : decode cX11_next 34 = .ok (.iload_n 1, 1) := by decide +kernel
theorem dX11_next_35 : decode cX11_next 35 = .ok (.iconst (-1), 1) := by decide +kernel
theorem dX11_next_36 : decode cX11_next 36 = .ok (.if_icmp .ne 11, 3) := by decide +kernel
theorem dX11_next_39 : decode cX11_next 39 = .ok (.aload_n 0, 1) := by decide +kernel
theorem dX11_next_40 : decode cX11_next 40 = .ok (.getfield 29, 3) := by decide +kernel
theorem dX11_next_43 : decode cX11_next 43 = .ok (.getfield 257, 3) := by decide +kernel
theorem dX11_next_46 : decode cX11_next 46 = .ok (.ireturn, 1) := by decide +kernel
theorem dX11_next_47 : decode cX11_next 47 = .ok (.iload_n 1, 1) := by decide +kernel
theorem dX11_next_48 : decode cX11_next 48 = .ok (.ifCond .lt 26, 3) := by decide +kernel
theorem dX11_next_51 : decode cX11_next 51 = .ok (.iload_n 1, 1) := by decide +kernel
theorem dX11_next_52 : decode cX11_next 52 = .ok (.aload_n 0, 1) := by decide +kernel
theorem dX11_next_53 : decode cX11_next 53 = .ok (.getfield 29, 3) := by decide +kernel
theorem dX11_next_56 : decode cX11_next 56 = .ok (.getfield 257, 3) := by decide +kernel
theorem dX11_next_59 : decode cX11_next 59 = .ok (.if_icmp .ge 15, 3) := by decide +kernel
theorem dX11_next_62 : decode cX11_next 62 = .ok (.aload_n 0, 1) := by decide +kernel
theorem dX11_next_63 : decode cX11_next 63 = .ok (.getfield 29, 3) := by decide +kernel
theorem dX11_next_66 : decode cX11_next 66 = .ok (.getfield 260, 3) := by decide +kernel
theorem dX11_next_69 : decode cX11_next 69 = .ok (.iload_n 1, 1) := by decide +kernel
theorem dX11_next_70 : decode cX11_next 70 = .ok (.iaload, 1) := by decide +kernel
theorem dX11_next_71 : decode cX11_next 71 = .ok (.goto 5, 3) := by decide +kernel
theorem dX11_next_74 : decode cX11_next 74 = .ok (.bipush (-2), 2) := by decide +kernel
theorem dX11_next_76 : decode cX11_next 76 = .ok (.ireturn, 1) := by decide +kernel
theorem dX11_enough_0 : decode cX11_enough 0 = .ok (.aload_n 0, 1) := by decide +kernel
theorem dX11_enough_1 : decode cX11_enough 1 = .ok (.getfield 29, 3) := by decide +kernel
theorem dX11_enough_4 : decode cX11_enough 4 = .ok (.aload_n 0, 1) := by decide +kernel
theorem dX11_enough_5 : decode cX11_enough 5 = .ok (.getfield 10, 3) := by decide +kernel
theorem dX11_enough_8 : decode cX11_enough 8 = .ok (.bipush 12, 2) := by decide +kernel
theorem dX11_enough_10 : decode cX11_enough 10 = .ok (.invokevirtual 218, 3) := by decide +kernel
theorem dX11_enough_13 : decode cX11_enough 13 = .ok (.aload_n 0, 1) := by decide +kernel
theorem dX11_enough_14 : decode cX11_enough 14 = .ok (.getfield 29, 3) := by decide +kernel
theorem dX11_enough_17 : decode cX11_enough 17 = .ok (.getfield 226, 3) := by decide +kernel
theorem dX11_enough_20 : decode cX11_enough 20 = .ok (.istore_n 1, 1) := by decide +kernel
theorem dX11_enough_21 : decode cX11_enough 21 = .ok (.iconst 0, 1) := by decide +kernel
theorem dX11_enough_22 : decode cX11_enough 22 = .ok (.istore_n 2, 1) := by decide +kernel
theorem dX11_enough_23 : decode cX11_enough 23 = .ok (.iload_n 2, 1) := by decide +kernel
theorem dX11_enough_24 : decode cX11_enough 24 = .ok (.bipush 12, 2) := by decide +kernel
theorem dX11_enough_26 : decode cX11_enough 26 = .ok (.if_icmp .ge 34, 3) := by decide +kernel
theorem dX11_enough_29 : decode cX11_enough 29 = .ok (.aload_n 0, 1) := by decide +kernel
theorem dX11_enough_30 : decode cX11_enough 30 = .ok (.getfield 29, 3) := by decide +kernel
theorem dX11_enough_33 : decode cX11_enough 33 = .ok (.aload_n 0, 1) := by decide +kernel
theorem dX11_enough_34 : decode cX11_enough 34 = .ok (.getfield 10, 3) := by decide +kernel
theorem dX11_enough_37 : decode cX11_enough 37 = .ok (.iload_n 2, 1) := by decide +kernel
theorem dX11_enough_38 : decode cX11_enough 38 = .ok (.invokevirtual 218, 3) := by decide +kernel
theorem dX11_enough_41 : decode cX11_enough 41 = .ok (.aload_n 0, 1) := by decide +kernel
theorem dX11_enough_42 : decode cX11_enough 42 = .ok (.getfield 29, 3) := by decide +kernel
theorem dX11_enough_45 : decode cX11_enough 45 = .ok (.getfield 226, 3) := by decide +kernel
theorem dX11_enough_48 : decode cX11_enough 48 = .ok (.iload_n 1, 1) := by decide +kernel
theorem dX11_enough_49 : decode cX11_enough 49 = .ok (.if_icmp .ne 5, 3) := by decide +kernel
theorem dX11_enough_52 : decode cX11_enough 52 = .ok (.iload_n 2, 1) := by decide +kernel
theorem dX11_enough_53 : decode cX11_enough 53 = .ok (.ireturn, 1) := by decide +kernel
theorem dX11_enough_54 : decode cX11_enough 54 = .ok (.iinc 2 1, 3) := by decide +kernel
theorem dX11_enough_57 : decode cX11_enough 57 = .ok (.goto (-34), 3) := by decide +kernel
theorem dX11_enough_60 : decode cX11_enough 60 = .ok (.bipush 12, 2) := by decide +kernel
theorem dX11_enough_62 : decode cX11_enough 62 = .ok (.ireturn, 1) := by decide +kernel
theorem dX11_gained_0 : decode cX11_gained 0 = .ok (.iload_n 1, 1) := by decide +kernel
theorem dX11_gained_1 : decode cX11_gained 1 = .ok (.invokestatic 109, 3) := by decide +kernel
theorem dX11_gained_4 : decode cX11_gained 4 = .ok (.ifCond .eq 18, 3) := by decide +kernel
theorem dX11_gained_7 : decode cX11_gained 7 = .ok (.aload_n 0, 1) := by decide +kernel
theorem dX11_gained_8 : decode cX11_gained 8 = .ok (.getfield 10, 3) := by decide +kernel
theorem dX11_gained_11 : decode cX11_gained 11 = .ok (.getfield 99, 3) := by decide +kernel
theorem dX11_gained_14 : decode cX11_gained 14 = .ok (.getfield 103, 3) := by decide +kernel
theorem dX11_gained_17 : decode cX11_gained 17 = .ok (.iload_n 1, 1) := by decide +kernel
theorem dX11_gained_18 : decode cX11_gained 18 = .ok (.iaload, 1) := by decide +kernel
theorem dX11_gained_19 : decode cX11_gained 19 = .ok (.ifCond .ne 6, 3) := by decide +kernel
theorem dX11_gained_22 : decode cX11_gained 22 = .ok (.ldc 225, 2) := by decide +kernel
theorem dX11_gained_24 : decode cX11_gained 24 = .ok (.ireturn, 1) := by decide +kernel
theorem dX11_gained_25 : decode cX11_gained 25 = .ok (.aload_n 0, 1) := by decide +kernel
theorem dX11_gained_26 : decode cX11_gained 26 = .ok (.getfield 10, 3) := by decide +kernel
theorem dX11_gained_29 : decode cX11_gained 29 = .ok (.getfield 99, 3) := by decide +kernel
theorem dX11_gained_32 : decode cX11_gained 32 = .ok (.getfield 263, 3) := by decide +kernel
theorem dX11_gained_35 : decode cX11_gained 35 = .ok (.iload_n 1, 1) := by decide +kernel
theorem dX11_gained_36 : decode cX11_gained 36 = .ok (.iaload, 1) := by decide +kernel
theorem dX11_gained_37 : decode cX11_gained 37 = .ok (.bipush 9, 2) := by decide +kernel
theorem dX11_gained_39 : decode cX11_gained 39 = .ok (.getstatic 266, 3) := by decide +kernel
theorem dX11_gained_42 : decode cX11_gained 42 = .ok (.iload_n 1, 1) := by decide +kernel
theorem dX11_gained_43 : decode cX11_gained 43 = .ok (.iaload, 1) := by decide +kernel
theorem dX11_gained_44 : decode cX11_gained 44 = .ok (.imul, 1) := by decide +kernel
theorem dX11_gained_45 : decode cX11_gained 45 = .ok (.isub, 1) := by decide +kernel
theorem dX11_gained_46 : decode cX11_gained 46 = .ok (.ireturn, 1) := by decide +kernel
theorem dX11_foretold_0 : decode cX11_foretold 0 = .ok (.iload_n 1, 1) := by decide +kernel
theorem dX11_foretold_1 : decode cX11_foretold 1 = .ok (.invokestatic 149, 3) := by decide +kernel
theorem dX11_foretold_4 : decode cX11_foretold 4 = .ok (.ifCond .eq 10, 3) := by decide +kernel
theorem dX11_foretold_7 : decode cX11_foretold 7 = .ok (.iload_n 2, 1) := by decide +kernel
theorem dX11_foretold_8 : decode cX11_foretold 8 = .ok (.invokestatic 109, 3) := by decide +kernel
theorem dX11_foretold_11 : decode cX11_foretold 11 = .ok (.ifCond .ne 5, 3) := by decide +kernel
theorem dX11_foretold_14 : decode cX11_foretold 14 = .ok (.iconst (-1), 1) := by decide +kernel
theorem dX11_foretold_15 : decode cX11_foretold 15 = .ok (.ireturn, 1) := by decide +kernel
theorem dX11_foretold_16 : decode cX11_foretold 16 = .ok (.aload_n 0, 1) := by decide +kernel
theorem dX11_foretold_17 : decode cX11_foretold 17 = .ok (.getfield 16, 3) := by decide +kernel
theorem dX11_foretold_20 : decode cX11_foretold 20 = .ok (.aload_n 0, 1) := by decide +kernel
theorem dX11_foretold_21 : decode cX11_foretold 21 = .ok (.getfield 10, 3) := by decide +kernel
theorem dX11_foretold_24 : decode cX11_foretold 24 = .ok (.invokevirtual 269, 3) := by decide +kernel
theorem dX11_foretold_27 : decode cX11_foretold 27 = .ok (.aload_n 0, 1) := by decide +kernel
theorem dX11_foretold_28 : decode cX11_foretold 28 = .ok (.getfield 16, 3) := by decide +kernel
theorem dX11_foretold_31 : decode cX11_foretold 31 = .ok (.iload_n 1, 1) := by decide +kernel
theorem dX11_foretold_32 : decode cX11_foretold 32 = .ok (.aload_n 0, 1) := by decide +kernel
theorem dX11_foretold_33 : decode cX11_foretold 33 = .ok (.getfield 29, 3) := by decide +kernel
theorem dX11_foretold_36 : decode cX11_foretold 36 = .ok (.invokevirtual 152, 3) := by decide +kernel
theorem dX11_foretold_39 : decode cX11_foretold 39 = .ok (.aload_n 0, 1) := by decide +kernel
theorem dX11_foretold_40 : decode cX11_foretold 40 = .ok (.getfield 16, 3) := by decide +kernel
theorem dX11_foretold_43 : decode cX11_foretold 43 = .ok (.getfield 99, 3) := by decide +kernel
theorem dX11_foretold_46 : decode cX11_foretold 46 = .ok (.getfield 103, 3) := by decide +kernel
theorem dX11_foretold_49 : decode cX11_foretold 49 = .ok (.iload_n 2, 1) := by decide +kernel
theorem dX11_foretold_50 : decode cX11_foretold 50 = .ok (.iaload, 1) := by decide +kernel
theorem dX11_foretold_51 : decode cX11_foretold 51 = .ok (.ireturn, 1) := by decide +kernel
theorem dX11_copies_0 : decode cX11_copies 0 = .ok (.iload_n 1, 1) := by decide +kernel
theorem dX11_copies_1 : decode cX11_copies 1 = .ok (.invokestatic 149, 3) := by decide +kernel
theorem dX11_copies_4 : decode cX11_copies 4 = .ok (.ifCond .ne 5, 3) := by decide +kernel
theorem dX11_copies_7 : decode cX11_copies 7 = .ok (.iconst (-1), 1) := by decide +kernel
theorem dX11_copies_8 : decode cX11_copies 8 = .ok (.ireturn, 1) := by decide +kernel
theorem dX11_copies_9 : decode cX11_copies 9 = .ok (.aload_n 0, 1) := by decide +kernel
theorem dX11_copies_10 : decode cX11_copies 10 = .ok (.getfield 16, 3) := by decide +kernel
theorem dX11_copies_13 : decode cX11_copies 13 = .ok (.aload_n 0, 1) := by decide +kernel
theorem dX11_copies_14 : decode cX11_copies 14 = .ok (.getfield 10, 3) := by decide +kernel
theorem dX11_copies_17 : decode cX11_copies 17 = .ok (.invokevirtual 269, 3) := by decide +kernel
theorem dX11_copies_20 : decode cX11_copies 20 = .ok (.aload_n 0, 1) := by decide +kernel
theorem dX11_copies_21 : decode cX11_copies 21 = .ok (.getfield 16, 3) := by decide +kernel
theorem dX11_copies_24 : decode cX11_copies 24 = .ok (.iload_n 1, 1) := by decide +kernel
theorem dX11_copies_25 : decode cX11_copies 25 = .ok (.aload_n 0, 1) := by decide +kernel
theorem dX11_copies_26 : decode cX11_copies 26 = .ok (.getfield 29, 3) := by decide +kernel
theorem dX11_copies_29 : decode cX11_copies 29 = .ok (.invokevirtual 152, 3) := by decide +kernel
theorem dX11_copies_32 : decode cX11_copies 32 = .ok (.aload_n 0, 1) := by decide +kernel
theorem dX11_copies_33 : decode cX11_copies 33 = .ok (.getfield 16, 3) := by decide +kernel
theorem dX11_copies_36 : decode cX11_copies 36 = .ok (.getfield 113, 3) := by decide +kernel
theorem dX11_copies_39 : decode cX11_copies 39 = .ok (.bipush 10, 2) := by decide +kernel
theorem dX11_copies_41 : decode cX11_copies 41 = .ok (.iaload, 1) := by decide +kernel
theorem dX11_copies_42 : decode cX11_copies 42 = .ok (.aload_n 0, 1) := by decide +kernel
theorem dX11_copies_43 : decode cX11_copies 43 = .ok (.getfield 10, 3) := by decide +kernel
theorem dX11_copies_46 : decode cX11_copies 46 = .ok (.getfield 113, 3) := by decide +kernel
theorem dX11_copies_49 : decode cX11_copies 49 = .ok (.bipush 10, 2) := by decide +kernel
theorem dX11_copies_51 : decode cX11_copies 51 = .ok (.iaload, 1) := by decide +kernel
theorem dX11_copies_52 : decode cX11_copies 52 = .ok (.isub, 1) := by decide +kernel
theorem dX11_copies_53 : decode cX11_copies 53 = .ok (.ireturn, 1) := by decide +kernel
theorem dX11_would_0 : decode cX11_would 0 = .ok (.aload_n 0, 1) := by decide +kernel
theorem dX11_would_1 : decode cX11_would 1 = .ok (.iload_n 1, 1) := by decide +kernel
theorem dX11_would_2 : decode cX11_would 2 = .ok (.invokevirtual 160, 3) := by decide +kernel
theorem dX11_would_5 : decode cX11_would 5 = .ok (.astore_n 2, 1) := by decide +kernel
theorem dX11_would_6 : decode cX11_would 6 = .ok (.aload_n 2, 1) := by decide +kernel
theorem dX11_would_7 : decode cX11_would 7 = .ok (.ifnonnull 5, 3) := by decide +kernel
theorem dX11_would_10 : decode cX11_would 10 = .ok (.iconst (-1), 1) := by decide +kernel
theorem dX11_would_11 : decode cX11_would 11 = .ok (.ireturn, 1) := by decide +kernel
theorem dX11_would_12 : decode cX11_would 12 = .ok (.aload_n 0, 1) := by decide +kernel
theorem dX11_would_13 : decode cX11_would 13 = .ok (.getfield 16, 3) := by decide +kernel
theorem dX11_would_16 : decode cX11_would 16 = .ok (.aload_n 0, 1) := by decide +kernel
theorem dX11_would_17 : decode cX11_would 17 = .ok (.getfield 10, 3) := by decide +kernel
theorem dX11_would_20 : decode cX11_would 20 = .ok (.invokevirtual 269, 3) := by decide +kernel
theorem dX11_would_23 : decode cX11_would 23 = .ok (.aload_n 0, 1) := by decide +kernel
theorem dX11_would_24 : decode cX11_would 24 = .ok (.getfield 36, 3) := by decide +kernel
theorem dX11_would_27 : decode cX11_would 27 = .ok (.aload_n 2, 1) := by decide +kernel
theorem dX11_would_28 : decode cX11_would 28 = .ok (.aload_n 0, 1) := by decide +kernel
theorem dX11_would_29 : decode cX11_would 29 = .ok (.getfield 16, 3) := by decide +kernel
theorem dX11_would_32 : decode cX11_would 32 = .ok (.aload_n 0, 1) := by decide +kernel
theorem dX11_would_33 : decode cX11_would 33 = .ok (.getfield 29, 3) := by decide +kernel
theorem dX11_would_36 : decode cX11_would 36 = .ok (.invokevirtual 164, 3) := by decide +kernel
theorem dX11_would_39 : decode cX11_would 39 = .ok (.pop, 1) := by decide +kernel
theorem dX11_would_40 : decode cX11_would 40 = .ok (.aload_n 0, 1) := by decide +kernel
theorem dX11_would_41 : decode cX11_would 41 = .ok (.getfield 16, 3) := by decide +kernel
theorem dX11_would_44 : decode cX11_would 44 = .ok (.getfield 113, 3) := by decide +kernel
theorem dX11_would_47 : decode cX11_would 47 = .ok (.iconst 3, 1) := by decide +kernel
theorem dX11_would_48 : decode cX11_would 48 = .ok (.iaload, 1) := by decide +kernel
theorem dX11_would_49 : decode cX11_would 49 = .ok (.aload_n 0, 1) := by decide +kernel
theorem dX11_would_50 : decode cX11_would 50 = .ok (.getfield 10, 3) := by decide +kernel
theorem dX11_would_53 : decode cX11_would 53 = .ok (.getfield 113, 3) := by decide +kernel
theorem dX11_would_56 : decode cX11_would 56 = .ok (.iconst 3, 1) := by decide +kernel
theorem dX11_would_57 : decode cX11_would 57 = .ok (.iaload, 1) := by decide +kernel
theorem dX11_would_58 : decode cX11_would 58 = .ok (.isub, 1) := by decide +kernel
theorem dX11_would_59 : decode cX11_would 59 = .ok (.ireturn, 1) := by decide +kernel
theorem dX11_cheapest_0 : decode cX11_cheapest 0 = .ok (.iconst (-1), 1) := by decide +kernel
theorem dX11_cheapest_1 : decode cX11_cheapest 1 = .ok (.istore_n 1, 1) := by decide +kernel
theorem dX11_cheapest_2 : decode cX11_cheapest 2 = .ok (.iconst 0, 1) := by decide +kernel
theorem dX11_cheapest_3 : decode cX11_cheapest 3 = .ok (.istore_n 2, 1) := by decide +kernel
theorem dX11_cheapest_4 : decode cX11_cheapest 4 = .ok (.iconst 0, 1) := by decide +kernel
theorem dX11_cheapest_5 : decode cX11_cheapest 5 = .ok (.istore_n 3, 1) := by decide +kernel
theorem dX11_cheapest_6 : decode cX11_cheapest 6 = .ok (.iload_n 3, 1) := by decide +kernel
theorem dX11_cheapest_7 : decode cX11_cheapest 7 = .ok (.aload_n 0, 1) := by decide +kernel
theorem dX11_cheapest_8 : decode cX11_cheapest 8 = .ok (.getfield 53, 3) := by decide +kernel
theorem dX11_cheapest_11 : decode cX11_cheapest 11 = .ok (.if_icmp .ge 80, 3) := by decide +kernel
theorem dX11_cheapest_14 : decode cX11_cheapest 14 = .ok (.aload_n 0, 1) := by decide +kernel
theorem dX11_cheapest_15 : decode cX11_cheapest 15 = .ok (.iload_n 3, 1) := by decide +kernel
theorem dX11_cheapest_16 : decode cX11_cheapest 16 = .ok (.invokevirtual 160, 3) := by decide +kernel
theorem dX11_cheapest_19 : decode cX11_cheapest 19 = .ok (.astore 4, 2) := by decide +kernel
theorem dX11_cheapest_21 : decode cX11_cheapest 21 = .ok (.aload_n 0, 1) := by decide +kernel
theorem dX11_cheapest_22 : decode cX11_cheapest 22 = .ok (.getfield 16, 3) := by decide +kernel
theorem dX11_cheapest_25 : decode cX11_cheapest 25 = .ok (.aload_n 0, 1) := by decide +kernel
theorem dX11_cheapest_26 : decode cX11_cheapest 26 = .ok (.getfield 10, 3) := by decide +kernel
theorem dX11_cheapest_29 : decode cX11_cheapest 29 = .ok (.invokevirtual 269, 3) := by decide +kernel
theorem dX11_cheapest_32 : decode cX11_cheapest 32 = .ok (.aload 4, 2) := by decide +kernel
theorem dX11_cheapest_34 : decode cX11_cheapest 34 = .ok (.ifnull 21, 3) := by decide +kernel
theorem dX11_cheapest_37 : decode cX11_cheapest 37 = .ok (.aload_n 0, 1) := by decide +kernel
theorem dX11_cheapest_38 : decode cX11_cheapest 38 = .ok (.getfield 36, 3) := by decide +kernel
theorem dX11_cheapest_41 : decode cX11_cheapest 41 = .ok (.aload 4, 2) := by decide +kernel
theorem dX11_cheapest_43 : decode cX11_cheapest 43 = .ok (.aload_n 0, 1) := by decide +kernel
theorem dX11_cheapest_44 : decode cX11_cheapest 44 = .ok (.getfield 16, 3) := by decide +kernel
theorem dX11_cheapest_47 : decode cX11_cheapest 47 = .ok (.aload_n 0, 1) := by decide +kernel
theorem dX11_cheapest_48 : decode cX11_cheapest 48 = .ok (.getfield 29, 3) := by decide +kernel
theorem dX11_cheapest_51 : decode cX11_cheapest 51 = .ok (.invokevirtual 164, 3) := by decide +kernel
theorem dX11_cheapest_54 : decode cX11_cheapest 54 = .ok (.pop, 1) := by decide +kernel
theorem dX11_cheapest_55 : decode cX11_cheapest 55 = .ok (.iload_n 1, 1) := by decide +kernel
theorem dX11_cheapest_56 : decode cX11_cheapest 56 = .ok (.iconst (-1), 1) := by decide +kernel
theorem dX11_cheapest_57 : decode cX11_cheapest 57 = .ok (.if_icmp .eq 16, 3) := by decide +kernel
theorem dX11_cheapest_60 : decode cX11_cheapest 60 = .ok (.aload_n 0, 1) := by decide +kernel
theorem dX11_cheapest_61 : decode cX11_cheapest 61 = .ok (.getfield 16, 3) := by decide +kernel
theorem dX11_cheapest_64 : decode cX11_cheapest 64 = .ok (.getfield 113, 3) := by decide +kernel
theorem dX11_cheapest_67 : decode cX11_cheapest 67 = .ok (.iconst 3, 1) := by decide +kernel
theorem dX11_cheapest_68 : decode cX11_cheapest 68 = .ok (.iaload, 1) := by decide +kernel
theorem dX11_cheapest_69 : decode cX11_cheapest 69 = .ok (.iload_n 2, 1) := by decide +kernel
theorem dX11_cheapest_70 : decode cX11_cheapest 70 = .ok (.if_icmp .ge 15, 3) := by decide +kernel
theorem dX11_cheapest_73 : decode cX11_cheapest 73 = .ok (.iload_n 3, 1) := by decide +kernel
theorem dX11_cheapest_74 : decode cX11_cheapest 74 = .ok (.istore_n 1, 1) := by decide +kernel
theorem dX11_cheapest_75 : decode cX11_cheapest 75 = .ok (.aload_n 0, 1) := by decide +kernel
theorem dX11_cheapest_76 : decode cX11_cheapest 76 = .ok (.getfield 16, 3) := by decide +kernel
theorem dX11_cheapest_79 : decode cX11_cheapest 79 = .ok (.getfield 113, 3) := by decide +kernel
theorem dX11_cheapest_82 : decode cX11_cheapest 82 = .ok (.iconst 3, 1) := by decide +kernel
theorem dX11_cheapest_83 : decode cX11_cheapest 83 = .ok (.iaload, 1) := by decide +kernel
theorem dX11_cheapest_84 : decode cX11_cheapest 84 = .ok (.istore_n 2, 1) := by decide +kernel
theorem dX11_cheapest_85 : decode cX11_cheapest 85 = .ok (.iinc 3 1, 3) := by decide +kernel
theorem dX11_cheapest_88 : decode cX11_cheapest 88 = .ok (.goto (-82), 3) := by decide +kernel
theorem dX11_cheapest_91 : decode cX11_cheapest 91 = .ok (.iload_n 1, 1) := by decide +kernel
theorem dX11_cheapest_92 : decode cX11_cheapest 92 = .ok (.ireturn, 1) := by decide +kernel
theorem dX11_rank_0 : decode cX11_rank 0 = .ok (.iconst 0, 1) := by decide +kernel
theorem dX11_rank_1 : decode cX11_rank 1 = .ok (.istore_n 2, 1) := by decide +kernel
theorem dX11_rank_2 : decode cX11_rank 2 = .ok (.iload_n 2, 1) := by decide +kernel
theorem dX11_rank_3 : decode cX11_rank 3 = .ok (.bipush 10, 2) := by decide +kernel
theorem dX11_rank_5 : decode cX11_rank 5 = .ok (.if_icmp .ge 26, 3) := by decide +kernel
theorem dX11_rank_8 : decode cX11_rank 8 = .ok (.aload_n 0, 1) := by decide +kernel
theorem dX11_rank_9 : decode cX11_rank 9 = .ok (.getfield 10, 3) := by decide +kernel
theorem dX11_rank_12 : decode cX11_rank 12 = .ok (.getfield 99, 3) := by decide +kernel
theorem dX11_rank_15 : decode cX11_rank 15 = .ok (.iload_n 2, 1) := by decide +kernel
theorem dX11_rank_16 : decode cX11_rank 16 = .ok (.invokevirtual 272, 3) := by decide +kernel
theorem dX11_rank_19 : decode cX11_rank 19 = .ok (.iload_n 1, 1) := by decide +kernel
theorem dX11_rank_20 : decode cX11_rank 20 = .ok (.if_icmp .ne 5, 3) := by decide +kernel
theorem dX11_rank_23 : decode cX11_rank 23 = .ok (.iload_n 2, 1) := by decide +kernel
theorem dX11_rank_24 : decode cX11_rank 24 = .ok (.ireturn, 1) := by decide +kernel
theorem dX11_rank_25 : decode cX11_rank 25 = .ok (.iinc 2 1, 3) := by decide +kernel
theorem dX11_rank_28 : decode cX11_rank 28 = .ok (.goto (-26), 3) := by decide +kernel
theorem dX11_rank_31 : decode cX11_rank 31 = .ok (.iconst (-1), 1) := by decide +kernel
theorem dX11_rank_32 : decode cX11_rank 32 = .ok (.ireturn, 1) := by decide +kernel
theorem dX11_coldest_0 : decode cX11_coldest 0 = .ok (.iconst (-1), 1) := by decide +kernel
theorem dX11_coldest_1 : decode cX11_coldest 1 = .ok (.istore_n 2, 1) := by decide +kernel
theorem dX11_coldest_2 : decode cX11_coldest 2 = .ok (.iconst 0, 1) := by decide +kernel
theorem dX11_coldest_3 : decode cX11_coldest 3 = .ok (.istore_n 3, 1) := by decide +kernel
theorem dX11_coldest_4 : decode cX11_coldest 4 = .ok (.iload_n 3, 1) := by decide +kernel
theorem dX11_coldest_5 : decode cX11_coldest 5 = .ok (.bipush 10, 2) := by decide +kernel
theorem dX11_coldest_7 : decode cX11_coldest 7 = .ok (.if_icmp .ge 47, 3) := by decide +kernel
theorem dX11_coldest_10 : decode cX11_coldest 10 = .ok (.aload_n 0, 1) := by decide +kernel
theorem dX11_coldest_11 : decode cX11_coldest 11 = .ok (.getfield 10, 3) := by decide +kernel
theorem dX11_coldest_14 : decode cX11_coldest 14 = .ok (.getfield 99, 3) := by decide +kernel
theorem dX11_coldest_17 : decode cX11_coldest 17 = .ok (.getfield 103, 3) := by decide +kernel
theorem dX11_coldest_20 : decode cX11_coldest 20 = .ok (.iload_n 3, 1) := by decide +kernel
theorem dX11_coldest_21 : decode cX11_coldest 21 = .ok (.iaload, 1) := by decide +kernel
theorem dX11_coldest_22 : decode cX11_coldest 22 = .ok (.iload_n 1, 1) := by decide +kernel
theorem dX11_coldest_23 : decode cX11_coldest 23 = .ok (.if_icmp .ne 25, 3) := by decide +kernel
theorem dX11_coldest_26 : decode cX11_coldest 26 = .ok (.iload_n 2, 1) := by decide +kernel
theorem dX11_coldest_27 : decode cX11_coldest 27 = .ok (.iconst (-1), 1) := by decide +kernel
theorem dX11_coldest_28 : decode cX11_coldest 28 = .ok (.if_icmp .eq 18, 3) := by decide +kernel
theorem dX11_coldest_31 : decode cX11_coldest 31 = .ok (.aload_n 0, 1) := by decide +kernel
theorem dX11_coldest_32 : decode cX11_coldest 32 = .ok (.getfield 10, 3) := by decide +kernel
theorem dX11_coldest_35 : decode cX11_coldest 35 = .ok (.getfield 99, 3) := by decide +kernel
theorem dX11_coldest_38 : decode cX11_coldest 38 = .ok (.iload_n 2, 1) := by decide +kernel
theorem dX11_coldest_39 : decode cX11_coldest 39 = .ok (.iload_n 3, 1) := by decide +kernel
theorem dX11_coldest_40 : decode cX11_coldest 40 = .ok (.invokevirtual 275, 3) := by decide +kernel
theorem dX11_coldest_43 : decode cX11_coldest 43 = .ok (.ifCond .eq 5, 3) := by decide +kernel
theorem dX11_coldest_46 : decode cX11_coldest 46 = .ok (.iload_n 3, 1) := by decide +kernel
theorem dX11_coldest_47 : decode cX11_coldest 47 = .ok (.istore_n 2, 1) := by decide +kernel
theorem dX11_coldest_48 : decode cX11_coldest 48 = .ok (.iinc 3 1, 3) := by decide +kernel
theorem dX11_coldest_51 : decode cX11_coldest 51 = .ok (.goto (-47), 3) := by decide +kernel
theorem dX11_coldest_54 : decode cX11_coldest 54 = .ok (.iload_n 2, 1) := by decide +kernel
theorem dX11_coldest_55 : decode cX11_coldest 55 = .ok (.ireturn, 1) := by decide +kernel
theorem dX11_warmth_0 : decode cX11_warmth 0 = .ok (.iload_n 1, 1) := by decide +kernel
theorem dX11_warmth_1 : decode cX11_warmth 1 = .ok (.ifCond .eq 10, 3) := by decide +kernel
theorem dX11_warmth_4 : decode cX11_warmth 4 = .ok (.iload_n 1, 1) := by decide +kernel
theorem dX11_warmth_5 : decode cX11_warmth 5 = .ok (.iconst 1, 1) := by decide +kernel
theorem dX11_warmth_6 : decode cX11_warmth 6 = .ok (.if_icmp .eq 5, 3) := by decide +kernel
theorem dX11_warmth_9 : decode cX11_warmth 9 = .ok (.iconst (-1), 1) := by decide +kernel
theorem dX11_warmth_10 : decode cX11_warmth 10 = .ok (.ireturn, 1) := by decide +kernel
theorem dX11_warmth_11 : decode cX11_warmth 11 = .ok (.iconst 0, 1) := by decide +kernel
theorem dX11_warmth_12 : decode cX11_warmth 12 = .ok (.istore_n 2, 1) := by decide +kernel
theorem dX11_warmth_13 : decode cX11_warmth 13 = .ok (.iconst 0, 1) := by decide +kernel
theorem dX11_warmth_14 : decode cX11_warmth 14 = .ok (.istore_n 3, 1) := by decide +kernel
theorem dX11_warmth_15 : decode cX11_warmth 15 = .ok (.iload_n 3, 1) := by decide +kernel
theorem dX11_warmth_16 : decode cX11_warmth 16 = .ok (.bipush 10, 2) := by decide +kernel
theorem dX11_warmth_18 : decode cX11_warmth 18 = .ok (.if_icmp .ge 44, 3) := by decide +kernel
theorem dX11_warmth_21 : decode cX11_warmth 21 = .ok (.iload_n 2, 1) := by decide +kernel
theorem dX11_warmth_22 : decode cX11_warmth 22 = .ok (.aload_n 0, 1) := by decide +kernel
theorem dX11_warmth_23 : decode cX11_warmth 23 = .ok (.getfield 10, 3) := by decide +kernel
theorem dX11_warmth_26 : decode cX11_warmth 26 = .ok (.getfield 99, 3) := by decide +kernel
theorem dX11_warmth_29 : decode cX11_warmth 29 = .ok (.getfield 103, 3) := by decide +kernel
theorem dX11_warmth_32 : decode cX11_warmth 32 = .ok (.iload_n 3, 1) := by decide +kernel
theorem dX11_warmth_33 : decode cX11_warmth 33 = .ok (.iaload, 1) := by decide +kernel
theorem dX11_warmth_34 : decode cX11_warmth 34 = .ok (.iload_n 1, 1) := by decide +kernel
theorem dX11_warmth_35 : decode cX11_warmth 35 = .ok (.if_icmp .ne 18, 3) := by decide +kernel
theorem dX11_warmth_38 : decode cX11_warmth 38 = .ok (.aload_n 0, 1) := by decide +kernel
theorem dX11_warmth_39 : decode cX11_warmth 39 = .ok (.getfield 10, 3) := by decide +kernel
theorem dX11_warmth_42 : decode cX11_warmth 42 = .ok (.getfield 99, 3) := by decide +kernel
theorem dX11_warmth_45 : decode cX11_warmth 45 = .ok (.getfield 201, 3) := by decide +kernel
theorem dX11_warmth_48 : decode cX11_warmth 48 = .ok (.iload_n 3, 1) := by decide +kernel
theorem dX11_warmth_49 : decode cX11_warmth 49 = .ok (.iaload, 1) := by decide +kernel
theorem dX11_warmth_50 : decode cX11_warmth 50 = .ok (.goto 4, 3) := by decide +kernel
theorem dX11_warmth_53 : decode cX11_warmth 53 = .ok (.iconst 0, 1) := by decide +kernel
theorem dX11_warmth_54 : decode cX11_warmth 54 = .ok (.iadd, 1) := by decide +kernel
theorem dX11_warmth_55 : decode cX11_warmth 55 = .ok (.istore_n 2, 1) := by decide +kernel
theorem dX11_warmth_56 : decode cX11_warmth 56 = .ok (.iinc 3 1, 3) := by decide +kernel
theorem dX11_warmth_59 : decode cX11_warmth 59 = .ok (.goto (-44), 3) := by decide +kernel
theorem dX11_warmth_62 : decode cX11_warmth 62 = .ok (.iload_n 2, 1) := by decide +kernel
theorem dX11_warmth_63 : decode cX11_warmth 63 = .ok (.ireturn, 1) := by decide +kernel
theorem dX11_cools_0 : decode cX11_cools 0 = .ok (.iload_n 1, 1) := by decide +kernel
theorem dX11_cools_1 : decode cX11_cools 1 = .ok (.invokestatic 109, 3) := by decide +kernel
theorem dX11_cools_4 : decode cX11_cools 4 = .ok (.ifCond .ne 5, 3) := by decide +kernel
theorem dX11_cools_7 : decode cX11_cools 7 = .ok (.iconst (-1), 1) := by decide +kernel
theorem dX11_cools_8 : decode cX11_cools 8 = .ok (.ireturn, 1) := by decide +kernel
theorem dX11_cools_9 : decode cX11_cools 9 = .ok (.bipush 32, 2) := by decide +kernel
theorem dX11_cools_11 : decode cX11_cools 11 = .ok (.aload_n 0, 1) := by decide +kernel
theorem dX11_cools_12 : decode cX11_cools 12 = .ok (.getfield 10, 3) := by decide +kernel
theorem dX11_cools_15 : decode cX11_cools 15 = .ok (.getfield 99, 3) := by decide +kernel
theorem dX11_cools_18 : decode cX11_cools 18 = .ok (.getfield 201, 3) := by decide +kernel
theorem dX11_cools_21 : decode cX11_cools 21 = .ok (.iload_n 1, 1) := by decide +kernel
theorem dX11_cools_22 : decode cX11_cools 22 = .ok (.iaload, 1) := by decide +kernel
theorem dX11_cools_23 : decode cX11_cools 23 = .ok (.invokestatic 278, 3) := by decide +kernel
theorem dX11_cools_26 : decode cX11_cools 26 = .ok (.isub, 1) := by decide +kernel
theorem dX11_cools_27 : decode cX11_cools 27 = .ok (.ireturn, 1) := by decide +kernel
theorem dX11_share_0 : decode cX11_share 0 = .ok (.aload_n 0, 1) := by decide +kernel
theorem dX11_share_1 : decode cX11_share 1 = .ok (.getfield 10, 3) := by decide +kernel
theorem dX11_share_4 : decode cX11_share 4 = .ok (.getfield 113, 3) := by decide +kernel
theorem dX11_share_7 : decode cX11_share 7 = .ok (.bipush 7, 2) := by decide +kernel
theorem dX11_share_9 : decode cX11_share 9 = .ok (.iaload, 1) := by decide +kernel
theorem dX11_share_10 : decode cX11_share 10 = .ok (.istore_n 1, 1) := by decide +kernel
theorem dX11_share_11 : decode cX11_share 11 = .ok (.iload_n 1, 1) := by decide +kernel
theorem dX11_share_12 : decode cX11_share 12 = .ok (.ifCond .ne 5, 3) := by decide +kernel
theorem dX11_share_15 : decode cX11_share 15 = .ok (.iconst 0, 1) := by decide +kernel
theorem dX11_share_16 : decode cX11_share 16 = .ok (.ireturn, 1) := by decide +kernel
theorem dX11_share_17 : decode cX11_share 17 = .ok (.aload_n 0, 1) := by decide +kernel
theorem dX11_share_18 : decode cX11_share 18 = .ok (.getfield 10, 3) := by decide +kernel
theorem dX11_share_21 : decode cX11_share 21 = .ok (.getfield 113, 3) := by decide +kernel
theorem dX11_share_24 : decode cX11_share 24 = .ok (.bipush 8, 2) := by decide +kernel
theorem dX11_share_26 : decode cX11_share 26 = .ok (.iaload, 1) := by decide +kernel
theorem dX11_share_27 : decode cX11_share 27 = .ok (.i2f, 1) := by decide +kernel
theorem dX11_share_28 : decode cX11_share 28 = .ok (.iload_n 1, 1) := by decide +kernel
theorem dX11_share_29 : decode cX11_share 29 = .ok (.i2f, 1) := by decide +kernel
theorem dX11_share_30 : decode cX11_share 30 = .ok (.fdiv, 1) := by decide +kernel
theorem dX11_share_31 : decode cX11_share 31 = .ok (.fstore_n 2, 1) := by decide +kernel
theorem dX11_share_32 : decode cX11_share 32 = .ok (.fload_n 2, 1) := by decide +kernel
theorem dX11_share_33 : decode cX11_share 33 = .ok (.f2d, 1) := by decide +kernel
theorem dX11_share_34 : decode cX11_share 34 = .ok (.bipush 23, 2) := by decide +kernel
theorem dX11_share_36 : decode cX11_share 36 = .ok (.bipush 127, 2) := by decide +kernel
theorem dX11_share_38 : decode cX11_share 38 = .ok (.invokestatic 283, 3) := by decide +kernel
theorem dX11_share_41 : decode cX11_share 41 = .ok (.l2i, 1) := by decide +kernel
theorem dX11_share_42 : decode cX11_share 42 = .ok (.ireturn, 1) := by decide +kernel
theorem dX11_mean_0 : decode cX11_mean 0 = .ok (.aload_n 0, 1) := by decide +kernel
theorem dX11_mean_1 : decode cX11_mean 1 = .ok (.getfield 10, 3) := by decide +kernel
theorem dX11_mean_4 : decode cX11_mean 4 = .ok (.getfield 113, 3) := by decide +kernel
theorem dX11_mean_7 : decode cX11_mean 7 = .ok (.bipush 7, 2) := by decide +kernel
theorem dX11_mean_9 : decode cX11_mean 9 = .ok (.iaload, 1) := by decide +kernel
theorem dX11_mean_10 : decode cX11_mean 10 = .ok (.istore_n 1, 1) := by decide +kernel
theorem dX11_mean_11 : decode cX11_mean 11 = .ok (.iload_n 1, 1) := by decide +kernel
theorem dX11_mean_12 : decode cX11_mean 12 = .ok (.ifCond .ne 5, 3) := by decide +kernel
theorem dX11_mean_15 : decode cX11_mean 15 = .ok (.lconst 0, 1) := by decide +kernel
theorem dX11_mean_16 : decode cX11_mean 16 = .ok (.lreturn, 1) := by decide +kernel
theorem dX11_mean_17 : decode cX11_mean 17 = .ok (.aload_n 0, 1) := by decide +kernel
theorem dX11_mean_18 : decode cX11_mean 18 = .ok (.getfield 10, 3) := by decide +kernel
theorem dX11_mean_21 : decode cX11_mean 21 = .ok (.getfield 113, 3) := by decide +kernel
theorem dX11_mean_24 : decode cX11_mean 24 = .ok (.iconst 3, 1) := by decide +kernel
theorem dX11_mean_25 : decode cX11_mean 25 = .ok (.iaload, 1) := by decide +kernel
theorem dX11_mean_26 : decode cX11_mean 26 = .ok (.i2d, 1) := by decide +kernel
theorem dX11_mean_27 : decode cX11_mean 27 = .ok (.iload_n 1, 1) := by decide +kernel
theorem dX11_mean_28 : decode cX11_mean 28 = .ok (.i2d, 1) := by decide +kernel
theorem dX11_mean_29 : decode cX11_mean 29 = .ok (.ddiv, 1) := by decide +kernel
theorem dX11_mean_30 : decode cX11_mean 30 = .ok (.bipush 52, 2) := by decide +kernel
theorem dX11_mean_32 : decode cX11_mean 32 = .ok (.sipush 1023, 3) := by decide +kernel
theorem dX11_mean_35 : decode cX11_mean 35 = .ok (.invokestatic 283, 3) := by decide +kernel
theorem dX11_mean_38 : decode cX11_mean 38 = .ok (.lreturn, 1) := by decide +kernel
theorem dX11_book_0 : decode cX11_book 0 = .ok (.aload_n 0, 1) := by decide +kernel
theorem dX11_book_1 : decode cX11_book 1 = .ok (.getfield 10, 3) := by decide +kernel
theorem dX11_book_4 : decode cX11_book 4 = .ok (.getfield 287, 3) := by decide +kernel
theorem dX11_book_7 : decode cX11_book 7 = .ok (.iload_n 1, 1) := by decide +kernel
theorem dX11_book_8 : decode cX11_book 8 = .ok (.iload_n 2, 1) := by decide +kernel
theorem dX11_book_9 : decode cX11_book 9 = .ok (.invokevirtual 291, 3) := by decide +kernel
theorem dX11_book_12 : decode cX11_book 12 = .ok (.ireturn, 1) := by decide +kernel
theorem dX11_ledger_0 : decode cX11_ledger 0 = .ok (.iload_n 1, 1) := by decide +kernel
theorem dX11_ledger_1 : decode cX11_ledger 1 = .ok (.ifCond .lt 23, 3) := by decide +kernel
theorem dX11_ledger_4 : decode cX11_ledger 4 = .ok (.iload_n 1, 1) := by decide +kernel
theorem dX11_ledger_5 : decode cX11_ledger 5 = .ok (.bipush 6, 2) := by decide +kernel
theorem dX11_ledger_7 : decode cX11_ledger 7 = .ok (.if_icmp .ge 17, 3) := by decide +kernel
theorem dX11_ledger_10 : decode cX11_ledger 10 = .ok (.aload_n 0, 1) := by decide +kernel
theorem dX11_ledger_11 : decode cX11_ledger 11 = .ok (.getfield 10, 3) := by decide +kernel
theorem dX11_ledger_14 : decode cX11_ledger 14 = .ok (.getfield 287, 3) := by decide +kernel
theorem dX11_ledger_17 : decode cX11_ledger 17 = .ok (.iload_n 1, 1) := by decide +kernel
theorem dX11_ledger_18 : decode cX11_ledger 18 = .ok (.invokevirtual 294, 3) := by decide +kernel
theorem dX11_ledger_21 : decode cX11_ledger 21 = .ok (.goto 4, 3) := by decide +kernel
theorem dX11_ledger_24 : decode cX11_ledger 24 = .ok (.iconst (-1), 1) := by decide +kernel
theorem dX11_ledger_25 : decode cX11_ledger 25 = .ok (.ireturn, 1) := by decide +kernel
theorem dX11_image_0 : decode cX11_image 0 = .ok (.aload_n 0, 1) := by decide +kernel
theorem dX11_image_1 : decode cX11_image 1 = .ok (.getfield 57, 3) := by decide +kernel
theorem dX11_image_4 : decode cX11_image 4 = .ok (.aload_n 0, 1) := by decide +kernel
theorem dX11_image_5 : decode cX11_image 5 = .ok (.getfield 10, 3) := by decide +kernel
theorem dX11_image_8 : decode cX11_image 8 = .ok (.invokevirtual 269, 3) := by decide +kernel
theorem dX11_image_11 : decode cX11_image 11 = .ok (.aload_n 0, 1) := by decide +kernel
theorem dX11_image_12 : decode cX11_image 12 = .ok (.getfield 60, 3) := by decide +kernel
theorem dX11_image_15 : decode cX11_image 15 = .ok (.aload_n 0, 1) := by decide +kernel
theorem dX11_image_16 : decode cX11_image 16 = .ok (.getfield 22, 3) := by decide +kernel
theorem dX11_image_19 : decode cX11_image 19 = .ok (.invokevirtual 297, 3) := by decide +kernel
theorem dX11_image_22 : decode cX11_image 22 = .ok (.aload_n 0, 1) := by decide +kernel
theorem dX11_image_23 : decode cX11_image 23 = .ok (.aload_n 0, 1) := by decide +kernel
theorem dX11_image_24 : decode cX11_image 24 = .ok (.getfield 53, 3) := by decide +kernel
theorem dX11_image_27 : decode cX11_image 27 = .ok (.putfield 63, 3) := by decide +kernel
theorem dX11_image_30 : decode cX11_image 30 = .ok (.aload_n 0, 1) := by decide +kernel
theorem dX11_image_31 : decode cX11_image 31 = .ok (.getfield 10, 3) := by decide +kernel
theorem dX11_image_34 : decode cX11_image 34 = .ok (.getfield 113, 3) := by decide +kernel
theorem dX11_image_37 : decode cX11_image 37 = .ok (.iconst 0, 1) := by decide +kernel
theorem dX11_image_38 : decode cX11_image 38 = .ok (.iaload, 1) := by decide +kernel
theorem dX11_image_39 : decode cX11_image 39 = .ok (.ireturn, 1) := by decide +kernel
theorem dX11_back_0 : decode cX11_back 0 = .ok (.aload_n 0, 1) := by decide +kernel
theorem dX11_back_1 : decode cX11_back 1 = .ok (.getfield 10, 3) := by decide +kernel
theorem dX11_back_4 : decode cX11_back 4 = .ok (.aload_n 0, 1) := by decide +kernel
theorem dX11_back_5 : decode cX11_back 5 = .ok (.getfield 57, 3) := by decide +kernel
theorem dX11_back_8 : decode cX11_back 8 = .ok (.invokevirtual 269, 3) := by decide +kernel
theorem dX11_back_11 : decode cX11_back 11 = .ok (.aload_n 0, 1) := by decide +kernel
theorem dX11_back_12 : decode cX11_back 12 = .ok (.getfield 22, 3) := by decide +kernel
theorem dX11_back_15 : decode cX11_back 15 = .ok (.aload_n 0, 1) := by decide +kernel
theorem dX11_back_16 : decode cX11_back 16 = .ok (.getfield 60, 3) := by decide +kernel
theorem dX11_back_19 : decode cX11_back 19 = .ok (.invokevirtual 297, 3) := by decide +kernel
theorem dX11_back_22 : decode cX11_back 22 = .ok (.aload_n 0, 1) := by decide +kernel
theorem dX11_back_23 : decode cX11_back 23 = .ok (.aload_n 0, 1) := by decide +kernel
theorem dX11_back_24 : decode cX11_back 24 = .ok (.getfield 63, 3) := by decide +kernel
theorem dX11_back_27 : decode cX11_back 27 = .ok (.putfield 53, 3) := by decide +kernel
theorem dX11_back_30 : decode cX11_back 30 = .ok (.aload_n 0, 1) := by decide +kernel
theorem dX11_back_31 : decode cX11_back 31 = .ok (.getfield 10, 3) := by decide +kernel
theorem dX11_back_34 : decode cX11_back 34 = .ok (.getfield 113, 3) := by decide +kernel
theorem dX11_back_37 : decode cX11_back 37 = .ok (.iconst 0, 1) := by decide +kernel
theorem dX11_back_38 : decode cX11_back 38 = .ok (.iaload, 1) := by decide +kernel
theorem dX11_back_39 : decode cX11_back 39 = .ok (.ireturn, 1) := by decide +kernel
theorem dX11_about_0 : decode cX11_about 0 = .ok (.iload_n 1, 1) := by decide +kernel
theorem dX11_about_1 : decode cX11_about 1 = .ok (.tableswitch 48 0 2 #[27, 32, 40], 27) := by decide +kernel
theorem dX11_about_28 : decode cX11_about 28 = .ok (.aload_n 0, 1) := by decide +kernel
theorem dX11_about_29 : decode cX11_about 29 = .ok (.getfield 53, 3) := by decide +kernel
theorem dX11_about_32 : decode cX11_about 32 = .ok (.ireturn, 1) := by decide +kernel
theorem dX11_about_33 : decode cX11_about 33 = .ok (.aload_n 0, 1) := by decide +kernel
theorem dX11_about_34 : decode cX11_about 34 = .ok (.getfield 22, 3) := by decide +kernel
theorem dX11_about_37 : decode cX11_about 37 = .ok (.getfield 176, 3) := by decide +kernel
theorem dX11_about_40 : decode cX11_about 40 = .ok (.ireturn, 1) := by decide +kernel
theorem dX11_about_41 : decode cX11_about 41 = .ok (.aload_n 0, 1) := by decide +kernel
theorem dX11_about_42 : decode cX11_about 42 = .ok (.getfield 43, 3) := by decide +kernel
theorem dX11_about_45 : decode cX11_about 45 = .ok (.getfield 66, 3) := by decide +kernel
theorem dX11_about_48 : decode cX11_about 48 = .ok (.ireturn, 1) := by decide +kernel
theorem dX11_about_49 : decode cX11_about 49 = .ok (.bipush (-2), 2) := by decide +kernel
theorem dX11_about_51 : decode cX11_about 51 = .ok (.ireturn, 1) := by decide +kernel
theorem dX11_isExtent_0 : decode cX11_isExtent 0 = .ok (.iload_n 0, 1) := by decide +kernel
theorem dX11_isExtent_1 : decode cX11_isExtent 1 = .ok (.ifCond .lt 13, 3) := by decide +kernel
theorem dX11_isExtent_4 : decode cX11_isExtent 4 = .ok (.iload_n 0, 1) := by decide +kernel
theorem dX11_isExtent_5 : decode cX11_isExtent 5 = .ok (.bipush 10, 2) := by decide +kernel
theorem dX11_isExtent_7 : decode cX11_isExtent 7 = .ok (.if_icmp .ge 7, 3) := by decide +kernel
theorem dX11_isExtent_10 : decode cX11_isExtent 10 = .ok (.iconst 1, 1) := by decide +kernel
theorem dX11_isExtent_11 : decode cX11_isExtent 11 = .ok (.goto 4, 3) := by decide +kernel
theorem dX11_isExtent_14 : decode cX11_isExtent 14 = .ok (.iconst 0, 1) := by decide +kernel
theorem dX11_isExtent_15 : decode cX11_isExtent 15 = .ok (.ireturn, 1) := by decide +kernel
theorem dX11_isBlock_0 : decode cX11_isBlock 0 = .ok (.iload_n 0, 1) := by decide +kernel
theorem dX11_isBlock_1 : decode cX11_isBlock 1 = .ok (.invokestatic 109, 3) := by decide +kernel
theorem dX11_isBlock_4 : decode cX11_isBlock 4 = .ok (.ifCond .eq 20, 3) := by decide +kernel
theorem dX11_isBlock_7 : decode cX11_isBlock 7 = .ok (.iload_n 1, 1) := by decide +kernel
theorem dX11_isBlock_8 : decode cX11_isBlock 8 = .ok (.ifCond .lt 16, 3) := by decide +kernel
theorem dX11_isBlock_11 : decode cX11_isBlock 11 = .ok (.iload_n 1, 1) := by decide +kernel
theorem dX11_isBlock_12 : decode cX11_isBlock 12 = .ok (.getstatic 266, 3) := by decide +kernel
theorem dX11_isBlock_15 : decode cX11_isBlock 15 = .ok (.iload_n 0, 1) := by decide +kernel
theorem dX11_isBlock_16 : decode cX11_isBlock 16 = .ok (.iaload, 1) := by decide +kernel
theorem dX11_isBlock_17 : decode cX11_isBlock 17 = .ok (.if_icmp .ge 7, 3) := by decide +kernel
theorem dX11_isBlock_20 : decode cX11_isBlock 20 = .ok (.iconst 1, 1) := by decide +kernel
theorem dX11_isBlock_21 : decode cX11_isBlock 21 = .ok (.goto 4, 3) := by decide +kernel
theorem dX11_isBlock_24 : decode cX11_isBlock 24 = .ok (.iconst 0, 1) := by decide +kernel
theorem dX11_isBlock_25 : decode cX11_isBlock 25 = .ok (.ireturn, 1) := by decide +kernel
theorem dX11_isDays_0 : decode cX11_isDays 0 = .ok (.iload_n 0, 1) := by decide +kernel
theorem dX11_isDays_1 : decode cX11_isDays 1 = .ok (.iconst 1, 1) := by decide +kernel
theorem dX11_isDays_2 : decode cX11_isDays 2 = .ok (.if_icmp .lt 13, 3) := by decide +kernel
theorem dX11_isDays_5 : decode cX11_isDays 5 = .ok (.iload_n 0, 1) := by decide +kernel
theorem dX11_isDays_6 : decode cX11_isDays 6 = .ok (.bipush 8, 2) := by decide +kernel
theorem dX11_isDays_8 : decode cX11_isDays 8 = .ok (.if_icmp .gt 7, 3) := by decide +kernel
theorem dX11_isDays_11 : decode cX11_isDays 11 = .ok (.iconst 1, 1) := by decide +kernel
theorem dX11_isDays_12 : decode cX11_isDays 12 = .ok (.goto 4, 3) := by decide +kernel
theorem dX11_isDays_15 : decode cX11_isDays 15 = .ok (.iconst 0, 1) := by decide +kernel
theorem dX11_isDays_16 : decode cX11_isDays 16 = .ok (.ireturn, 1) := by decide +kernel
theorem dX11_mostTold_0 : decode cX11_mostTold 0 = .ok (.iload_n 0, 1) := by decide +kernel
theorem dX11_mostTold_1 : decode cX11_mostTold 1 = .ok (.lookupswitch 33 #[(0, 27), (1, 30)], 27) := by decide +kernel
theorem dX11_mostTold_28 : decode cX11_mostTold 28 = .ok (.bipush 6, 2) := by decide +kernel
theorem dX11_mostTold_30 : decode cX11_mostTold 30 = .ok (.ireturn, 1) := by decide +kernel
theorem dX11_mostTold_31 : decode cX11_mostTold 31 = .ok (.bipush 12, 2) := by decide +kernel
theorem dX11_mostTold_33 : decode cX11_mostTold 33 = .ok (.ireturn, 1) := by decide +kernel
theorem dX11_mostTold_34 : decode cX11_mostTold 34 = .ok (.bipush 40, 2) := by decide +kernel
theorem dX11_mostTold_36 : decode cX11_mostTold 36 = .ok (.ireturn, 1) := by decide +kernel
theorem dX11_textAt_0 : decode cX11_textAt 0 = .ok (.iload_n 1, 1) := by decide +kernel
theorem dX11_textAt_1 : decode cX11_textAt 1 = .ok (.ifCond .lt 20, 3) := by decide +kernel
theorem dX11_textAt_4 : decode cX11_textAt 4 = .ok (.iload_n 1, 1) := by decide +kernel
theorem dX11_textAt_5 : decode cX11_textAt 5 = .ok (.aload_n 0, 1) := by decide +kernel
theorem dX11_textAt_6 : decode cX11_textAt 6 = .ok (.getfield 53, 3) := by decide +kernel
theorem dX11_textAt_9 : decode cX11_textAt 9 = .ok (.if_icmp .ge 12, 3) := by decide +kernel
theorem dX11_textAt_12 : decode cX11_textAt 12 = .ok (.aload_n 0, 1) := by decide +kernel
theorem dX11_textAt_13 : decode cX11_textAt 13 = .ok (.getfield 49, 3) := by decide +kernel
theorem dX11_textAt_16 : decode cX11_textAt 16 = .ok (.iload_n 1, 1) := by decide +kernel
theorem dX11_textAt_17 : decode cX11_textAt 17 = .ok (.aaload, 1) := by decide +kernel
theorem dX11_textAt_18 : decode cX11_textAt 18 = .ok (.goto 4, 3) := by decide +kernel
theorem dX11_textAt_21 : decode cX11_textAt 21 = .ok (.aconst_null, 1) := by decide +kernel
theorem dX11_textAt_22 : decode cX11_textAt 22 = .ok (.areturn, 1) := by decide +kernel
theorem dX11_bitsOf_0 : decode cX11_bitsOf 0 = .ok (.dload_n 0, 1) := by decide +kernel
theorem dX11_bitsOf_1 : decode cX11_bitsOf 1 = .ok (.dconst 0, 1) := by decide +kernel
theorem dX11_bitsOf_2 : decode cX11_bitsOf 2 = .ok (.dcmp .g, 1) := by decide +kernel
theorem dX11_bitsOf_3 : decode cX11_bitsOf 3 = .ok (.ifCond .gt 5, 3) := by decide +kernel
theorem dX11_bitsOf_6 : decode cX11_bitsOf 6 = .ok (.lconst 0, 1) := by decide +kernel
theorem dX11_bitsOf_7 : decode cX11_bitsOf 7 = .ok (.lreturn, 1) := by decide +kernel
theorem dX11_bitsOf_8 : decode cX11_bitsOf 8 = .ok (.dload_n 0, 1) := by decide +kernel
theorem dX11_bitsOf_9 : decode cX11_bitsOf 9 = .ok (.dstore 4, 2) := by decide +kernel
theorem dX11_bitsOf_11 : decode cX11_bitsOf 11 = .ok (.iload_n 3, 1) := by decide +kernel
theorem dX11_bitsOf_12 : decode cX11_bitsOf 12 = .ok (.istore 6, 2) := by decide +kernel
theorem dX11_bitsOf_14 : decode cX11_bitsOf 14 = .ok (.iconst 0, 1) := by decide +kernel
theorem dX11_bitsOf_15 : decode cX11_bitsOf 15 = .ok (.istore 7, 2) := by decide +kernel
theorem dX11_bitsOf_17 : decode cX11_bitsOf 17 = .ok (.iload 7, 2) := by decide +kernel
theorem dX11_bitsOf_19 : decode cX11_bitsOf 19 = .ok (.bipush 64, 2) := by decide +kernel
theorem dX11_bitsOf_21 : decode cX11_bitsOf 21 = .ok (.if_icmp .ge 29, 3) := by decide +kernel
theorem dX11_bitsOf_24 : decode cX11_bitsOf 24 = .ok (.dload 4, 2) := by decide +kernel
theorem dX11_bitsOf_26 : decode cX11_bitsOf 26 = .ok (.ldc2_w 300, 3) := by decide +kernel
theorem dX11_bitsOf_29 : decode cX11_bitsOf 29 = .ok (.dcmp .l, 1) := by decide +kernel
theorem dX11_bitsOf_30 : decode cX11_bitsOf 30 = .ok (.ifCond .lt 20, 3) := by decide +kernel
theorem dX11_bitsOf_33 : decode cX11_bitsOf 33 = .ok (.dload 4, 2) := by decide +kernel
theorem dX11_bitsOf_35 : decode cX11_bitsOf 35 = .ok (.ldc2_w 300, 3) := by decide +kernel
theorem dX11_bitsOf_38 : decode cX11_bitsOf 38 = .ok (.ddiv, 1) := by decide +kernel
theorem dX11_bitsOf_39 : decode cX11_bitsOf 39 = .ok (.dstore 4, 2) := by decide +kernel
theorem dX11_bitsOf_41 : decode cX11_bitsOf 41 = .ok (.iinc 6 1, 3) := by decide +kernel
theorem dX11_bitsOf_44 : decode cX11_bitsOf 44 = .ok (.iinc 7 1, 3) := by decide +kernel
theorem dX11_bitsOf_47 : decode cX11_bitsOf 47 = .ok (.goto (-30), 3) := by decide +kernel
theorem dX11_bitsOf_50 : decode cX11_bitsOf 50 = .ok (.iconst 0, 1) := by decide +kernel
theorem dX11_bitsOf_51 : decode cX11_bitsOf 51 = .ok (.istore 7, 2) := by decide +kernel
theorem dX11_bitsOf_53 : decode cX11_bitsOf 53 = .ok (.iload 7, 2) := by decide +kernel
theorem dX11_bitsOf_55 : decode cX11_bitsOf 55 = .ok (.bipush 64, 2) := by decide +kernel
theorem dX11_bitsOf_57 : decode cX11_bitsOf 57 = .ok (.if_icmp .ge 27, 3) := by decide +kernel
theorem dX11_bitsOf_60 : decode cX11_bitsOf 60 = .ok (.dload 4, 2) := by decide +kernel
theorem dX11_bitsOf_62 : decode cX11_bitsOf 62 = .ok (.dconst 1, 1) := by decide +kernel
theorem dX11_bitsOf_63 : decode cX11_bitsOf 63 = .ok (.dcmp .g, 1) := by decide +kernel
theorem dX11_bitsOf_64 : decode cX11_bitsOf 64 = .ok (.ifCond .ge 20, 3) := by decide +kernel
theorem dX11_bitsOf_67 : decode cX11_bitsOf 67 = .ok (.dload 4, 2) := by decide +kernel
theorem dX11_bitsOf_69 : decode cX11_bitsOf 69 = .ok (.ldc2_w 300, 3) := by decide +kernel
theorem dX11_bitsOf_72 : decode cX11_bitsOf 72 = .ok (.dmul, 1) := by decide +kernel
theorem dX11_bitsOf_73 : decode cX11_bitsOf 73 = .ok (.dstore 4, 2) := by decide +kernel
theorem dX11_bitsOf_75 : decode cX11_bitsOf 75 = .ok (.iinc 6 (-1), 3) := by decide +kernel
theorem dX11_bitsOf_78 : decode cX11_bitsOf 78 = .ok (.iinc 7 1, 3) := by decide +kernel
theorem dX11_bitsOf_81 : decode cX11_bitsOf 81 = .ok (.goto (-28), 3) := by decide +kernel
theorem dX11_bitsOf_84 : decode cX11_bitsOf 84 = .ok (.lconst 1, 1) := by decide +kernel
theorem dX11_bitsOf_85 : decode cX11_bitsOf 85 = .ok (.iload_n 2, 1) := by decide +kernel
theorem dX11_bitsOf_86 : decode cX11_bitsOf 86 = .ok (.lshl, 1) := by decide +kernel
theorem dX11_bitsOf_87 : decode cX11_bitsOf 87 = .ok (.lstore 7, 2) := by decide +kernel
theorem dX11_bitsOf_89 : decode cX11_bitsOf 89 = .ok (.iload 6, 2) := by decide +kernel
theorem dX11_bitsOf_91 : decode cX11_bitsOf 91 = .ok (.i2l, 1) := by decide +kernel
theorem dX11_bitsOf_92 : decode cX11_bitsOf 92 = .ok (.lload 7, 2) := by decide +kernel
theorem dX11_bitsOf_94 : decode cX11_bitsOf 94 = .ok (.lmul, 1) := by decide +kernel
theorem dX11_bitsOf_95 : decode cX11_bitsOf 95 = .ok (.dload 4, 2) := by decide +kernel
theorem dX11_bitsOf_97 : decode cX11_bitsOf 97 = .ok (.dconst 1, 1) := by decide +kernel
theorem dX11_bitsOf_98 : decode cX11_bitsOf 98 = .ok (.dsub, 1) := by decide +kernel
theorem dX11_bitsOf_99 : decode cX11_bitsOf 99 = .ok (.lload 7, 2) := by decide +kernel
theorem dX11_bitsOf_101 : decode cX11_bitsOf 101 = .ok (.l2d, 1) := by decide +kernel
theorem dX11_bitsOf_102 : decode cX11_bitsOf 102 = .ok (.dmul, 1) := by decide +kernel
theorem dX11_bitsOf_103 : decode cX11_bitsOf 103 = .ok (.d2l, 1) := by decide +kernel
theorem dX11_bitsOf_104 : decode cX11_bitsOf 104 = .ok (.ladd, 1) := by decide +kernel
theorem dX11_bitsOf_105 : decode cX11_bitsOf 105 = .ok (.lreturn, 1) := by decide +kernel
theorem dJxe99ae_isNaN_b9ae7_0 : decode cJxe99ae_isNaN_b9ae7 0 = .ok (.dload_n 0, 1) := by decide +kernel
theorem dJxe99ae_isNaN_b9ae7_1 : decode cJxe99ae_isNaN_b9ae7 1 = .ok (.dload_n 0, 1) := by decide +kernel
theorem dJxe99ae_isNaN_b9ae7_2 : decode cJxe99ae_isNaN_b9ae7 2 = .ok (.dcmp .l, 1) := by decide +kernel
theorem dJxe99ae_isNaN_b9ae7_3 : decode cJxe99ae_isNaN_b9ae7 3 = .ok (.ifCond .eq 7, 3) := by decide +kernel
theorem dJxe99ae_isNaN_b9ae7_6 : decode cJxe99ae_isNaN_b9ae7 6 = .ok (.iconst 1, 1) := by decide +kernel
theorem dJxe99ae_isNaN_b9ae7_7 : decode cJxe99ae_isNaN_b9ae7 7 = .ok (.goto 4, 3) := by decide +kernel
theorem dJxe99ae_isNaN_b9ae7_10 : decode cJxe99ae_isNaN_b9ae7 10 = .ok (.iconst 0, 1) := by decide +kernel
theorem dJxe99ae_isNaN_b9ae7_11 : decode cJxe99ae_isNaN_b9ae7 11 = .ok (.ireturn, 1) := by decide +kernel
theorem dJxe99ae_doubleToLongBits_ccdee_0 : decode cJxe99ae_doubleToLongBits_ccdee 0 = .ok (.dload_n 0, 1) := by decide +kernel
theorem dJxe99ae_doubleToLongBits_ccdee_1 : decode cJxe99ae_doubleToLongBits_ccdee 1 = .ok (.invokestatic 122, 3) := by decide +kernel
theorem dJxe99ae_doubleToLongBits_ccdee_4 : decode cJxe99ae_doubleToLongBits_ccdee 4 = .ok (.ifCond .ne 8, 3) := by decide +kernel
theorem dJxe99ae_doubleToLongBits_ccdee_7 : decode cJxe99ae_doubleToLongBits_ccdee 7 = .ok (.dload_n 0, 1) := by decide +kernel
theorem dJxe99ae_doubleToLongBits_ccdee_8 : decode cJxe99ae_doubleToLongBits_ccdee 8 = .ok (.invokestatic 134, 3) := by decide +kernel
theorem dJxe99ae_doubleToLongBits_ccdee_11 : decode cJxe99ae_doubleToLongBits_ccdee 11 = .ok (.lreturn, 1) := by decide +kernel
theorem dJxe99ae_doubleToLongBits_ccdee_12 : decode cJxe99ae_doubleToLongBits_ccdee 12 = .ok (.ldc2_w 137, 3) := by decide +kernel
theorem dJxe99ae_doubleToLongBits_ccdee_15 : decode cJxe99ae_doubleToLongBits_ccdee 15 = .ok (.lreturn, 1) := by decide +kernel
theorem dJxf58ca_isNaN_12338_0 : decode cJxf58ca_isNaN_12338 0 = .ok (.fload_n 0, 1) := by decide +kernel
theorem dJxf58ca_isNaN_12338_1 : decode cJxf58ca_isNaN_12338 1 = .ok (.fload_n 0, 1) := by decide +kernel
theorem dJxf58ca_isNaN_12338_2 : decode cJxf58ca_isNaN_12338 2 = .ok (.fcmp .l, 1) := by decide +kernel
theorem dJxf58ca_isNaN_12338_3 : decode cJxf58ca_isNaN_12338 3 = .ok (.ifCond .eq 7, 3) := by decide +kernel
theorem dJxf58ca_isNaN_12338_6 : decode cJxf58ca_isNaN_12338 6 = .ok (.iconst 1, 1) := by decide +kernel
theorem dJxf58ca_isNaN_12338_7 : decode cJxf58ca_isNaN_12338 7 = .ok (.goto 4, 3) := by decide +kernel
theorem dJxf58ca_isNaN_12338_10 : decode cJxf58ca_isNaN_12338 10 = .ok (.iconst 0, 1) := by decide +kernel
theorem dJxf58ca_isNaN_12338_11 : decode cJxf58ca_isNaN_12338 11 = .ok (.ireturn, 1) := by decide +kernel
theorem dJxf58ca_floatToIntBits_5c35a_0 : decode cJxf58ca_floatToIntBits_5c35a 0 = .ok (.fload_n 0, 1) := by decide +kernel
theorem dJxf58ca_floatToIntBits_5c35a_1 : decode cJxf58ca_floatToIntBits_5c35a 1 = .ok (.invokestatic 59, 3) := by decide +kernel
theorem dJxf58ca_floatToIntBits_5c35a_4 : decode cJxf58ca_floatToIntBits_5c35a 4 = .ok (.ifCond .ne 8, 3) := by decide +kernel
theorem dJxf58ca_floatToIntBits_5c35a_7 : decode cJxf58ca_floatToIntBits_5c35a 7 = .ok (.fload_n 0, 1) := by decide +kernel
theorem dJxf58ca_floatToIntBits_5c35a_8 : decode cJxf58ca_floatToIntBits_5c35a 8 = .ok (.invokestatic 74, 3) := by decide +kernel
theorem dJxf58ca_floatToIntBits_5c35a_11 : decode cJxf58ca_floatToIntBits_5c35a 11 = .ok (.ireturn, 1) := by decide +kernel
theorem dJxf58ca_floatToIntBits_5c35a_12 : decode cJxf58ca_floatToIntBits_5c35a 12 = .ok (.ldc 77, 2) := by decide +kernel
theorem dJxf58ca_floatToIntBits_5c35a_14 : decode cJxf58ca_floatToIntBits_5c35a 14 = .ok (.ireturn, 1) := by decide +kernel
theorem dJ6_numberOfLeadingZeros_0f7a4_0 : decode cJ6_numberOfLeadingZeros_0f7a4 0 = .ok (.iload_n 0, 1) := by decide +kernel
theorem dJ6_numberOfLeadingZeros_0f7a4_1 : decode cJ6_numberOfLeadingZeros_0f7a4 1 = .ok (.ifCond .gt 14, 3) := by decide +kernel
theorem dJ6_numberOfLeadingZeros_0f7a4_4 : decode cJ6_numberOfLeadingZeros_0f7a4 4 = .ok (.iload_n 0, 1) := by decide +kernel
theorem dJ6_numberOfLeadingZeros_0f7a4_5 : decode cJ6_numberOfLeadingZeros_0f7a4 5 = .ok (.ifCond .ne 8, 3) := by decide +kernel
theorem dJ6_numberOfLeadingZeros_0f7a4_8 : decode cJ6_numberOfLeadingZeros_0f7a4 8 = .ok (.bipush 32, 2) := by decide +kernel
theorem dJ6_numberOfLeadingZeros_0f7a4_10 : decode cJ6_numberOfLeadingZeros_0f7a4 10 = .ok (.goto 4, 3) := by decide +kernel
theorem dJ6_numberOfLeadingZeros_0f7a4_13 : decode cJ6_numberOfLeadingZeros_0f7a4 13 = .ok (.iconst 0, 1) := by decide +kernel
theorem dJ6_numberOfLeadingZeros_0f7a4_14 : decode cJ6_numberOfLeadingZeros_0f7a4 14 = .ok (.ireturn, 1) := by decide +kernel
theorem dJ6_numberOfLeadingZeros_0f7a4_15 : decode cJ6_numberOfLeadingZeros_0f7a4 15 = .ok (.bipush 31, 2) := by decide +kernel
theorem dJ6_numberOfLeadingZeros_0f7a4_17 : decode cJ6_numberOfLeadingZeros_0f7a4 17 = .ok (.istore_n 1, 1) := by decide +kernel
theorem dJ6_numberOfLeadingZeros_0f7a4_18 : decode cJ6_numberOfLeadingZeros_0f7a4 18 = .ok (.iload_n 0, 1) := by decide +kernel
theorem dJ6_numberOfLeadingZeros_0f7a4_19 : decode cJ6_numberOfLeadingZeros_0f7a4 19 = .ok (.ldc_w 264, 3) := by decide +kernel
theorem dJ6_numberOfLeadingZeros_0f7a4_22 : decode cJ6_numberOfLeadingZeros_0f7a4 22 = .ok (.if_icmp .lt 11, 3) := by decide +kernel
theorem dJ6_numberOfLeadingZeros_0f7a4_25 : decode cJ6_numberOfLeadingZeros_0f7a4 25 = .ok (.iinc 1 (-16), 3) := by decide +kernel
theorem dJ6_numberOfLeadingZeros_0f7a4_28 : decode cJ6_numberOfLeadingZeros_0f7a4 28 = .ok (.iload_n 0, 1) := by decide +kernel
theorem dJ6_numberOfLeadingZeros_0f7a4_29 : decode cJ6_numberOfLeadingZeros_0f7a4 29 = .ok (.bipush 16, 2) := by decide +kernel
theorem dJ6_numberOfLeadingZeros_0f7a4_31 : decode cJ6_numberOfLeadingZeros_0f7a4 31 = .ok (.iushr, 1) := by decide +kernel
theorem dJ6_numberOfLeadingZeros_0f7a4_32 : decode cJ6_numberOfLeadingZeros_0f7a4 32 = .ok (.istore_n 0, 1) := by decide +kernel
theorem dJ6_numberOfLeadingZeros_0f7a4_33 : decode cJ6_numberOfLeadingZeros_0f7a4 33 = .ok (.iload_n 0, 1) := by decide +kernel
theorem dJ6_numberOfLeadingZeros_0f7a4_34 : decode cJ6_numberOfLeadingZeros_0f7a4 34 = .ok (.sipush 256, 3) := by decide +kernel
theorem dJ6_numberOfLeadingZeros_0f7a4_37 : decode cJ6_numberOfLeadingZeros_0f7a4 37 = .ok (.if_icmp .lt 11, 3) := by decide +kernel
theorem dJ6_numberOfLeadingZeros_0f7a4_40 : decode cJ6_numberOfLeadingZeros_0f7a4 40 = .ok (.iinc 1 (-8), 3) := by decide +kernel
theorem dJ6_numberOfLeadingZeros_0f7a4_43 : decode cJ6_numberOfLeadingZeros_0f7a4 43 = .ok (.iload_n 0, 1) := by decide +kernel
theorem dJ6_numberOfLeadingZeros_0f7a4_44 : decode cJ6_numberOfLeadingZeros_0f7a4 44 = .ok (.bipush 8, 2) := by decide +kernel
theorem dJ6_numberOfLeadingZeros_0f7a4_46 : decode cJ6_numberOfLeadingZeros_0f7a4 46 = .ok (.iushr, 1) := by decide +kernel
theorem dJ6_numberOfLeadingZeros_0f7a4_47 : decode cJ6_numberOfLeadingZeros_0f7a4 47 = .ok (.istore_n 0, 1) := by decide +kernel
theorem dJ6_numberOfLeadingZeros_0f7a4_48 : decode cJ6_numberOfLeadingZeros_0f7a4 48 = .ok (.iload_n 0, 1) := by decide +kernel
theorem dJ6_numberOfLeadingZeros_0f7a4_49 : decode cJ6_numberOfLeadingZeros_0f7a4 49 = .ok (.bipush 16, 2) := by decide +kernel
theorem dJ6_numberOfLeadingZeros_0f7a4_51 : decode cJ6_numberOfLeadingZeros_0f7a4 51 = .ok (.if_icmp .lt 10, 3) := by decide +kernel
theorem dJ6_numberOfLeadingZeros_0f7a4_54 : decode cJ6_numberOfLeadingZeros_0f7a4 54 = .ok (.iinc 1 (-4), 3) := by decide +kernel
theorem dJ6_numberOfLeadingZeros_0f7a4_57 : decode cJ6_numberOfLeadingZeros_0f7a4 57 = .ok (.iload_n 0, 1) := by decide +kernel
theorem dJ6_numberOfLeadingZeros_0f7a4_58 : decode cJ6_numberOfLeadingZeros_0f7a4 58 = .ok (.iconst 4, 1) := by decide +kernel
theorem dJ6_numberOfLeadingZeros_0f7a4_59 : decode cJ6_numberOfLeadingZeros_0f7a4 59 = .ok (.iushr, 1) := by decide +kernel
theorem dJ6_numberOfLeadingZeros_0f7a4_60 : decode cJ6_numberOfLeadingZeros_0f7a4 60 = .ok (.istore_n 0, 1) := by decide +kernel
theorem dJ6_numberOfLeadingZeros_0f7a4_61 : decode cJ6_numberOfLeadingZeros_0f7a4 61 = .ok (.iload_n 0, 1) := by decide +kernel
theorem dJ6_numberOfLeadingZeros_0f7a4_62 : decode cJ6_numberOfLeadingZeros_0f7a4 62 = .ok (.iconst 4, 1) := by decide +kernel
theorem dJ6_numberOfLeadingZeros_0f7a4_63 : decode cJ6_numberOfLeadingZeros_0f7a4 63 = .ok (.if_icmp .lt 10, 3) := by decide +kernel
theorem dJ6_numberOfLeadingZeros_0f7a4_66 : decode cJ6_numberOfLeadingZeros_0f7a4 66 = .ok (.iinc 1 (-2), 3) := by decide +kernel
theorem dJ6_numberOfLeadingZeros_0f7a4_69 : decode cJ6_numberOfLeadingZeros_0f7a4 69 = .ok (.iload_n 0, 1) := by decide +kernel
theorem dJ6_numberOfLeadingZeros_0f7a4_70 : decode cJ6_numberOfLeadingZeros_0f7a4 70 = .ok (.iconst 2, 1) := by decide +kernel
theorem dJ6_numberOfLeadingZeros_0f7a4_71 : decode cJ6_numberOfLeadingZeros_0f7a4 71 = .ok (.iushr, 1) := by decide +kernel
theorem dJ6_numberOfLeadingZeros_0f7a4_72 : decode cJ6_numberOfLeadingZeros_0f7a4 72 = .ok (.istore_n 0, 1) := by decide +kernel
theorem dJ6_numberOfLeadingZeros_0f7a4_73 : decode cJ6_numberOfLeadingZeros_0f7a4 73 = .ok (.iload_n 1, 1) := by decide +kernel
theorem dJ6_numberOfLeadingZeros_0f7a4_74 : decode cJ6_numberOfLeadingZeros_0f7a4 74 = .ok (.iload_n 0, 1) := by decide +kernel
theorem dJ6_numberOfLeadingZeros_0f7a4_75 : decode cJ6_numberOfLeadingZeros_0f7a4 75 = .ok (.iconst 1, 1) := by decide +kernel
theorem dJ6_numberOfLeadingZeros_0f7a4_76 : decode cJ6_numberOfLeadingZeros_0f7a4 76 = .ok (.iushr, 1) := by decide +kernel
theorem dJ6_numberOfLeadingZeros_0f7a4_77 : decode cJ6_numberOfLeadingZeros_0f7a4 77 = .ok (.isub, 1) := by decide +kernel
theorem dJ6_numberOfLeadingZeros_0f7a4_78 : decode cJ6_numberOfLeadingZeros_0f7a4 78 = .ok (.ireturn, 1) := by decide +kernel
theorem dJ6_bitCount_0f7a4_0 : decode cJ6_bitCount_0f7a4 0 = .ok (.iload_n 0, 1) := by decide +kernel
theorem dJ6_bitCount_0f7a4_1 : decode cJ6_bitCount_0f7a4 1 = .ok (.iload_n 0, 1) := by decide +kernel
theorem dJ6_bitCount_0f7a4_2 : decode cJ6_bitCount_0f7a4 2 = .ok (.iconst 1, 1) := by decide +kernel
theorem dJ6_bitCount_0f7a4_3 : decode cJ6_bitCount_0f7a4 3 = .ok (.iushr, 1) := by decide +kernel
theorem dJ6_bitCount_0f7a4_4 : decode cJ6_bitCount_0f7a4 4 = .ok (.ldc_w 265, 3) := by decide +kernel
theorem dJ6_bitCount_0f7a4_7 : decode cJ6_bitCount_0f7a4 7 = .ok (.iand, 1) := by decide +kernel
theorem dJ6_bitCount_0f7a4_8 : decode cJ6_bitCount_0f7a4 8 = .ok (.isub, 1) := by decide +kernel
theorem dJ6_bitCount_0f7a4_9 : decode cJ6_bitCount_0f7a4 9 = .ok (.istore_n 0, 1) := by decide +kernel
theorem dJ6_bitCount_0f7a4_10 : decode cJ6_bitCount_0f7a4 10 = .ok (.iload_n 0, 1) := by decide +kernel
theorem dJ6_bitCount_0f7a4_11 : decode cJ6_bitCount_0f7a4 11 = .ok (.ldc_w 266, 3) := by decide +kernel
theorem dJ6_bitCount_0f7a4_14 : decode cJ6_bitCount_0f7a4 14 = .ok (.iand, 1) := by decide +kernel
theorem dJ6_bitCount_0f7a4_15 : decode cJ6_bitCount_0f7a4 15 = .ok (.iload_n 0, 1) := by decide +kernel
theorem dJ6_bitCount_0f7a4_16 : decode cJ6_bitCount_0f7a4 16 = .ok (.iconst 2, 1) := by decide +kernel
theorem dJ6_bitCount_0f7a4_17 : decode cJ6_bitCount_0f7a4 17 = .ok (.iushr, 1) := by decide +kernel
theorem dJ6_bitCount_0f7a4_18 : decode cJ6_bitCount_0f7a4 18 = .ok (.ldc_w 266, 3) := by decide +kernel
theorem dJ6_bitCount_0f7a4_21 : decode cJ6_bitCount_0f7a4 21 = .ok (.iand, 1) := by decide +kernel
theorem dJ6_bitCount_0f7a4_22 : decode cJ6_bitCount_0f7a4 22 = .ok (.iadd, 1) := by decide +kernel
theorem dJ6_bitCount_0f7a4_23 : decode cJ6_bitCount_0f7a4 23 = .ok (.istore_n 0, 1) := by decide +kernel
theorem dJ6_bitCount_0f7a4_24 : decode cJ6_bitCount_0f7a4 24 = .ok (.iload_n 0, 1) := by decide +kernel
theorem dJ6_bitCount_0f7a4_25 : decode cJ6_bitCount_0f7a4 25 = .ok (.iload_n 0, 1) := by decide +kernel
theorem dJ6_bitCount_0f7a4_26 : decode cJ6_bitCount_0f7a4 26 = .ok (.iconst 4, 1) := by decide +kernel
theorem dJ6_bitCount_0f7a4_27 : decode cJ6_bitCount_0f7a4 27 = .ok (.iushr, 1) := by decide +kernel
theorem dJ6_bitCount_0f7a4_28 : decode cJ6_bitCount_0f7a4 28 = .ok (.iadd, 1) := by decide +kernel
theorem dJ6_bitCount_0f7a4_29 : decode cJ6_bitCount_0f7a4 29 = .ok (.ldc_w 267, 3) := by decide +kernel
theorem dJ6_bitCount_0f7a4_32 : decode cJ6_bitCount_0f7a4 32 = .ok (.iand, 1) := by decide +kernel
theorem dJ6_bitCount_0f7a4_33 : decode cJ6_bitCount_0f7a4 33 = .ok (.istore_n 0, 1) := by decide +kernel
theorem dJ6_bitCount_0f7a4_34 : decode cJ6_bitCount_0f7a4 34 = .ok (.iload_n 0, 1) := by decide +kernel
theorem dJ6_bitCount_0f7a4_35 : decode cJ6_bitCount_0f7a4 35 = .ok (.iload_n 0, 1) := by decide +kernel
theorem dJ6_bitCount_0f7a4_36 : decode cJ6_bitCount_0f7a4 36 = .ok (.bipush 8, 2) := by decide +kernel
theorem dJ6_bitCount_0f7a4_38 : decode cJ6_bitCount_0f7a4 38 = .ok (.iushr, 1) := by decide +kernel
theorem dJ6_bitCount_0f7a4_39 : decode cJ6_bitCount_0f7a4 39 = .ok (.iadd, 1) := by decide +kernel
theorem dJ6_bitCount_0f7a4_40 : decode cJ6_bitCount_0f7a4 40 = .ok (.istore_n 0, 1) := by decide +kernel
theorem dJ6_bitCount_0f7a4_41 : decode cJ6_bitCount_0f7a4 41 = .ok (.iload_n 0, 1) := by decide +kernel
theorem dJ6_bitCount_0f7a4_42 : decode cJ6_bitCount_0f7a4 42 = .ok (.iload_n 0, 1) := by decide +kernel
theorem dJ6_bitCount_0f7a4_43 : decode cJ6_bitCount_0f7a4 43 = .ok (.bipush 16, 2) := by decide +kernel
theorem dJ6_bitCount_0f7a4_45 : decode cJ6_bitCount_0f7a4 45 = .ok (.iushr, 1) := by decide +kernel
theorem dJ6_bitCount_0f7a4_46 : decode cJ6_bitCount_0f7a4 46 = .ok (.iadd, 1) := by decide +kernel
theorem dJ6_bitCount_0f7a4_47 : decode cJ6_bitCount_0f7a4 47 = .ok (.istore_n 0, 1) := by decide +kernel
theorem dJ6_bitCount_0f7a4_48 : decode cJ6_bitCount_0f7a4 48 = .ok (.iload_n 0, 1) := by decide +kernel
theorem dJ6_bitCount_0f7a4_49 : decode cJ6_bitCount_0f7a4 49 = .ok (.bipush 63, 2) := by decide +kernel
theorem dJ6_bitCount_0f7a4_51 : decode cJ6_bitCount_0f7a4 51 = .ok (.iand, 1) := by decide +kernel
theorem dJ6_bitCount_0f7a4_52 : decode cJ6_bitCount_0f7a4 52 = .ok (.ireturn, 1) := by decide +kernel
theorem dJ9_min_7cf53_0 : decode cJ9_min_7cf53 0 = .ok (.iload_n 0, 1) := by decide +kernel
theorem dJ9_min_7cf53_1 : decode cJ9_min_7cf53 1 = .ok (.iload_n 1, 1) := by decide +kernel
theorem dJ9_min_7cf53_2 : decode cJ9_min_7cf53 2 = .ok (.if_icmp .gt 7, 3) := by decide +kernel
theorem dJ9_min_7cf53_5 : decode cJ9_min_7cf53 5 = .ok (.iload_n 0, 1) := by decide +kernel
theorem dJ9_min_7cf53_6 : decode cJ9_min_7cf53 6 = .ok (.goto 4, 3) := by decide +kernel
theorem dJ9_min_7cf53_9 : decode cJ9_min_7cf53 9 = .ok (.iload_n 1, 1) := by decide +kernel
theorem dJ9_min_7cf53_10 : decode cJ9_min_7cf53 10 = .ok (.ireturn, 1) := by decide +kernel
theorem dJ0_length_8abf5_0 : decode cJ0_length_8abf5 0 = .ok (.aload_n 0, 1) := by decide +kernel
theorem dJ0_length_8abf5_1 : decode cJ0_length_8abf5 1 = .ok (.getfield 9, 3) := by decide +kernel
theorem dJ0_length_8abf5_4 : decode cJ0_length_8abf5 4 = .ok (.arraylength, 1) := by decide +kernel
theorem dJ0_length_8abf5_5 : decode cJ0_length_8abf5 5 = .ok (.aload_n 0, 1) := by decide +kernel
theorem dJ0_length_8abf5_6 : decode cJ0_length_8abf5 6 = .ok (.invokevirtual 335, 3) := by decide +kernel
theorem dJ0_length_8abf5_9 : decode cJ0_length_8abf5 9 = .ok (.ishr, 1) := by decide +kernel
theorem dJ0_length_8abf5_10 : decode cJ0_length_8abf5 10 = .ok (.ireturn, 1) := by decide +kernel
theorem dJ0_charAt_5068e_0 : decode cJ0_charAt_5068e 0 = .ok (.aload_n 0, 1) := by decide +kernel
theorem dJ0_charAt_5068e_1 : decode cJ0_charAt_5068e 1 = .ok (.invokevirtual 492, 3) := by decide +kernel
theorem dJ0_charAt_5068e_4 : decode cJ0_charAt_5068e 4 = .ok (.ifCond .eq 12, 3) := by decide +kernel
theorem dJ0_charAt_5068e_7 : decode cJ0_charAt_5068e 7 = .ok (.aload_n 0, 1) := by decide +kernel
theorem dJ0_charAt_5068e_8 : decode cJ0_charAt_5068e 8 = .ok (.getfield 9, 3) := by decide +kernel
theorem dJ0_charAt_5068e_11 : decode cJ0_charAt_5068e 11 = .ok (.iload_n 1, 1) := by decide +kernel
theorem dJ0_charAt_5068e_12 : decode cJ0_charAt_5068e 12 = .ok (.invokestatic 495, 3) := by decide +kernel
theorem dJ0_charAt_5068e_15 : decode cJ0_charAt_5068e 15 = .ok (.ireturn, 1) := by decide +kernel
theorem dJ0_charAt_5068e_16 : decode cJ0_charAt_5068e 16 = .ok (.aload_n 0, 1) := by decide +kernel
theorem dJ0_charAt_5068e_17 : decode cJ0_charAt_5068e 17 = .ok (.getfield 9, 3) := by decide +kernel
theorem dJ0_charAt_5068e_20 : decode cJ0_charAt_5068e 20 = .ok (.iload_n 1, 1) := by decide +kernel
theorem dJ0_charAt_5068e_21 : decode cJ0_charAt_5068e 21 = .ok (.invokestatic 498, 3) := by decide +kernel
theorem dJ0_charAt_5068e_24 : decode cJ0_charAt_5068e 24 = .ok (.ireturn, 1) := by decide +kernel
theorem dJ0_coder_7d493_0 : decode cJ0_coder_7d493 0 = .ok (.getstatic 38, 3) := by decide +kernel
theorem dJ0_coder_7d493_3 : decode cJ0_coder_7d493 3 = .ok (.ifCond .eq 10, 3) := by decide +kernel
theorem dJ0_coder_7d493_6 : decode cJ0_coder_7d493 6 = .ok (.aload_n 0, 1) := by decide +kernel
theorem dJ0_coder_7d493_7 : decode cJ0_coder_7d493 7 = .ok (.getfield 15, 3) := by decide +kernel
theorem dJ0_coder_7d493_10 : decode cJ0_coder_7d493 10 = .ok (.goto 4, 3) := by decide +kernel
theorem dJ0_coder_7d493_13 : decode cJ0_coder_7d493 13 = .ok (.iconst 1, 1) := by decide +kernel
theorem dJ0_coder_7d493_14 : decode cJ0_coder_7d493 14 = .ok (.ireturn, 1) := by decide +kernel
theorem dJ0_isLatin1_aae02_0 : decode cJ0_isLatin1_aae02 0 = .ok (.getstatic 38, 3) := by decide +kernel
theorem dJ0_isLatin1_aae02_3 : decode cJ0_isLatin1_aae02 3 = .ok (.ifCond .eq 14, 3) := by decide +kernel
theorem dJ0_isLatin1_aae02_6 : decode cJ0_isLatin1_aae02 6 = .ok (.aload_n 0, 1) := by decide +kernel
theorem dJ0_isLatin1_aae02_7 : decode cJ0_isLatin1_aae02 7 = .ok (.getfield 15, 3) := by decide +kernel
theorem dJ0_isLatin1_aae02_10 : decode cJ0_isLatin1_aae02 10 = .ok (.ifCond .ne 7, 3) := by decide +kernel
theorem dJ0_isLatin1_aae02_13 : decode cJ0_isLatin1_aae02 13 = .ok (.iconst 1, 1) := by decide +kernel
theorem dJ0_isLatin1_aae02_14 : decode cJ0_isLatin1_aae02 14 = .ok (.goto 4, 3) := by decide +kernel
theorem dJ0_isLatin1_aae02_17 : decode cJ0_isLatin1_aae02 17 = .ok (.iconst 0, 1) := by decide +kernel
theorem dJ0_isLatin1_aae02_18 : decode cJ0_isLatin1_aae02 18 = .ok (.ireturn, 1) := by decide +kernel
theorem dJ0_checkIndex_df160_0 : decode cJ0_checkIndex_df160 0 = .ok (.iload_n 0, 1) := by decide +kernel
theorem dJ0_checkIndex_df160_1 : decode cJ0_checkIndex_df160 1 = .ok (.iload_n 1, 1) := by decide +kernel
theorem dJ0_checkIndex_df160_2 : decode cJ0_checkIndex_df160 2 = .ok (.getstatic 1053, 3) := by decide +kernel
theorem dJ0_checkIndex_df160_5 : decode cJ0_checkIndex_df160 5 = .ok (.invokestatic 1059, 3) := by decide +kernel
theorem dJ0_checkIndex_df160_8 : decode cJ0_checkIndex_df160 8 = .ok (.pop, 1) := by decide +kernel
theorem dJ0_checkIndex_df160_9 : decode cJ0_checkIndex_df160 9 = .ok (.return_, 1) := by decide +kernel
theorem dJ1_charAt_3b067_0 : decode cJ1_charAt_3b067 0 = .ok (.iload_n 1, 1) := by decide +kernel
theorem dJ1_charAt_3b067_1 : decode cJ1_charAt_3b067 1 = .ok (.aload_n 0, 1) := by decide +kernel
theorem dJ1_charAt_3b067_2 : decode cJ1_charAt_3b067 2 = .ok (.arraylength, 1) := by decide +kernel
theorem dJ1_charAt_3b067_3 : decode cJ1_charAt_3b067 3 = .ok (.invokestatic 9, 3) := by decide +kernel
theorem dJ1_charAt_3b067_6 : decode cJ1_charAt_3b067 6 = .ok (.aload_n 0, 1) := by decide +kernel
theorem dJ1_charAt_3b067_7 : decode cJ1_charAt_3b067 7 = .ok (.iload_n 1, 1) := by decide +kernel
theorem dJ1_charAt_3b067_8 : decode cJ1_charAt_3b067 8 = .ok (.baload, 1) := by decide +kernel
theorem dJ1_charAt_3b067_9 : decode cJ1_charAt_3b067 9 = .ok (.sipush 255, 3) := by decide +kernel
theorem dJ1_charAt_3b067_12 : decode cJ1_charAt_3b067 12 = .ok (.iand, 1) := by decide +kernel
theorem dJ1_charAt_3b067_13 : decode cJ1_charAt_3b067 13 = .ok (.i2c, 1) := by decide +kernel
theorem dJ1_charAt_3b067_14 : decode cJ1_charAt_3b067 14 = .ok (.ireturn, 1) := by decide +kernel
theorem dJ2_getChar_3b067_0 : decode cJ2_getChar_3b067 0 = .ok (.getstatic 44, 3) := by decide +kernel
theorem dJ2_getChar_3b067_3 : decode cJ2_getChar_3b067 3 = .ok (.ifCond .ne 25, 3) := by decide +kernel
theorem dJ2_getChar_3b067_6 : decode cJ2_getChar_3b067 6 = .ok (.iload_n 1, 1) := by decide +kernel
theorem dJ2_getChar_3b067_7 : decode cJ2_getChar_3b067 7 = .ok (.ifCond .lt 11, 3) := by decide +kernel
theorem dJ2_getChar_3b067_10 : decode cJ2_getChar_3b067 10 = .ok (.iload_n 1, 1) := by decide +kernel
theorem dJ2_getChar_3b067_11 : decode cJ2_getChar_3b067 11 = .ok (.aload_n 0, 1) := by decide +kernel
theorem dJ2_getChar_3b067_12 : decode cJ2_getChar_3b067 12 = .ok (.invokestatic 48, 3) := by decide +kernel
theorem dJ2_getChar_3b067_15 : decode cJ2_getChar_3b067 15 = .ok (.if_icmp .lt 13, 3) := by decide +kernel
theorem dJ2_getChar_3b067_18 : decode cJ2_getChar_3b067 18 = .ok (.new 52, 3) := by decide +kernel
theorem dJ2_getChar_3b067_21 : decode cJ2_getChar_3b067 21 = .ok (.dup, 1) := by decide +kernel
theorem dJ2_getChar_3b067_22 : decode cJ2_getChar_3b067 22 = .ok (.ldc 54, 2) := by decide +kernel
theorem dJ2_getChar_3b067_24 : decode cJ2_getChar_3b067 24 = .ok (.invokespecial 56, 3) := by decide +kernel
theorem dJ2_getChar_3b067_27 : decode cJ2_getChar_3b067 27 = .ok (.athrow, 1) := by decide +kernel
theorem dJ2_getChar_3b067_28 : decode cJ2_getChar_3b067 28 = .ok (.iload_n 1, 1) := by decide +kernel
theorem dJ2_getChar_3b067_29 : decode cJ2_getChar_3b067 29 = .ok (.iconst 1, 1) := by decide +kernel
theorem dJ2_getChar_3b067_30 : decode cJ2_getChar_3b067 30 = .ok (.ishl, 1) := by decide +kernel
theorem dJ2_getChar_3b067_31 : decode cJ2_getChar_3b067 31 = .ok (.istore_n 1, 1) := by decide +kernel
theorem dJ2_getChar_3b067_32 : decode cJ2_getChar_3b067 32 = .ok (.aload_n 0, 1) := by decide +kernel
theorem dJ2_getChar_3b067_33 : decode cJ2_getChar_3b067 33 = .ok (.iload_n 1, 1) := by decide +kernel
theorem dJ2_getChar_3b067_34 : decode cJ2_getChar_3b067 34 = .ok (.iinc 1 1, 3) := by decide +kernel
theorem dJ2_getChar_3b067_37 : decode cJ2_getChar_3b067 37 = .ok (.baload, 1) := by decide +kernel
theorem dJ2_getChar_3b067_38 : decode cJ2_getChar_3b067 38 = .ok (.sipush 255, 3) := by decide +kernel
theorem dJ2_getChar_3b067_41 : decode cJ2_getChar_3b067 41 = .ok (.iand, 1) := by decide +kernel
theorem dJ2_getChar_3b067_42 : decode cJ2_getChar_3b067 42 = .ok (.getstatic 59, 3) := by decide +kernel
theorem dJ2_getChar_3b067_45 : decode cJ2_getChar_3b067 45 = .ok (.ishl, 1) := by decide +kernel
theorem dJ2_getChar_3b067_46 : decode cJ2_getChar_3b067 46 = .ok (.aload_n 0, 1) := by decide +kernel
theorem dJ2_getChar_3b067_47 : decode cJ2_getChar_3b067 47 = .ok (.iload_n 1, 1) := by decide +kernel
theorem dJ2_getChar_3b067_48 : decode cJ2_getChar_3b067 48 = .ok (.baload, 1) := by decide +kernel
theorem dJ2_getChar_3b067_49 : decode cJ2_getChar_3b067 49 = .ok (.sipush 255, 3) := by decide +kernel
theorem dJ2_getChar_3b067_52 : decode cJ2_getChar_3b067 52 = .ok (.iand, 1) := by decide +kernel
theorem dJ2_getChar_3b067_53 : decode cJ2_getChar_3b067 53 = .ok (.getstatic 63, 3) := by decide +kernel
theorem dJ2_getChar_3b067_56 : decode cJ2_getChar_3b067 56 = .ok (.ishl, 1) := by decide +kernel
theorem dJ2_getChar_3b067_57 : decode cJ2_getChar_3b067 57 = .ok (.ior, 1) := by decide +kernel
theorem dJ2_getChar_3b067_58 : decode cJ2_getChar_3b067 58 = .ok (.i2c, 1) := by decide +kernel
theorem dJ2_getChar_3b067_59 : decode cJ2_getChar_3b067 59 = .ok (.ireturn, 1) := by decide +kernel
theorem dJ2_length_9d52b_0 : decode cJ2_length_9d52b 0 = .ok (.aload_n 0, 1) := by decide +kernel
theorem dJ2_length_9d52b_1 : decode cJ2_length_9d52b 1 = .ok (.arraylength, 1) := by decide +kernel
theorem dJ2_length_9d52b_2 : decode cJ2_length_9d52b 2 = .ok (.iconst 1, 1) := by decide +kernel
theorem dJ2_length_9d52b_3 : decode cJ2_length_9d52b 3 = .ok (.ishr, 1) := by decide +kernel
theorem dJ2_length_9d52b_4 : decode cJ2_length_9d52b 4 = .ok (.ireturn, 1) := by decide +kernel
theorem dJ2_charAt_3b067_0 : decode cJ2_charAt_3b067 0 = .ok (.iload_n 1, 1) := by decide +kernel
theorem dJ2_charAt_3b067_1 : decode cJ2_charAt_3b067 1 = .ok (.aload_n 0, 1) := by decide +kernel
theorem dJ2_charAt_3b067_2 : decode cJ2_charAt_3b067 2 = .ok (.invokestatic 67, 3) := by decide +kernel
theorem dJ2_charAt_3b067_5 : decode cJ2_charAt_3b067 5 = .ok (.aload_n 0, 1) := by decide +kernel
theorem dJ2_charAt_3b067_6 : decode cJ2_charAt_3b067 6 = .ok (.iload_n 1, 1) := by decide +kernel
theorem dJ2_charAt_3b067_7 : decode cJ2_charAt_3b067 7 = .ok (.invokestatic 71, 3) := by decide +kernel
theorem dJ2_charAt_3b067_10 : decode cJ2_charAt_3b067 10 = .ok (.ireturn, 1) := by decide +kernel
theorem dJ2_checkIndex_2214a_0 : decode cJ2_checkIndex_2214a 0 = .ok (.iload_n 0, 1) := by decide +kernel
theorem dJ2_checkIndex_2214a_1 : decode cJ2_checkIndex_2214a 1 = .ok (.aload_n 1, 1) := by decide +kernel
theorem dJ2_checkIndex_2214a_2 : decode cJ2_checkIndex_2214a 2 = .ok (.invokestatic 48, 3) := by decide +kernel
theorem dJ2_checkIndex_2214a_5 : decode cJ2_checkIndex_2214a 5 = .ok (.invokestatic 414, 3) := by decide +kernel
theorem dJ2_checkIndex_2214a_8 : decode cJ2_checkIndex_2214a 8 = .ok (.return_, 1) := by decide +kernel
theorem dJ3_checkIndex_8e157_0 : decode cJ3_checkIndex_8e157 0 = .ok (.iload_n 0, 1) := by decide +kernel
theorem dJ3_checkIndex_8e157_1 : decode cJ3_checkIndex_8e157 1 = .ok (.ifCond .lt 8, 3) := by decide +kernel
theorem dJ3_checkIndex_8e157_4 : decode cJ3_checkIndex_8e157 4 = .ok (.iload_n 0, 1) := by decide +kernel
theorem dJ3_checkIndex_8e157_5 : decode cJ3_checkIndex_8e157 5 = .ok (.iload_n 1, 1) := by decide +kernel
theorem dJ3_checkIndex_8e157_6 : decode cJ3_checkIndex_8e157 6 = .ok (.if_icmp .lt 10, 3) := by decide +kernel
theorem dJ3_checkIndex_8e157_9 : decode cJ3_checkIndex_8e157 9 = .ok (.aload_n 2, 1) := by decide +kernel
theorem dJ3_checkIndex_8e157_10 : decode cJ3_checkIndex_8e157 10 = .ok (.iload_n 0, 1) := by decide +kernel
theorem dJ3_checkIndex_8e157_11 : decode cJ3_checkIndex_8e157 11 = .ok (.iload_n 1, 1) := by decide +kernel
theorem dJ3_checkIndex_8e157_12 : decode cJ3_checkIndex_8e157 12 = .ok (.invokestatic 95, 3) := by decide +kernel
theorem dJ3_checkIndex_8e157_15 : decode cJ3_checkIndex_8e157 15 = .ok (.athrow, 1) := by decide +kernel
theorem dJ3_checkIndex_8e157_16 : decode cJ3_checkIndex_8e157 16 = .ok (.iload_n 0, 1) := by decide +kernel
theorem dJ3_checkIndex_8e157_17 : decode cJ3_checkIndex_8e157 17 = .ok (.ireturn, 1) := by decide +kernel

theorem dX0_init_0 : decode cX0_init 0 = .ok (.aload_n 0, 1) := by decide +kernel
theorem dX0_init_1 : decode cX0_init 1 = .ok (.invokespecial 3, 3) := by decide +kernel
theorem dX0_init_4 : decode cX0_init 4 = .ok (.aload_n 0, 1) := by decide +kernel
theorem dX0_init_5 : decode cX0_init 5 = .ok (.bipush 24, 2) := by decide +kernel
theorem dX0_init_7 : decode cX0_init 7 = .ok (.newarray .int, 2) := by decide +kernel
theorem dX0_init_9 : decode cX0_init 9 = .ok (.putfield 9, 3) := by decide +kernel
theorem dX0_init_12 : decode cX0_init 12 = .ok (.aload_n 0, 1) := by decide +kernel
theorem dX0_init_13 : decode cX0_init 13 = .ok (.bipush 24, 2) := by decide +kernel
theorem dX0_init_15 : decode cX0_init 15 = .ok (.newarray .int, 2) := by decide +kernel
theorem dX0_init_17 : decode cX0_init 17 = .ok (.putfield 15, 3) := by decide +kernel
theorem dX0_init_20 : decode cX0_init 20 = .ok (.aload_n 0, 1) := by decide +kernel
theorem dX0_init_21 : decode cX0_init 21 = .ok (.bipush 24, 2) := by decide +kernel
theorem dX0_init_23 : decode cX0_init 23 = .ok (.newarray .int, 2) := by decide +kernel
theorem dX0_init_25 : decode cX0_init 25 = .ok (.putfield 18, 3) := by decide +kernel
theorem dX0_init_28 : decode cX0_init 28 = .ok (.aload_n 0, 1) := by decide +kernel
theorem dX0_init_29 : decode cX0_init 29 = .ok (.bipush 24, 2) := by decide +kernel
theorem dX0_init_31 : decode cX0_init 31 = .ok (.newarray .int, 2) := by decide +kernel
theorem dX0_init_33 : decode cX0_init 33 = .ok (.putfield 21, 3) := by decide +kernel
theorem dX0_init_36 : decode cX0_init 36 = .ok (.aload_n 0, 1) := by decide +kernel
theorem dX0_init_37 : decode cX0_init 37 = .ok (.bipush 12, 2) := by decide +kernel
theorem dX0_init_39 : decode cX0_init 39 = .ok (.newarray .int, 2) := by decide +kernel
theorem dX0_init_41 : decode cX0_init 41 = .ok (.putfield 24, 3) := by decide +kernel
theorem dX0_init_44 : decode cX0_init 44 = .ok (.aload_n 0, 1) := by decide +kernel
theorem dX0_init_45 : decode cX0_init 45 = .ok (.bipush 6, 2) := by decide +kernel
theorem dX0_init_47 : decode cX0_init 47 = .ok (.newarray .int, 2) := by decide +kernel
theorem dX0_init_49 : decode cX0_init 49 = .ok (.putfield 27, 3) := by decide +kernel
theorem dX0_init_52 : decode cX0_init 52 = .ok (.aload_n 0, 1) := by decide +kernel
theorem dX0_init_53 : decode cX0_init 53 = .ok (.bipush 6, 2) := by decide +kernel
theorem dX0_init_55 : decode cX0_init 55 = .ok (.newarray .int, 2) := by decide +kernel
theorem dX0_init_57 : decode cX0_init 57 = .ok (.putfield 30, 3) := by decide +kernel
theorem dX0_init_60 : decode cX0_init 60 = .ok (.aload_n 0, 1) := by decide +kernel
theorem dX0_init_61 : decode cX0_init 61 = .ok (.getfield 15, 3) := by decide +kernel
theorem dX0_init_64 : decode cX0_init 64 = .ok (.bipush 25, 2) := by decide +kernel
theorem dX0_init_66 : decode cX0_init 66 = .ok (.invokestatic 33, 3) := by decide +kernel
theorem dX0_init_69 : decode cX0_init 69 = .ok (.aload_n 0, 1) := by decide +kernel
theorem dX0_init_70 : decode cX0_init 70 = .ok (.getfield 18, 3) := by decide +kernel
theorem dX0_init_73 : decode cX0_init 73 = .ok (.bipush 25, 2) := by decide +kernel
theorem dX0_init_75 : decode cX0_init 75 = .ok (.invokestatic 33, 3) := by decide +kernel
theorem dX0_init_78 : decode cX0_init 78 = .ok (.return_, 1) := by decide +kernel
theorem dX0_write_0 : decode cX0_write 0 = .ok (.iload_n 2, 1) := by decide +kernel
theorem dX0_write_1 : decode cX0_write 1 = .ok (.invokestatic 39, 3) := by decide +kernel
theorem dX0_write_4 : decode cX0_write 4 = .ok (.ifCond .ne 4, 3) := by decide +kernel
theorem dX0_write_7 : decode cX0_write 7 = .ok (.return_, 1) := by decide +kernel
theorem dX0_write_8 : decode cX0_write 8 = .ok (.iload_n 1, 1) := by decide +kernel
theorem dX0_write_9 : decode cX0_write 9 = .ok (.ifCond .ne 13, 3) := by decide +kernel
theorem dX0_write_12 : decode cX0_write 12 = .ok (.aload_n 0, 1) := by decide +kernel
theorem dX0_write_13 : decode cX0_write 13 = .ok (.getfield 15, 3) := by decide +kernel
theorem dX0_write_16 : decode cX0_write 16 = .ok (.iload_n 2, 1) := by decide +kernel
theorem dX0_write_17 : decode cX0_write 17 = .ok (.iload_n 3, 1) := by decide +kernel
theorem dX0_write_18 : decode cX0_write 18 = .ok (.iastore, 1) := by decide +kernel
theorem dX0_write_19 : decode cX0_write 19 = .ok (.goto 10, 3) := by decide +kernel
theorem dX0_write_22 : decode cX0_write 22 = .ok (.aload_n 0, 1) := by decide +kernel
theorem dX0_write_23 : decode cX0_write 23 = .ok (.getfield 18, 3) := by decide +kernel
theorem dX0_write_26 : decode cX0_write 26 = .ok (.iload_n 2, 1) := by decide +kernel
theorem dX0_write_27 : decode cX0_write 27 = .ok (.iload_n 3, 1) := by decide +kernel
theorem dX0_write_28 : decode cX0_write 28 = .ok (.iastore, 1) := by decide +kernel
theorem dX0_write_29 : decode cX0_write 29 = .ok (.aload_n 0, 1) := by decide +kernel
theorem dX0_write_30 : decode cX0_write 30 = .ok (.iconst 0, 1) := by decide +kernel
theorem dX0_write_31 : decode cX0_write 31 = .ok (.putfield 43, 3) := by decide +kernel
theorem dX0_write_34 : decode cX0_write 34 = .ok (.return_, 1) := by decide +kernel
theorem dX0_add_0 : decode cX0_add 0 = .ok (.aload_n 0, 1) := by decide +kernel
theorem dX0_add_1 : decode cX0_add 1 = .ok (.getfield 47, 3) := by decide +kernel
theorem dX0_add_4 : decode cX0_add 4 = .ok (.bipush 6, 2) := by decide +kernel
theorem dX0_add_6 : decode cX0_add 6 = .ok (.if_icmp .lt 4, 3) := by decide +kernel
theorem dX0_add_9 : decode cX0_add 9 = .ok (.return_, 1) := by decide +kernel
theorem dX0_add_10 : decode cX0_add 10 = .ok (.aload_n 0, 1) := by decide +kernel
theorem dX0_add_11 : decode cX0_add 11 = .ok (.getfield 27, 3) := by decide +kernel
theorem dX0_add_14 : decode cX0_add 14 = .ok (.aload_n 0, 1) := by decide +kernel
theorem dX0_add_15 : decode cX0_add 15 = .ok (.getfield 47, 3) := by decide +kernel
theorem dX0_add_18 : decode cX0_add 18 = .ok (.iload_n 1, 1) := by decide +kernel
theorem dX0_add_19 : decode cX0_add 19 = .ok (.iastore, 1) := by decide +kernel
theorem dX0_add_20 : decode cX0_add 20 = .ok (.aload_n 0, 1) := by decide +kernel
theorem dX0_add_21 : decode cX0_add 21 = .ok (.getfield 30, 3) := by decide +kernel
theorem dX0_add_24 : decode cX0_add 24 = .ok (.aload_n 0, 1) := by decide +kernel
theorem dX0_add_25 : decode cX0_add 25 = .ok (.getfield 47, 3) := by decide +kernel
theorem dX0_add_28 : decode cX0_add 28 = .ok (.iload_n 2, 1) := by decide +kernel
theorem dX0_add_29 : decode cX0_add 29 = .ok (.iastore, 1) := by decide +kernel
theorem dX0_add_30 : decode cX0_add 30 = .ok (.aload_n 0, 1) := by decide +kernel
theorem dX0_add_31 : decode cX0_add 31 = .ok (.dup, 1) := by decide +kernel
theorem dX0_add_32 : decode cX0_add 32 = .ok (.getfield 47, 3) := by decide +kernel
theorem dX0_add_35 : decode cX0_add 35 = .ok (.iconst 1, 1) := by decide +kernel
theorem dX0_add_36 : decode cX0_add 36 = .ok (.iadd, 1) := by decide +kernel
theorem dX0_add_37 : decode cX0_add 37 = .ok (.putfield 47, 3) := by decide +kernel
theorem dX0_add_40 : decode cX0_add 40 = .ok (.aload_n 0, 1) := by decide +kernel
theorem dX0_add_41 : decode cX0_add 41 = .ok (.iconst 0, 1) := by decide +kernel
theorem dX0_add_42 : decode cX0_add 42 = .ok (.putfield 43, 3) := by decide +kernel
theorem dX0_add_45 : decode cX0_add 45 = .ok (.return_, 1) := by decide +kernel
theorem dX0_holds_0 : decode cX0_holds 0 = .ok (.iload_n 1, 1) := by decide +kernel
theorem dX0_holds_1 : decode cX0_holds 1 = .ok (.ifCond .lt 15, 3) := by decide +kernel
theorem dX0_holds_4 : decode cX0_holds 4 = .ok (.iload_n 1, 1) := by decide +kernel
theorem dX0_holds_5 : decode cX0_holds 5 = .ok (.aload_n 0, 1) := by decide +kernel
theorem dX0_holds_6 : decode cX0_holds 6 = .ok (.getfield 47, 3) := by decide +kernel
theorem dX0_holds_9 : decode cX0_holds 9 = .ok (.if_icmp .ge 7, 3) := by decide +kernel
theorem dX0_holds_12 : decode cX0_holds 12 = .ok (.iconst 1, 1) := by decide +kernel
theorem dX0_holds_13 : decode cX0_holds 13 = .ok (.goto 4, 3) := by decide +kernel
theorem dX0_holds_16 : decode cX0_holds 16 = .ok (.iconst 0, 1) := by decide +kernel
theorem dX0_holds_17 : decode cX0_holds 17 = .ok (.ireturn, 1) := by decide +kernel
theorem dX0_rowOf_0 : decode cX0_rowOf 0 = .ok (.iload_n 1, 1) := by decide +kernel
theorem dX0_rowOf_1 : decode cX0_rowOf 1 = .ok (.ifCond .ne 8, 3) := by decide +kernel
theorem dX0_rowOf_4 : decode cX0_rowOf 4 = .ok (.aload_n 0, 1) := by decide +kernel
theorem dX0_rowOf_5 : decode cX0_rowOf 5 = .ok (.getfield 15, 3) := by decide +kernel
theorem dX0_rowOf_8 : decode cX0_rowOf 8 = .ok (.areturn, 1) := by decide +kernel
theorem dX0_rowOf_9 : decode cX0_rowOf 9 = .ok (.iload_n 1, 1) := by decide +kernel
theorem dX0_rowOf_10 : decode cX0_rowOf 10 = .ok (.iconst 1, 1) := by decide +kernel
theorem dX0_rowOf_11 : decode cX0_rowOf 11 = .ok (.if_icmp .ne 8, 3) := by decide +kernel
theorem dX0_rowOf_14 : decode cX0_rowOf 14 = .ok (.aload_n 0, 1) := by decide +kernel
theorem dX0_rowOf_15 : decode cX0_rowOf 15 = .ok (.getfield 18, 3) := by decide +kernel
theorem dX0_rowOf_18 : decode cX0_rowOf 18 = .ok (.areturn, 1) := by decide +kernel
theorem dX0_rowOf_19 : decode cX0_rowOf 19 = .ok (.iload_n 1, 1) := by decide +kernel
theorem dX0_rowOf_20 : decode cX0_rowOf 20 = .ok (.iconst 2, 1) := by decide +kernel
theorem dX0_rowOf_21 : decode cX0_rowOf 21 = .ok (.if_icmp .eq 5, 3) := by decide +kernel
theorem dX0_rowOf_24 : decode cX0_rowOf 24 = .ok (.aconst_null, 1) := by decide +kernel
theorem dX0_rowOf_25 : decode cX0_rowOf 25 = .ok (.areturn, 1) := by decide +kernel
theorem dX0_rowOf_26 : decode cX0_rowOf 26 = .ok (.aload_n 0, 1) := by decide +kernel
theorem dX0_rowOf_27 : decode cX0_rowOf 27 = .ok (.getfield 43, 3) := by decide +kernel
theorem dX0_rowOf_30 : decode cX0_rowOf 30 = .ok (.ifCond .ne 27, 3) := by decide +kernel
theorem dX0_rowOf_33 : decode cX0_rowOf 33 = .ok (.aload_n 0, 1) := by decide +kernel
theorem dX0_rowOf_34 : decode cX0_rowOf 34 = .ok (.iconst 1, 1) := by decide +kernel
theorem dX0_rowOf_35 : decode cX0_rowOf 35 = .ok (.putfield 43, 3) := by decide +kernel
theorem dX0_rowOf_38 : decode cX0_rowOf 38 = .ok (.aload_n 0, 1) := by decide +kernel
theorem dX0_rowOf_39 : decode cX0_rowOf 39 = .ok (.aload_n 0, 1) := by decide +kernel
theorem dX0_rowOf_40 : decode cX0_rowOf 40 = .ok (.invokevirtual 51, 3) := by decide +kernel
theorem dX0_rowOf_43 : decode cX0_rowOf 43 = .ok (.putfield 55, 3) := by decide +kernel
theorem dX0_rowOf_46 : decode cX0_rowOf 46 = .ok (.aload_n 0, 1) := by decide +kernel
theorem dX0_rowOf_47 : decode cX0_rowOf 47 = .ok (.getfield 55, 3) := by decide +kernel
theorem dX0_rowOf_50 : decode cX0_rowOf 50 = .ok (.ifCond .eq 7, 3) := by decide +kernel
theorem dX0_rowOf_53 : decode cX0_rowOf 53 = .ok (.aload_n 0, 1) := by decide +kernel
theorem dX0_rowOf_54 : decode cX0_rowOf 54 = .ok (.invokevirtual 58, 3) := by decide +kernel
theorem dX0_rowOf_57 : decode cX0_rowOf 57 = .ok (.aload_n 0, 1) := by decide +kernel
theorem dX0_rowOf_58 : decode cX0_rowOf 58 = .ok (.getfield 55, 3) := by decide +kernel
theorem dX0_rowOf_61 : decode cX0_rowOf 61 = .ok (.ifCond .eq 10, 3) := by decide +kernel
theorem dX0_rowOf_64 : decode cX0_rowOf 64 = .ok (.aload_n 0, 1) := by decide +kernel
theorem dX0_rowOf_65 : decode cX0_rowOf 65 = .ok (.getfield 21, 3) := by decide +kernel
theorem dX0_rowOf_68 : decode cX0_rowOf 68 = .ok (.goto 4, 3) := by decide +kernel
theorem dX0_rowOf_71 : decode cX0_rowOf 71 = .ok (.aconst_null, 1) := by decide +kernel
theorem dX0_rowOf_72 : decode cX0_rowOf 72 = .ok (.areturn, 1) := by decide +kernel
theorem dX0_walk_0 : decode cX0_walk 0 = .ok (.aload_n 0, 1) := by decide +kernel
theorem dX0_walk_1 : decode cX0_walk 1 = .ok (.iconst 0, 1) := by decide +kernel
theorem dX0_walk_2 : decode cX0_walk 2 = .ok (.putfield 61, 3) := by decide +kernel
theorem dX0_walk_5 : decode cX0_walk 5 = .ok (.aload_n 0, 1) := by decide +kernel
theorem dX0_walk_6 : decode cX0_walk 6 = .ok (.iload_n 2, 1) := by decide +kernel
theorem dX0_walk_7 : decode cX0_walk 7 = .ok (.invokevirtual 64, 3) := by decide +kernel
theorem dX0_walk_10 : decode cX0_walk 10 = .ok (.ifCond .ne 4, 3) := by decide +kernel
theorem dX0_walk_13 : decode cX0_walk 13 = .ok (.return_, 1) := by decide +kernel
theorem dX0_walk_14 : decode cX0_walk 14 = .ok (.iconst 0, 1) := by decide +kernel
theorem dX0_walk_15 : decode cX0_walk 15 = .ok (.istore_n 3, 1) := by decide +kernel
theorem dX0_walk_16 : decode cX0_walk 16 = .ok (.aload_n 0, 1) := by decide +kernel
theorem dX0_walk_17 : decode cX0_walk 17 = .ok (.getfield 27, 3) := by decide +kernel
theorem dX0_walk_20 : decode cX0_walk 20 = .ok (.iload_n 2, 1) := by decide +kernel
theorem dX0_walk_21 : decode cX0_walk 21 = .ok (.iaload, 1) := by decide +kernel
theorem dX0_walk_22 : decode cX0_walk 22 = .ok (.istore 4, 2) := by decide +kernel
theorem dX0_walk_24 : decode cX0_walk 24 = .ok (.aload_n 0, 1) := by decide +kernel
theorem dX0_walk_25 : decode cX0_walk 25 = .ok (.getfield 61, 3) := by decide +kernel
theorem dX0_walk_28 : decode cX0_walk 28 = .ok (.bipush 24, 2) := by decide +kernel
theorem dX0_walk_30 : decode cX0_walk 30 = .ok (.if_icmp .ge 57, 3) := by decide +kernel
theorem dX0_walk_33 : decode cX0_walk 33 = .ok (.iload 4, 2) := by decide +kernel
theorem dX0_walk_35 : decode cX0_walk 35 = .ok (.invokestatic 39, 3) := by decide +kernel
theorem dX0_walk_38 : decode cX0_walk 38 = .ok (.ifCond .eq 49, 3) := by decide +kernel
theorem dX0_walk_41 : decode cX0_walk 41 = .ok (.iload_n 3, 1) := by decide +kernel
theorem dX0_walk_42 : decode cX0_walk 42 = .ok (.iload 4, 2) := by decide +kernel
theorem dX0_walk_44 : decode cX0_walk 44 = .ok (.ishr, 1) := by decide +kernel
theorem dX0_walk_45 : decode cX0_walk 45 = .ok (.iconst 1, 1) := by decide +kernel
theorem dX0_walk_46 : decode cX0_walk 46 = .ok (.iand, 1) := by decide +kernel
theorem dX0_walk_47 : decode cX0_walk 47 = .ok (.ifCond .ne 40, 3) := by decide +kernel
theorem dX0_walk_50 : decode cX0_walk 50 = .ok (.iload_n 3, 1) := by decide +kernel
theorem dX0_walk_51 : decode cX0_walk 51 = .ok (.iconst 1, 1) := by decide +kernel
theorem dX0_walk_52 : decode cX0_walk 52 = .ok (.iload 4, 2) := by decide +kernel
theorem dX0_walk_54 : decode cX0_walk 54 = .ok (.ishl, 1) := by decide +kernel
theorem dX0_walk_55 : decode cX0_walk 55 = .ok (.ior, 1) := by decide +kernel
theorem dX0_walk_56 : decode cX0_walk 56 = .ok (.istore_n 3, 1) := by decide +kernel
theorem dX0_walk_57 : decode cX0_walk 57 = .ok (.aload_n 0, 1) := by decide +kernel
theorem dX0_walk_58 : decode cX0_walk 58 = .ok (.getfield 9, 3) := by decide +kernel
theorem dX0_walk_61 : decode cX0_walk 61 = .ok (.aload_n 0, 1) := by decide +kernel
theorem dX0_walk_62 : decode cX0_walk 62 = .ok (.getfield 61, 3) := by decide +kernel
theorem dX0_walk_65 : decode cX0_walk 65 = .ok (.iload 4, 2) := by decide +kernel
theorem dX0_walk_67 : decode cX0_walk 67 = .ok (.iastore, 1) := by decide +kernel
theorem dX0_walk_68 : decode cX0_walk 68 = .ok (.aload_n 0, 1) := by decide +kernel
theorem dX0_walk_69 : decode cX0_walk 69 = .ok (.dup, 1) := by decide +kernel
theorem dX0_walk_70 : decode cX0_walk 70 = .ok (.getfield 61, 3) := by decide +kernel
theorem dX0_walk_73 : decode cX0_walk 73 = .ok (.iconst 1, 1) := by decide +kernel
theorem dX0_walk_74 : decode cX0_walk 74 = .ok (.iadd, 1) := by decide +kernel
theorem dX0_walk_75 : decode cX0_walk 75 = .ok (.putfield 61, 3) := by decide +kernel
theorem dX0_walk_78 : decode cX0_walk 78 = .ok (.aload_n 1, 1) := by decide +kernel
theorem dX0_walk_79 : decode cX0_walk 79 = .ok (.iload 4, 2) := by decide +kernel
theorem dX0_walk_81 : decode cX0_walk 81 = .ok (.iaload, 1) := by decide +kernel
theorem dX0_walk_82 : decode cX0_walk 82 = .ok (.istore 4, 2) := by decide +kernel
theorem dX0_walk_84 : decode cX0_walk 84 = .ok (.goto (-60), 3) := by decide +kernel
theorem dX0_walk_87 : decode cX0_walk 87 = .ok (.return_, 1) := by decide +kernel
theorem dX0_faultsBy_0 : decode cX0_faultsBy 0 = .ok (.iconst 0, 1) := by decide +kernel
theorem dX0_faultsBy_1 : decode cX0_faultsBy 1 = .ok (.istore_n 2, 1) := by decide +kernel
theorem dX0_faultsBy_2 : decode cX0_faultsBy 2 = .ok (.iconst 0, 1) := by decide +kernel
theorem dX0_faultsBy_3 : decode cX0_faultsBy 3 = .ok (.istore_n 3, 1) := by decide +kernel
theorem dX0_faultsBy_4 : decode cX0_faultsBy 4 = .ok (.iconst 0, 1) := by decide +kernel
theorem dX0_faultsBy_5 : decode cX0_faultsBy 5 = .ok (.istore 4, 2) := by decide +kernel
theorem dX0_faultsBy_7 : decode cX0_faultsBy 7 = .ok (.iload 4, 2) := by decide +kernel
theorem dX0_faultsBy_9 : decode cX0_faultsBy 9 = .ok (.aload_n 0, 1) := by decide +kernel
theorem dX0_faultsBy_10 : decode cX0_faultsBy 10 = .ok (.getfield 47, 3) := by decide +kernel
theorem dX0_faultsBy_13 : decode cX0_faultsBy 13 = .ok (.if_icmp .ge 120, 3) := by decide +kernel
theorem dX0_faultsBy_16 : decode cX0_faultsBy 16 = .ok (.iconst 0, 1) := by decide +kernel
theorem dX0_faultsBy_17 : decode cX0_faultsBy 17 = .ok (.istore 5, 2) := by decide +kernel
theorem dX0_faultsBy_19 : decode cX0_faultsBy 19 = .ok (.iconst 0, 1) := by decide +kernel
theorem dX0_faultsBy_20 : decode cX0_faultsBy 20 = .ok (.istore 6, 2) := by decide +kernel
theorem dX0_faultsBy_22 : decode cX0_faultsBy 22 = .ok (.aload_n 0, 1) := by decide +kernel
theorem dX0_faultsBy_23 : decode cX0_faultsBy 23 = .ok (.getfield 27, 3) := by decide +kernel
theorem dX0_faultsBy_26 : decode cX0_faultsBy 26 = .ok (.iload 4, 2) := by decide +kernel
theorem dX0_faultsBy_28 : decode cX0_faultsBy 28 = .ok (.iaload, 1) := by decide +kernel
theorem dX0_faultsBy_29 : decode cX0_faultsBy 29 = .ok (.istore 7, 2) := by decide +kernel
theorem dX0_faultsBy_31 : decode cX0_faultsBy 31 = .ok (.iload 6, 2) := by decide +kernel
theorem dX0_faultsBy_33 : decode cX0_faultsBy 33 = .ok (.bipush 24, 2) := by decide +kernel
theorem dX0_faultsBy_35 : decode cX0_faultsBy 35 = .ok (.if_icmp .ge 42, 3) := by decide +kernel
theorem dX0_faultsBy_38 : decode cX0_faultsBy 38 = .ok (.iload 7, 2) := by decide +kernel
theorem dX0_faultsBy_40 : decode cX0_faultsBy 40 = .ok (.invokestatic 39, 3) := by decide +kernel
theorem dX0_faultsBy_43 : decode cX0_faultsBy 43 = .ok (.ifCond .eq 34, 3) := by decide +kernel
theorem dX0_faultsBy_46 : decode cX0_faultsBy 46 = .ok (.iload 5, 2) := by decide +kernel
theorem dX0_faultsBy_48 : decode cX0_faultsBy 48 = .ok (.iload 7, 2) := by decide +kernel
theorem dX0_faultsBy_50 : decode cX0_faultsBy 50 = .ok (.ishr, 1) := by decide +kernel
theorem dX0_faultsBy_51 : decode cX0_faultsBy 51 = .ok (.iconst 1, 1) := by decide +kernel
theorem dX0_faultsBy_52 : decode cX0_faultsBy 52 = .ok (.iand, 1) := by decide +kernel
theorem dX0_faultsBy_53 : decode cX0_faultsBy 53 = .ok (.ifCond .ne 24, 3) := by decide +kernel
theorem dX0_faultsBy_56 : decode cX0_faultsBy 56 = .ok (.iload 5, 2) := by decide +kernel
theorem dX0_faultsBy_58 : decode cX0_faultsBy 58 = .ok (.iconst 1, 1) := by decide +kernel
theorem dX0_faultsBy_59 : decode cX0_faultsBy 59 = .ok (.iload 7, 2) := by decide +kernel
theorem dX0_faultsBy_61 : decode cX0_faultsBy 61 = .ok (.ishl, 1) := by decide +kernel
theorem dX0_faultsBy_62 : decode cX0_faultsBy 62 = .ok (.ior, 1) := by decide +kernel
theorem dX0_faultsBy_63 : decode cX0_faultsBy 63 = .ok (.istore 5, 2) := by decide +kernel
theorem dX0_faultsBy_65 : decode cX0_faultsBy 65 = .ok (.iinc 6 1, 3) := by decide +kernel
theorem dX0_faultsBy_68 : decode cX0_faultsBy 68 = .ok (.aload_n 1, 1) := by decide +kernel
theorem dX0_faultsBy_69 : decode cX0_faultsBy 69 = .ok (.iload 7, 2) := by decide +kernel
theorem dX0_faultsBy_71 : decode cX0_faultsBy 71 = .ok (.iaload, 1) := by decide +kernel
theorem dX0_faultsBy_72 : decode cX0_faultsBy 72 = .ok (.istore 7, 2) := by decide +kernel
theorem dX0_faultsBy_74 : decode cX0_faultsBy 74 = .ok (.goto (-43), 3) := by decide +kernel
theorem dX0_faultsBy_77 : decode cX0_faultsBy 77 = .ok (.iload_n 2, 1) := by decide +kernel
theorem dX0_faultsBy_78 : decode cX0_faultsBy 78 = .ok (.iload 6, 2) := by decide +kernel
theorem dX0_faultsBy_80 : decode cX0_faultsBy 80 = .ok (.aload_n 0, 1) := by decide +kernel
theorem dX0_faultsBy_81 : decode cX0_faultsBy 81 = .ok (.getfield 30, 3) := by decide +kernel
theorem dX0_faultsBy_84 : decode cX0_faultsBy 84 = .ok (.iload 4, 2) := by decide +kernel
theorem dX0_faultsBy_86 : decode cX0_faultsBy 86 = .ok (.iaload, 1) := by decide +kernel
theorem dX0_faultsBy_87 : decode cX0_faultsBy 87 = .ok (.if_icmp .ne 7, 3) := by decide +kernel
theorem dX0_faultsBy_90 : decode cX0_faultsBy 90 = .ok (.iconst 0, 1) := by decide +kernel
theorem dX0_faultsBy_91 : decode cX0_faultsBy 91 = .ok (.goto 4, 3) := by decide +kernel
theorem dX0_faultsBy_94 : decode cX0_faultsBy 94 = .ok (.iconst 1, 1) := by decide +kernel
theorem dX0_faultsBy_95 : decode cX0_faultsBy 95 = .ok (.iadd, 1) := by decide +kernel
theorem dX0_faultsBy_96 : decode cX0_faultsBy 96 = .ok (.istore_n 2, 1) := by decide +kernel
theorem dX0_faultsBy_97 : decode cX0_faultsBy 97 = .ok (.iload_n 2, 1) := by decide +kernel
theorem dX0_faultsBy_98 : decode cX0_faultsBy 98 = .ok (.iload 7, 2) := by decide +kernel
theorem dX0_faultsBy_100 : decode cX0_faultsBy 100 = .ok (.bipush 24, 2) := by decide +kernel
theorem dX0_faultsBy_102 : decode cX0_faultsBy 102 = .ok (.if_icmp .ne 7, 3) := by decide +kernel
theorem dX0_faultsBy_105 : decode cX0_faultsBy 105 = .ok (.iconst 0, 1) := by decide +kernel
theorem dX0_faultsBy_106 : decode cX0_faultsBy 106 = .ok (.goto 4, 3) := by decide +kernel
theorem dX0_faultsBy_109 : decode cX0_faultsBy 109 = .ok (.iconst 1, 1) := by decide +kernel
theorem dX0_faultsBy_110 : decode cX0_faultsBy 110 = .ok (.iadd, 1) := by decide +kernel
theorem dX0_faultsBy_111 : decode cX0_faultsBy 111 = .ok (.istore_n 2, 1) := by decide +kernel
theorem dX0_faultsBy_112 : decode cX0_faultsBy 112 = .ok (.iload_n 2, 1) := by decide +kernel
theorem dX0_faultsBy_113 : decode cX0_faultsBy 113 = .ok (.iload_n 3, 1) := by decide +kernel
theorem dX0_faultsBy_114 : decode cX0_faultsBy 114 = .ok (.iload 5, 2) := by decide +kernel
theorem dX0_faultsBy_116 : decode cX0_faultsBy 116 = .ok (.iand, 1) := by decide +kernel
theorem dX0_faultsBy_117 : decode cX0_faultsBy 117 = .ok (.invokestatic 67, 3) := by decide +kernel
theorem dX0_faultsBy_120 : decode cX0_faultsBy 120 = .ok (.iadd, 1) := by decide +kernel
theorem dX0_faultsBy_121 : decode cX0_faultsBy 121 = .ok (.istore_n 2, 1) := by decide +kernel
theorem dX0_faultsBy_122 : decode cX0_faultsBy 122 = .ok (.iload_n 3, 1) := by decide +kernel
theorem dX0_faultsBy_123 : decode cX0_faultsBy 123 = .ok (.iload 5, 2) := by decide +kernel
theorem dX0_faultsBy_125 : decode cX0_faultsBy 125 = .ok (.ior, 1) := by decide +kernel
theorem dX0_faultsBy_126 : decode cX0_faultsBy 126 = .ok (.istore_n 3, 1) := by decide +kernel
theorem dX0_faultsBy_127 : decode cX0_faultsBy 127 = .ok (.iinc 4 1, 3) := by decide +kernel
theorem dX0_faultsBy_130 : decode cX0_faultsBy 130 = .ok (.goto (-123), 3) := by decide +kernel
theorem dX0_faultsBy_133 : decode cX0_faultsBy 133 = .ok (.iload_n 2, 1) := by decide +kernel
theorem dX0_faultsBy_134 : decode cX0_faultsBy 134 = .ok (.aload_n 1, 1) := by decide +kernel
theorem dX0_faultsBy_135 : decode cX0_faultsBy 135 = .ok (.iload_n 3, 1) := by decide +kernel
theorem dX0_faultsBy_136 : decode cX0_faultsBy 136 = .ok (.invokestatic 73, 3) := by decide +kernel
theorem dX0_faultsBy_139 : decode cX0_faultsBy 139 = .ok (.iadd, 1) := by decide +kernel
theorem dX0_faultsBy_140 : decode cX0_faultsBy 140 = .ok (.ireturn, 1) := by decide +kernel
theorem dX0_inFiles_0 : decode cX0_inFiles 0 = .ok (.aload_n 0, 1) := by decide +kernel
theorem dX0_inFiles_1 : decode cX0_inFiles 1 = .ok (.iconst 2, 1) := by decide +kernel
theorem dX0_inFiles_2 : decode cX0_inFiles 2 = .ok (.invokevirtual 77, 3) := by decide +kernel
theorem dX0_inFiles_5 : decode cX0_inFiles 5 = .ok (.astore_n 1, 1) := by decide +kernel
theorem dX0_inFiles_6 : decode cX0_inFiles 6 = .ok (.aload_n 1, 1) := by decide +kernel
theorem dX0_inFiles_7 : decode cX0_inFiles 7 = .ok (.ifnonnull 6, 3) := by decide +kernel
theorem dX0_inFiles_10 : decode cX0_inFiles 10 = .ok (.ldc 81, 2) := by decide +kernel
theorem dX0_inFiles_12 : decode cX0_inFiles 12 = .ok (.ireturn, 1) := by decide +kernel
theorem dX0_inFiles_13 : decode cX0_inFiles 13 = .ok (.iconst 0, 1) := by decide +kernel
theorem dX0_inFiles_14 : decode cX0_inFiles 14 = .ok (.istore_n 2, 1) := by decide +kernel
theorem dX0_inFiles_15 : decode cX0_inFiles 15 = .ok (.iconst 0, 1) := by decide +kernel
theorem dX0_inFiles_16 : decode cX0_inFiles 16 = .ok (.istore_n 3, 1) := by decide +kernel
theorem dX0_inFiles_17 : decode cX0_inFiles 17 = .ok (.iload_n 3, 1) := by decide +kernel
theorem dX0_inFiles_18 : decode cX0_inFiles 18 = .ok (.aload_n 0, 1) := by decide +kernel
theorem dX0_inFiles_19 : decode cX0_inFiles 19 = .ok (.getfield 47, 3) := by decide +kernel
theorem dX0_inFiles_22 : decode cX0_inFiles 22 = .ok (.if_icmp .ge 45, 3) := by decide +kernel
theorem dX0_inFiles_25 : decode cX0_inFiles 25 = .ok (.aload_n 0, 1) := by decide +kernel
theorem dX0_inFiles_26 : decode cX0_inFiles 26 = .ok (.aload_n 1, 1) := by decide +kernel
theorem dX0_inFiles_27 : decode cX0_inFiles 27 = .ok (.iload_n 3, 1) := by decide +kernel
theorem dX0_inFiles_28 : decode cX0_inFiles 28 = .ok (.invokevirtual 82, 3) := by decide +kernel
theorem dX0_inFiles_31 : decode cX0_inFiles 31 = .ok (.iconst 0, 1) := by decide +kernel
theorem dX0_inFiles_32 : decode cX0_inFiles 32 = .ok (.istore 4, 2) := by decide +kernel
theorem dX0_inFiles_34 : decode cX0_inFiles 34 = .ok (.iload 4, 2) := by decide +kernel
theorem dX0_inFiles_36 : decode cX0_inFiles 36 = .ok (.aload_n 0, 1) := by decide +kernel
theorem dX0_inFiles_37 : decode cX0_inFiles 37 = .ok (.getfield 61, 3) := by decide +kernel
theorem dX0_inFiles_40 : decode cX0_inFiles 40 = .ok (.if_icmp .ge 21, 3) := by decide +kernel
theorem dX0_inFiles_43 : decode cX0_inFiles 43 = .ok (.iload_n 2, 1) := by decide +kernel
theorem dX0_inFiles_44 : decode cX0_inFiles 44 = .ok (.iconst 1, 1) := by decide +kernel
theorem dX0_inFiles_45 : decode cX0_inFiles 45 = .ok (.aload_n 0, 1) := by decide +kernel
theorem dX0_inFiles_46 : decode cX0_inFiles 46 = .ok (.getfield 9, 3) := by decide +kernel
theorem dX0_inFiles_49 : decode cX0_inFiles 49 = .ok (.iload 4, 2) := by decide +kernel
theorem dX0_inFiles_51 : decode cX0_inFiles 51 = .ok (.iaload, 1) := by decide +kernel
theorem dX0_inFiles_52 : decode cX0_inFiles 52 = .ok (.ishl, 1) := by decide +kernel
theorem dX0_inFiles_53 : decode cX0_inFiles 53 = .ok (.ior, 1) := by decide +kernel
theorem dX0_inFiles_54 : decode cX0_inFiles 54 = .ok (.istore_n 2, 1) := by decide +kernel
theorem dX0_inFiles_55 : decode cX0_inFiles 55 = .ok (.iinc 4 1, 3) := by decide +kernel
theorem dX0_inFiles_58 : decode cX0_inFiles 58 = .ok (.goto (-24), 3) := by decide +kernel
theorem dX0_inFiles_61 : decode cX0_inFiles 61 = .ok (.iinc 3 1, 3) := by decide +kernel
theorem dX0_inFiles_64 : decode cX0_inFiles 64 = .ok (.goto (-47), 3) := by decide +kernel
theorem dX0_inFiles_67 : decode cX0_inFiles 67 = .ok (.iload_n 2, 1) := by decide +kernel
theorem dX0_inFiles_68 : decode cX0_inFiles 68 = .ok (.ireturn, 1) := by decide +kernel
theorem dX0_lostOnes_0 : decode cX0_lostOnes 0 = .ok (.iconst 0, 1) := by decide +kernel
theorem dX0_lostOnes_1 : decode cX0_lostOnes 1 = .ok (.istore_n 2, 1) := by decide +kernel
theorem dX0_lostOnes_2 : decode cX0_lostOnes 2 = .ok (.iconst 0, 1) := by decide +kernel
theorem dX0_lostOnes_3 : decode cX0_lostOnes 3 = .ok (.istore_n 3, 1) := by decide +kernel
theorem dX0_lostOnes_4 : decode cX0_lostOnes 4 = .ok (.iload_n 3, 1) := by decide +kernel
theorem dX0_lostOnes_5 : decode cX0_lostOnes 5 = .ok (.bipush 24, 2) := by decide +kernel
theorem dX0_lostOnes_7 : decode cX0_lostOnes 7 = .ok (.if_icmp .ge 36, 3) := by decide +kernel
theorem dX0_lostOnes_10 : decode cX0_lostOnes 10 = .ok (.iload_n 1, 1) := by decide +kernel
theorem dX0_lostOnes_11 : decode cX0_lostOnes 11 = .ok (.iload_n 3, 1) := by decide +kernel
theorem dX0_lostOnes_12 : decode cX0_lostOnes 12 = .ok (.ishr, 1) := by decide +kernel
theorem dX0_lostOnes_13 : decode cX0_lostOnes 13 = .ok (.iconst 1, 1) := by decide +kernel
theorem dX0_lostOnes_14 : decode cX0_lostOnes 14 = .ok (.iand, 1) := by decide +kernel
theorem dX0_lostOnes_15 : decode cX0_lostOnes 15 = .ok (.ifCond .ne 22, 3) := by decide +kernel
theorem dX0_lostOnes_18 : decode cX0_lostOnes 18 = .ok (.aload_n 0, 1) := by decide +kernel
theorem dX0_lostOnes_19 : decode cX0_lostOnes 19 = .ok (.iload_n 3, 1) := by decide +kernel
theorem dX0_lostOnes_20 : decode cX0_lostOnes 20 = .ok (.iaload, 1) := by decide +kernel
theorem dX0_lostOnes_21 : decode cX0_lostOnes 21 = .ok (.bipush 25, 2) := by decide +kernel
theorem dX0_lostOnes_23 : decode cX0_lostOnes 23 = .ok (.if_icmp .eq 14, 3) := by decide +kernel
theorem dX0_lostOnes_26 : decode cX0_lostOnes 26 = .ok (.aload_n 0, 1) := by decide +kernel
theorem dX0_lostOnes_27 : decode cX0_lostOnes 27 = .ok (.iload_n 3, 1) := by decide +kernel
theorem dX0_lostOnes_28 : decode cX0_lostOnes 28 = .ok (.iaload, 1) := by decide +kernel
theorem dX0_lostOnes_29 : decode cX0_lostOnes 29 = .ok (.bipush 26, 2) := by decide +kernel
theorem dX0_lostOnes_31 : decode cX0_lostOnes 31 = .ok (.if_icmp .eq 6, 3) := by decide +kernel
theorem dX0_lostOnes_34 : decode cX0_lostOnes 34 = .ok (.iinc 2 1, 3) := by decide +kernel
theorem dX0_lostOnes_37 : decode cX0_lostOnes 37 = .ok (.iinc 3 1, 3) := by decide +kernel
theorem dX0_lostOnes_40 : decode cX0_lostOnes 40 = .ok (.goto (-36), 3) := by decide +kernel
theorem dX0_lostOnes_43 : decode cX0_lostOnes 43 = .ok (.iload_n 2, 1) := by decide +kernel
theorem dX0_lostOnes_44 : decode cX0_lostOnes 44 = .ok (.ireturn, 1) := by decide +kernel
theorem dX0_findUnlike_0 : decode cX0_findUnlike 0 = .ok (.aload_n 0, 1) := by decide +kernel
theorem dX0_findUnlike_1 : decode cX0_findUnlike 1 = .ok (.iconst 0, 1) := by decide +kernel
theorem dX0_findUnlike_2 : decode cX0_findUnlike 2 = .ok (.putfield 85, 3) := by decide +kernel
theorem dX0_findUnlike_5 : decode cX0_findUnlike 5 = .ok (.iconst 0, 1) := by decide +kernel
theorem dX0_findUnlike_6 : decode cX0_findUnlike 6 = .ok (.istore_n 1, 1) := by decide +kernel
theorem dX0_findUnlike_7 : decode cX0_findUnlike 7 = .ok (.iload_n 1, 1) := by decide +kernel
theorem dX0_findUnlike_8 : decode cX0_findUnlike 8 = .ok (.bipush 24, 2) := by decide +kernel
theorem dX0_findUnlike_10 : decode cX0_findUnlike 10 = .ok (.if_icmp .ge 55, 3) := by decide +kernel
theorem dX0_findUnlike_13 : decode cX0_findUnlike 13 = .ok (.aload_n 0, 1) := by decide +kernel
theorem dX0_findUnlike_14 : decode cX0_findUnlike 14 = .ok (.getfield 15, 3) := by decide +kernel
theorem dX0_findUnlike_17 : decode cX0_findUnlike 17 = .ok (.iload_n 1, 1) := by decide +kernel
theorem dX0_findUnlike_18 : decode cX0_findUnlike 18 = .ok (.iaload, 1) := by decide +kernel
theorem dX0_findUnlike_19 : decode cX0_findUnlike 19 = .ok (.aload_n 0, 1) := by decide +kernel
theorem dX0_findUnlike_20 : decode cX0_findUnlike 20 = .ok (.getfield 18, 3) := by decide +kernel
theorem dX0_findUnlike_23 : decode cX0_findUnlike 23 = .ok (.iload_n 1, 1) := by decide +kernel
theorem dX0_findUnlike_24 : decode cX0_findUnlike 24 = .ok (.iaload, 1) := by decide +kernel
theorem dX0_findUnlike_25 : decode cX0_findUnlike 25 = .ok (.if_icmp .eq 34, 3) := by decide +kernel
theorem dX0_findUnlike_28 : decode cX0_findUnlike 28 = .ok (.aload_n 0, 1) := by decide +kernel
theorem dX0_findUnlike_29 : decode cX0_findUnlike 29 = .ok (.getfield 85, 3) := by decide +kernel
theorem dX0_findUnlike_32 : decode cX0_findUnlike 32 = .ok (.bipush 12, 2) := by decide +kernel
theorem dX0_findUnlike_34 : decode cX0_findUnlike 34 = .ok (.if_icmp .lt 5, 3) := by decide +kernel
theorem dX0_findUnlike_37 : decode cX0_findUnlike 37 = .ok (.iconst 0, 1) := by decide +kernel
theorem dX0_findUnlike_38 : decode cX0_findUnlike 38 = .ok (.ireturn, 1) := by decide +kernel
theorem dX0_findUnlike_39 : decode cX0_findUnlike 39 = .ok (.aload_n 0, 1) := by decide +kernel
theorem dX0_findUnlike_40 : decode cX0_findUnlike 40 = .ok (.getfield 24, 3) := by decide +kernel
theorem dX0_findUnlike_43 : decode cX0_findUnlike 43 = .ok (.aload_n 0, 1) := by decide +kernel
theorem dX0_findUnlike_44 : decode cX0_findUnlike 44 = .ok (.getfield 85, 3) := by decide +kernel
theorem dX0_findUnlike_47 : decode cX0_findUnlike 47 = .ok (.iload_n 1, 1) := by decide +kernel
theorem dX0_findUnlike_48 : decode cX0_findUnlike 48 = .ok (.iastore, 1) := by decide +kernel
theorem dX0_findUnlike_49 : decode cX0_findUnlike 49 = .ok (.aload_n 0, 1) := by decide +kernel
theorem dX0_findUnlike_50 : decode cX0_findUnlike 50 = .ok (.dup, 1) := by decide +kernel
theorem dX0_findUnlike_51 : decode cX0_findUnlike 51 = .ok (.getfield 85, 3) := by decide +kernel
theorem dX0_findUnlike_54 : decode cX0_findUnlike 54 = .ok (.iconst 1, 1) := by decide +kernel
theorem dX0_findUnlike_55 : decode cX0_findUnlike 55 = .ok (.iadd, 1) := by decide +kernel
theorem dX0_findUnlike_56 : decode cX0_findUnlike 56 = .ok (.putfield 85, 3) := by decide +kernel
theorem dX0_findUnlike_59 : decode cX0_findUnlike 59 = .ok (.iinc 1 1, 3) := by decide +kernel
theorem dX0_findUnlike_62 : decode cX0_findUnlike 62 = .ok (.goto (-55), 3) := by decide +kernel
theorem dX0_findUnlike_65 : decode cX0_findUnlike 65 = .ok (.iconst 1, 1) := by decide +kernel
theorem dX0_findUnlike_66 : decode cX0_findUnlike 66 = .ok (.ireturn, 1) := by decide +kernel
theorem dX0_join_0 : decode cX0_join 0 = .ok (.aload_n 0, 1) := by decide +kernel
theorem dX0_join_1 : decode cX0_join 1 = .ok (.getfield 15, 3) := by decide +kernel
theorem dX0_join_4 : decode cX0_join 4 = .ok (.iconst 0, 1) := by decide +kernel
theorem dX0_join_5 : decode cX0_join 5 = .ok (.aload_n 0, 1) := by decide +kernel
theorem dX0_join_6 : decode cX0_join 6 = .ok (.getfield 21, 3) := by decide +kernel
theorem dX0_join_9 : decode cX0_join 9 = .ok (.iconst 0, 1) := by decide +kernel
theorem dX0_join_10 : decode cX0_join 10 = .ok (.bipush 24, 2) := by decide +kernel
theorem dX0_join_12 : decode cX0_join 12 = .ok (.invokestatic 88, 3) := by decide +kernel
theorem dX0_join_15 : decode cX0_join 15 = .ok (.iconst 0, 1) := by decide +kernel
theorem dX0_join_16 : decode cX0_join 16 = .ok (.istore_n 1, 1) := by decide +kernel
theorem dX0_join_17 : decode cX0_join 17 = .ok (.aload_n 0, 1) := by decide +kernel
theorem dX0_join_18 : decode cX0_join 18 = .ok (.aload_n 0, 1) := by decide +kernel
theorem dX0_join_19 : decode cX0_join 19 = .ok (.getfield 21, 3) := by decide +kernel
theorem dX0_join_22 : decode cX0_join 22 = .ok (.invokevirtual 94, 3) := by decide +kernel
theorem dX0_join_25 : decode cX0_join 25 = .ok (.istore_n 2, 1) := by decide +kernel
theorem dX0_join_26 : decode cX0_join 26 = .ok (.iconst 1, 1) := by decide +kernel
theorem dX0_join_27 : decode cX0_join 27 = .ok (.istore_n 3, 1) := by decide +kernel
theorem dX0_join_28 : decode cX0_join 28 = .ok (.iload_n 3, 1) := by decide +kernel
theorem dX0_join_29 : decode cX0_join 29 = .ok (.iconst 1, 1) := by decide +kernel
theorem dX0_join_30 : decode cX0_join 30 = .ok (.aload_n 0, 1) := by decide +kernel
theorem dX0_join_31 : decode cX0_join 31 = .ok (.getfield 85, 3) := by decide +kernel
theorem dX0_join_34 : decode cX0_join 34 = .ok (.ishl, 1) := by decide +kernel
theorem dX0_join_35 : decode cX0_join 35 = .ok (.if_icmp .ge 69, 3) := by decide +kernel
theorem dX0_join_38 : decode cX0_join 38 = .ok (.aload_n 0, 1) := by decide +kernel
theorem dX0_join_39 : decode cX0_join 39 = .ok (.iload_n 3, 1) := by decide +kernel
theorem dX0_join_40 : decode cX0_join 40 = .ok (.iload_n 3, 1) := by decide +kernel
theorem dX0_join_41 : decode cX0_join 41 = .ok (.iload_n 3, 1) := by decide +kernel
theorem dX0_join_42 : decode cX0_join 42 = .ok (.iconst 1, 1) := by decide +kernel
theorem dX0_join_43 : decode cX0_join 43 = .ok (.isub, 1) := by decide +kernel
theorem dX0_join_44 : decode cX0_join 44 = .ok (.ixor, 1) := by decide +kernel
theorem dX0_join_45 : decode cX0_join 45 = .ok (.invokevirtual 98, 3) := by decide +kernel
theorem dX0_join_48 : decode cX0_join 48 = .ok (.aload_n 0, 1) := by decide +kernel
theorem dX0_join_49 : decode cX0_join 49 = .ok (.aload_n 0, 1) := by decide +kernel
theorem dX0_join_50 : decode cX0_join 50 = .ok (.getfield 21, 3) := by decide +kernel
theorem dX0_join_53 : decode cX0_join 53 = .ok (.invokevirtual 94, 3) := by decide +kernel
theorem dX0_join_56 : decode cX0_join 56 = .ok (.istore 4, 2) := by decide +kernel
theorem dX0_join_58 : decode cX0_join 58 = .ok (.iload_n 3, 1) := by decide +kernel
theorem dX0_join_59 : decode cX0_join 59 = .ok (.invokestatic 67, 3) := by decide +kernel
theorem dX0_join_62 : decode cX0_join 62 = .ok (.iload_n 1, 1) := by decide +kernel
theorem dX0_join_63 : decode cX0_join 63 = .ok (.invokestatic 67, 3) := by decide +kernel
theorem dX0_join_66 : decode cX0_join 66 = .ok (.if_icmp .ge 7, 3) := by decide +kernel
theorem dX0_join_69 : decode cX0_join 69 = .ok (.iconst 1, 1) := by decide +kernel
theorem dX0_join_70 : decode cX0_join 70 = .ok (.goto 4, 3) := by decide +kernel
theorem dX0_join_73 : decode cX0_join 73 = .ok (.iconst 0, 1) := by decide +kernel
theorem dX0_join_74 : decode cX0_join 74 = .ok (.istore 5, 2) := by decide +kernel
theorem dX0_join_76 : decode cX0_join 76 = .ok (.iload 4, 2) := by decide +kernel
theorem dX0_join_78 : decode cX0_join 78 = .ok (.iload_n 2, 1) := by decide +kernel
theorem dX0_join_79 : decode cX0_join 79 = .ok (.if_icmp .lt 14, 3) := by decide +kernel
theorem dX0_join_82 : decode cX0_join 82 = .ok (.iload 4, 2) := by decide +kernel
theorem dX0_join_84 : decode cX0_join 84 = .ok (.iload_n 2, 1) := by decide +kernel
theorem dX0_join_85 : decode cX0_join 85 = .ok (.if_icmp .ne 13, 3) := by decide +kernel
theorem dX0_join_88 : decode cX0_join 88 = .ok (.iload 5, 2) := by decide +kernel
theorem dX0_join_90 : decode cX0_join 90 = .ok (.ifCond .eq 8, 3) := by decide +kernel
theorem dX0_join_93 : decode cX0_join 93 = .ok (.iload_n 3, 1) := by decide +kernel
theorem dX0_join_94 : decode cX0_join 94 = .ok (.istore_n 1, 1) := by decide +kernel
theorem dX0_join_95 : decode cX0_join 95 = .ok (.iload 4, 2) := by decide +kernel
theorem dX0_join_97 : decode cX0_join 97 = .ok (.istore_n 2, 1) := by decide +kernel
theorem dX0_join_98 : decode cX0_join 98 = .ok (.iinc 3 1, 3) := by decide +kernel
theorem dX0_join_101 : decode cX0_join 101 = .ok (.goto (-73), 3) := by decide +kernel
theorem dX0_join_104 : decode cX0_join 104 = .ok (.aload_n 0, 1) := by decide +kernel
theorem dX0_join_105 : decode cX0_join 105 = .ok (.iload_n 1, 1) := by decide +kernel
theorem dX0_join_106 : decode cX0_join 106 = .ok (.iconst (-1), 1) := by decide +kernel
theorem dX0_join_107 : decode cX0_join 107 = .ok (.invokevirtual 98, 3) := by decide +kernel
theorem dX0_join_110 : decode cX0_join 110 = .ok (.return_, 1) := by decide +kernel
theorem dX0_choose_0 : decode cX0_choose 0 = .ok (.iconst 0, 1) := by decide +kernel
theorem dX0_choose_1 : decode cX0_choose 1 = .ok (.istore_n 3, 1) := by decide +kernel
theorem dX0_choose_2 : decode cX0_choose 2 = .ok (.iload_n 3, 1) := by decide +kernel
theorem dX0_choose_3 : decode cX0_choose 3 = .ok (.aload_n 0, 1) := by decide +kernel
theorem dX0_choose_4 : decode cX0_choose 4 = .ok (.getfield 85, 3) := by decide +kernel
theorem dX0_choose_7 : decode cX0_choose 7 = .ok (.if_icmp .ge 55, 3) := by decide +kernel
theorem dX0_choose_10 : decode cX0_choose 10 = .ok (.iload_n 2, 1) := by decide +kernel
theorem dX0_choose_11 : decode cX0_choose 11 = .ok (.iload_n 3, 1) := by decide +kernel
theorem dX0_choose_12 : decode cX0_choose 12 = .ok (.ishr, 1) := by decide +kernel
theorem dX0_choose_13 : decode cX0_choose 13 = .ok (.ifCond .eq 49, 3) := by decide +kernel
theorem dX0_choose_16 : decode cX0_choose 16 = .ok (.aload_n 0, 1) := by decide +kernel
theorem dX0_choose_17 : decode cX0_choose 17 = .ok (.getfield 24, 3) := by decide +kernel
theorem dX0_choose_20 : decode cX0_choose 20 = .ok (.iload_n 3, 1) := by decide +kernel
theorem dX0_choose_21 : decode cX0_choose 21 = .ok (.iaload, 1) := by decide +kernel
theorem dX0_choose_22 : decode cX0_choose 22 = .ok (.istore 4, 2) := by decide +kernel
theorem dX0_choose_24 : decode cX0_choose 24 = .ok (.aload_n 0, 1) := by decide +kernel
theorem dX0_choose_25 : decode cX0_choose 25 = .ok (.getfield 21, 3) := by decide +kernel
theorem dX0_choose_28 : decode cX0_choose 28 = .ok (.iload 4, 2) := by decide +kernel
theorem dX0_choose_30 : decode cX0_choose 30 = .ok (.iload_n 1, 1) := by decide +kernel
theorem dX0_choose_31 : decode cX0_choose 31 = .ok (.iload_n 3, 1) := by decide +kernel
theorem dX0_choose_32 : decode cX0_choose 32 = .ok (.ishr, 1) := by decide +kernel
theorem dX0_choose_33 : decode cX0_choose 33 = .ok (.iconst 1, 1) := by decide +kernel
theorem dX0_choose_34 : decode cX0_choose 34 = .ok (.iand, 1) := by decide +kernel
theorem dX0_choose_35 : decode cX0_choose 35 = .ok (.ifCond .eq 13, 3) := by decide +kernel
theorem dX0_choose_38 : decode cX0_choose 38 = .ok (.aload_n 0, 1) := by decide +kernel
theorem dX0_choose_39 : decode cX0_choose 39 = .ok (.getfield 18, 3) := by decide +kernel
theorem dX0_choose_42 : decode cX0_choose 42 = .ok (.iload 4, 2) := by decide +kernel
theorem dX0_choose_44 : decode cX0_choose 44 = .ok (.iaload, 1) := by decide +kernel
theorem dX0_choose_45 : decode cX0_choose 45 = .ok (.goto 10, 3) := by decide +kernel
theorem dX0_choose_48 : decode cX0_choose 48 = .ok (.aload_n 0, 1) := by decide +kernel
theorem dX0_choose_49 : decode cX0_choose 49 = .ok (.getfield 15, 3) := by decide +kernel
theorem dX0_choose_52 : decode cX0_choose 52 = .ok (.iload 4, 2) := by decide +kernel
theorem dX0_choose_54 : decode cX0_choose 54 = .ok (.iaload, 1) := by decide +kernel
theorem dX0_choose_55 : decode cX0_choose 55 = .ok (.iastore, 1) := by decide +kernel
theorem dX0_choose_56 : decode cX0_choose 56 = .ok (.iinc 3 1, 3) := by decide +kernel
theorem dX0_choose_59 : decode cX0_choose 59 = .ok (.goto (-57), 3) := by decide +kernel
theorem dX0_choose_62 : decode cX0_choose 62 = .ok (.return_, 1) := by decide +kernel
theorem dX1_init_0 : decode cX1_init 0 = .ok (.aload_n 0, 1) := by decide +kernel
theorem dX1_init_1 : decode cX1_init 1 = .ok (.invokespecial 3, 3) := by decide +kernel
theorem dX1_init_4 : decode cX1_init 4 = .ok (.aload_n 0, 1) := by decide +kernel
theorem dX1_init_5 : decode cX1_init 5 = .ok (.bipush 8, 2) := by decide +kernel
theorem dX1_init_7 : decode cX1_init 7 = .ok (.anewarray 9, 3) := by decide +kernel
theorem dX1_init_10 : decode cX1_init 10 = .ok (.putfield 11, 3) := by decide +kernel
theorem dX1_init_13 : decode cX1_init 13 = .ok (.iconst 0, 1) := by decide +kernel
theorem dX1_init_14 : decode cX1_init 14 = .ok (.istore_n 1, 1) := by decide +kernel
theorem dX1_init_15 : decode cX1_init 15 = .ok (.iload_n 1, 1) := by decide +kernel
theorem dX1_init_16 : decode cX1_init 16 = .ok (.bipush 8, 2) := by decide +kernel
theorem dX1_init_18 : decode cX1_init 18 = .ok (.if_icmp .ge 22, 3) := by decide +kernel
theorem dX1_init_21 : decode cX1_init 21 = .ok (.aload_n 0, 1) := by decide +kernel
theorem dX1_init_22 : decode cX1_init 22 = .ok (.getfield 11, 3) := by decide +kernel
theorem dX1_init_25 : decode cX1_init 25 = .ok (.iload_n 1, 1) := by decide +kernel
theorem dX1_init_26 : decode cX1_init 26 = .ok (.new 9, 3) := by decide +kernel
theorem dX1_init_29 : decode cX1_init 29 = .ok (.dup, 1) := by decide +kernel
theorem dX1_init_30 : decode cX1_init 30 = .ok (.invokespecial 17, 3) := by decide +kernel
theorem dX1_init_33 : decode cX1_init 33 = .ok (.aastore, 1) := by decide +kernel
theorem dX1_init_34 : decode cX1_init 34 = .ok (.iinc 1 1, 3) := by decide +kernel
theorem dX1_init_37 : decode cX1_init 37 = .ok (.goto (-22), 3) := by decide +kernel
theorem dX1_init_40 : decode cX1_init 40 = .ok (.return_, 1) := by decide +kernel
theorem dX1_search_0 : decode cX1_search 0 = .ok (.aload_n 0, 1) := by decide +kernel
theorem dX1_search_1 : decode cX1_search 1 = .ok (.iconst 0, 1) := by decide +kernel
theorem dX1_search_2 : decode cX1_search 2 = .ok (.putfield 18, 3) := by decide +kernel
theorem dX1_search_5 : decode cX1_search 5 = .ok (.iconst 4, 1) := by decide +kernel
theorem dX1_search_6 : decode cX1_search 6 = .ok (.aload_n 2, 1) := by decide +kernel
theorem dX1_search_7 : decode cX1_search 7 = .ok (.getfield 22, 3) := by decide +kernel
theorem dX1_search_10 : decode cX1_search 10 = .ok (.iadd, 1) := by decide +kernel
theorem dX1_search_11 : decode cX1_search 11 = .ok (.bipush 16, 2) := by decide +kernel
theorem dX1_search_13 : decode cX1_search 13 = .ok (.imul, 1) := by decide +kernel
theorem dX1_search_14 : decode cX1_search 14 = .ok (.istore_n 3, 1) := by decide +kernel
theorem dX1_search_15 : decode cX1_search 15 = .ok (.iconst 0, 1) := by decide +kernel
theorem dX1_search_16 : decode cX1_search 16 = .ok (.istore 4, 2) := by decide +kernel
theorem dX1_search_18 : decode cX1_search 18 = .ok (.iconst 0, 1) := by decide +kernel
theorem dX1_search_19 : decode cX1_search 19 = .ok (.istore 5, 2) := by decide +kernel
theorem dX1_search_21 : decode cX1_search 21 = .ok (.iconst 0, 1) := by decide +kernel
theorem dX1_search_22 : decode cX1_search 22 = .ok (.istore 6, 2) := by decide +kernel
theorem dX1_search_24 : decode cX1_search 24 = .ok (.iload 6, 2) := by decide +kernel
theorem dX1_search_26 : decode cX1_search 26 = .ok (.iload_n 3, 1) := by decide +kernel
theorem dX1_search_27 : decode cX1_search 27 = .ok (.iadd, 1) := by decide +kernel
theorem dX1_search_28 : decode cX1_search 28 = .ok (.aload_n 1, 1) := by decide +kernel
theorem dX1_search_29 : decode cX1_search 29 = .ok (.getfield 25, 3) := by decide +kernel
theorem dX1_search_32 : decode cX1_search 32 = .ok (.if_icmp .ge 91, 3) := by decide +kernel
theorem dX1_search_35 : decode cX1_search 35 = .ok (.aload_n 0, 1) := by decide +kernel
theorem dX1_search_36 : decode cX1_search 36 = .ok (.getfield 18, 3) := by decide +kernel
theorem dX1_search_39 : decode cX1_search 39 = .ok (.bipush 8, 2) := by decide +kernel
theorem dX1_search_41 : decode cX1_search 41 = .ok (.if_icmp .ge 82, 3) := by decide +kernel
theorem dX1_search_44 : decode cX1_search 44 = .ok (.iload 4, 2) := by decide +kernel
theorem dX1_search_46 : decode cX1_search 46 = .ok (.iconst 1, 1) := by decide +kernel
theorem dX1_search_47 : decode cX1_search 47 = .ok (.ishl, 1) := by decide +kernel
theorem dX1_search_48 : decode cX1_search 48 = .ok (.aload_n 1, 1) := by decide +kernel
theorem dX1_search_49 : decode cX1_search 49 = .ok (.getfield 28, 3) := by decide +kernel
theorem dX1_search_52 : decode cX1_search 52 = .ok (.iload 6, 2) := by decide +kernel
theorem dX1_search_54 : decode cX1_search 54 = .ok (.iaload, 1) := by decide +kernel
theorem dX1_search_55 : decode cX1_search 55 = .ok (.ior, 1) := by decide +kernel
theorem dX1_search_56 : decode cX1_search 56 = .ok (.ldc 32, 2) := by decide +kernel
theorem dX1_search_58 : decode cX1_search 58 = .ok (.iand, 1) := by decide +kernel
theorem dX1_search_59 : decode cX1_search 59 = .ok (.istore 4, 2) := by decide +kernel
theorem dX1_search_61 : decode cX1_search 61 = .ok (.iinc 5 1, 3) := by decide +kernel
theorem dX1_search_64 : decode cX1_search 64 = .ok (.iload 5, 2) := by decide +kernel
theorem dX1_search_66 : decode cX1_search 66 = .ok (.bipush 16, 2) := by decide +kernel
theorem dX1_search_68 : decode cX1_search 68 = .ok (.if_icmp .lt 49, 3) := by decide +kernel
theorem dX1_search_71 : decode cX1_search 71 = .ok (.iload 4, 2) := by decide +kernel
theorem dX1_search_73 : decode cX1_search 73 = .ok (.aload_n 2, 1) := by decide +kernel
theorem dX1_search_74 : decode cX1_search 74 = .ok (.getfield 33, 3) := by decide +kernel
theorem dX1_search_77 : decode cX1_search 77 = .ok (.if_icmp .ne 40, 3) := by decide +kernel
theorem dX1_search_80 : decode cX1_search 80 = .ok (.aload_n 0, 1) := by decide +kernel
theorem dX1_search_81 : decode cX1_search 81 = .ok (.getfield 11, 3) := by decide +kernel
theorem dX1_search_84 : decode cX1_search 84 = .ok (.aload_n 0, 1) := by decide +kernel
theorem dX1_search_85 : decode cX1_search 85 = .ok (.getfield 18, 3) := by decide +kernel
theorem dX1_search_88 : decode cX1_search 88 = .ok (.aaload, 1) := by decide +kernel
theorem dX1_search_89 : decode cX1_search 89 = .ok (.aload_n 1, 1) := by decide +kernel
theorem dX1_search_90 : decode cX1_search 90 = .ok (.iload 6, 2) := by decide +kernel
theorem dX1_search_92 : decode cX1_search 92 = .ok (.iconst 1, 1) := by decide +kernel
theorem dX1_search_93 : decode cX1_search 93 = .ok (.iadd, 1) := by decide +kernel
theorem dX1_search_94 : decode cX1_search 94 = .ok (.aload_n 2, 1) := by decide +kernel
theorem dX1_search_95 : decode cX1_search 95 = .ok (.invokevirtual 36, 3) := by decide +kernel
theorem dX1_search_98 : decode cX1_search 98 = .ok (.aload_n 0, 1) := by decide +kernel
theorem dX1_search_99 : decode cX1_search 99 = .ok (.dup, 1) := by decide +kernel
theorem dX1_search_100 : decode cX1_search 100 = .ok (.getfield 18, 3) := by decide +kernel
theorem dX1_search_103 : decode cX1_search 103 = .ok (.iconst 1, 1) := by decide +kernel
theorem dX1_search_104 : decode cX1_search 104 = .ok (.iadd, 1) := by decide +kernel
theorem dX1_search_105 : decode cX1_search 105 = .ok (.putfield 18, 3) := by decide +kernel
theorem dX1_search_108 : decode cX1_search 108 = .ok (.iload 6, 2) := by decide +kernel
theorem dX1_search_110 : decode cX1_search 110 = .ok (.iload_n 3, 1) := by decide +kernel
theorem dX1_search_111 : decode cX1_search 111 = .ok (.iadd, 1) := by decide +kernel
theorem dX1_search_112 : decode cX1_search 112 = .ok (.istore 6, 2) := by decide +kernel
theorem dX1_search_114 : decode cX1_search 114 = .ok (.iconst 0, 1) := by decide +kernel
theorem dX1_search_115 : decode cX1_search 115 = .ok (.istore 5, 2) := by decide +kernel
theorem dX1_search_117 : decode cX1_search 117 = .ok (.iinc 6 1, 3) := by decide +kernel
theorem dX1_search_120 : decode cX1_search 120 = .ok (.goto (-96), 3) := by decide +kernel
theorem dX1_search_123 : decode cX1_search 123 = .ok (.return_, 1) := by decide +kernel
theorem dX1_rightOnes_0 : decode cX1_rightOnes 0 = .ok (.iconst 0, 1) := by decide +kernel
theorem dX1_rightOnes_1 : decode cX1_rightOnes 1 = .ok (.istore_n 1, 1) := by decide +kernel
theorem dX1_rightOnes_2 : decode cX1_rightOnes 2 = .ok (.iconst 0, 1) := by decide +kernel
theorem dX1_rightOnes_3 : decode cX1_rightOnes 3 = .ok (.istore_n 2, 1) := by decide +kernel
theorem dX1_rightOnes_4 : decode cX1_rightOnes 4 = .ok (.iload_n 2, 1) := by decide +kernel
theorem dX1_rightOnes_5 : decode cX1_rightOnes 5 = .ok (.aload_n 0, 1) := by decide +kernel
theorem dX1_rightOnes_6 : decode cX1_rightOnes 6 = .ok (.getfield 18, 3) := by decide +kernel
theorem dX1_rightOnes_9 : decode cX1_rightOnes 9 = .ok (.if_icmp .ge 24, 3) := by decide +kernel
theorem dX1_rightOnes_12 : decode cX1_rightOnes 12 = .ok (.aload_n 0, 1) := by decide +kernel
theorem dX1_rightOnes_13 : decode cX1_rightOnes 13 = .ok (.getfield 11, 3) := by decide +kernel
theorem dX1_rightOnes_16 : decode cX1_rightOnes 16 = .ok (.iload_n 2, 1) := by decide +kernel
theorem dX1_rightOnes_17 : decode cX1_rightOnes 17 = .ok (.aaload, 1) := by decide +kernel
theorem dX1_rightOnes_18 : decode cX1_rightOnes 18 = .ok (.invokevirtual 40, 3) := by decide +kernel
theorem dX1_rightOnes_21 : decode cX1_rightOnes 21 = .ok (.ifCond .eq 6, 3) := by decide +kernel
theorem dX1_rightOnes_24 : decode cX1_rightOnes 24 = .ok (.iinc 1 1, 3) := by decide +kernel
theorem dX1_rightOnes_27 : decode cX1_rightOnes 27 = .ok (.iinc 2 1, 3) := by decide +kernel
theorem dX1_rightOnes_30 : decode cX1_rightOnes 30 = .ok (.goto (-26), 3) := by decide +kernel
theorem dX1_rightOnes_33 : decode cX1_rightOnes 33 = .ok (.iload_n 1, 1) := by decide +kernel
theorem dX1_rightOnes_34 : decode cX1_rightOnes 34 = .ok (.ireturn, 1) := by decide +kernel
theorem dX1_slipsOfRight_0 : decode cX1_slipsOfRight 0 = .ok (.iconst 0, 1) := by decide +kernel
theorem dX1_slipsOfRight_1 : decode cX1_slipsOfRight 1 = .ok (.istore_n 1, 1) := by decide +kernel
theorem dX1_slipsOfRight_2 : decode cX1_slipsOfRight 2 = .ok (.iconst 0, 1) := by decide +kernel
theorem dX1_slipsOfRight_3 : decode cX1_slipsOfRight 3 = .ok (.istore_n 2, 1) := by decide +kernel
theorem dX1_slipsOfRight_4 : decode cX1_slipsOfRight 4 = .ok (.iload_n 2, 1) := by decide +kernel
theorem dX1_slipsOfRight_5 : decode cX1_slipsOfRight 5 = .ok (.aload_n 0, 1) := by decide +kernel
theorem dX1_slipsOfRight_6 : decode cX1_slipsOfRight 6 = .ok (.getfield 18, 3) := by decide +kernel
theorem dX1_slipsOfRight_9 : decode cX1_slipsOfRight 9 = .ok (.if_icmp .ge 33, 3) := by decide +kernel
theorem dX1_slipsOfRight_12 : decode cX1_slipsOfRight 12 = .ok (.aload_n 0, 1) := by decide +kernel
theorem dX1_slipsOfRight_13 : decode cX1_slipsOfRight 13 = .ok (.getfield 11, 3) := by decide +kernel
theorem dX1_slipsOfRight_16 : decode cX1_slipsOfRight 16 = .ok (.iload_n 2, 1) := by decide +kernel
theorem dX1_slipsOfRight_17 : decode cX1_slipsOfRight 17 = .ok (.aaload, 1) := by decide +kernel
theorem dX1_slipsOfRight_18 : decode cX1_slipsOfRight 18 = .ok (.invokevirtual 40, 3) := by decide +kernel
theorem dX1_slipsOfRight_21 : decode cX1_slipsOfRight 21 = .ok (.ifCond .eq 15, 3) := by decide +kernel
theorem dX1_slipsOfRight_24 : decode cX1_slipsOfRight 24 = .ok (.iload_n 1, 1) := by decide +kernel
theorem dX1_slipsOfRight_25 : decode cX1_slipsOfRight 25 = .ok (.aload_n 0, 1) := by decide +kernel
theorem dX1_slipsOfRight_26 : decode cX1_slipsOfRight 26 = .ok (.getfield 11, 3) := by decide +kernel
theorem dX1_slipsOfRight_29 : decode cX1_slipsOfRight 29 = .ok (.iload_n 2, 1) := by decide +kernel
theorem dX1_slipsOfRight_30 : decode cX1_slipsOfRight 30 = .ok (.aaload, 1) := by decide +kernel
theorem dX1_slipsOfRight_31 : decode cX1_slipsOfRight 31 = .ok (.getfield 44, 3) := by decide +kernel
theorem dX1_slipsOfRight_34 : decode cX1_slipsOfRight 34 = .ok (.iadd, 1) := by decide +kernel
theorem dX1_slipsOfRight_35 : decode cX1_slipsOfRight 35 = .ok (.istore_n 1, 1) := by decide +kernel
theorem dX1_slipsOfRight_36 : decode cX1_slipsOfRight 36 = .ok (.iinc 2 1, 3) := by decide +kernel
theorem dX1_slipsOfRight_39 : decode cX1_slipsOfRight 39 = .ok (.goto (-35), 3) := by decide +kernel
theorem dX1_slipsOfRight_42 : decode cX1_slipsOfRight 42 = .ok (.iload_n 1, 1) := by decide +kernel
theorem dX1_slipsOfRight_43 : decode cX1_slipsOfRight 43 = .ok (.ireturn, 1) := by decide +kernel
theorem dX2_init_0 : decode cX2_init 0 = .ok (.aload_n 0, 1) := by decide +kernel
theorem dX2_init_1 : decode cX2_init 1 = .ok (.invokespecial 5, 3) := by decide +kernel
theorem dX2_init_4 : decode cX2_init 4 = .ok (.aload_n 0, 1) := by decide +kernel
theorem dX2_init_5 : decode cX2_init 5 = .ok (.sipush 200, 3) := by decide +kernel
theorem dX2_init_8 : decode cX2_init 8 = .ok (.newarray .int, 2) := by decide +kernel
theorem dX2_init_10 : decode cX2_init 10 = .ok (.putfield 11, 3) := by decide +kernel
theorem dX2_init_13 : decode cX2_init 13 = .ok (.return_, 1) := by decide +kernel
theorem dX2_push_0 : decode cX2_push 0 = .ok (.iconst 0, 1) := by decide +kernel
theorem dX2_push_1 : decode cX2_push 1 = .ok (.istore_n 2, 1) := by decide +kernel
theorem dX2_push_2 : decode cX2_push 2 = .ok (.iload_n 2, 1) := by decide +kernel
theorem dX2_push_3 : decode cX2_push 3 = .ok (.iconst 4, 1) := by decide +kernel
theorem dX2_push_4 : decode cX2_push 4 = .ok (.if_icmp .ge 43, 3) := by decide +kernel
theorem dX2_push_7 : decode cX2_push 7 = .ok (.aload_n 0, 1) := by decide +kernel
theorem dX2_push_8 : decode cX2_push 8 = .ok (.getfield 15, 3) := by decide +kernel
theorem dX2_push_11 : decode cX2_push 11 = .ok (.sipush 200, 3) := by decide +kernel
theorem dX2_push_14 : decode cX2_push 14 = .ok (.if_icmp .ge 33, 3) := by decide +kernel
theorem dX2_push_17 : decode cX2_push 17 = .ok (.aload_n 0, 1) := by decide +kernel
theorem dX2_push_18 : decode cX2_push 18 = .ok (.getfield 11, 3) := by decide +kernel
theorem dX2_push_21 : decode cX2_push 21 = .ok (.aload_n 0, 1) := by decide +kernel
theorem dX2_push_22 : decode cX2_push 22 = .ok (.getfield 15, 3) := by decide +kernel
theorem dX2_push_25 : decode cX2_push 25 = .ok (.iload_n 1, 1) := by decide +kernel
theorem dX2_push_26 : decode cX2_push 26 = .ok (.iload_n 2, 1) := by decide +kernel
theorem dX2_push_27 : decode cX2_push 27 = .ok (.invokestatic 19, 3) := by decide +kernel
theorem dX2_push_30 : decode cX2_push 30 = .ok (.iastore, 1) := by decide +kernel
theorem dX2_push_31 : decode cX2_push 31 = .ok (.aload_n 0, 1) := by decide +kernel
theorem dX2_push_32 : decode cX2_push 32 = .ok (.dup, 1) := by decide +kernel
theorem dX2_push_33 : decode cX2_push 33 = .ok (.getfield 15, 3) := by decide +kernel
theorem dX2_push_36 : decode cX2_push 36 = .ok (.iconst 1, 1) := by decide +kernel
theorem dX2_push_37 : decode cX2_push 37 = .ok (.iadd, 1) := by decide +kernel
theorem dX2_push_38 : decode cX2_push 38 = .ok (.putfield 15, 3) := by decide +kernel
theorem dX2_push_41 : decode cX2_push 41 = .ok (.iinc 2 1, 3) := by decide +kernel
theorem dX2_push_44 : decode cX2_push 44 = .ok (.goto (-42), 3) := by decide +kernel
theorem dX2_push_47 : decode cX2_push 47 = .ok (.return_, 1) := by decide +kernel
theorem dX2_parse_0 : decode cX2_parse 0 = .ok (.aload_n 1, 1) := by decide +kernel
theorem dX2_parse_1 : decode cX2_parse 1 = .ok (.invokevirtual 23, 3) := by decide +kernel
theorem dX2_parse_4 : decode cX2_parse 4 = .ok (.aload_n 0, 1) := by decide +kernel
theorem dX2_parse_5 : decode cX2_parse 5 = .ok (.iconst 0, 1) := by decide +kernel
theorem dX2_parse_6 : decode cX2_parse 6 = .ok (.putfield 28, 3) := by decide +kernel
theorem dX2_parse_9 : decode cX2_parse 9 = .ok (.aload_n 0, 1) := by decide +kernel
theorem dX2_parse_10 : decode cX2_parse 10 = .ok (.iconst 0, 1) := by decide +kernel
theorem dX2_parse_11 : decode cX2_parse 11 = .ok (.putfield 31, 3) := by decide +kernel
theorem dX2_parse_14 : decode cX2_parse 14 = .ok (.aload_n 0, 1) := by decide +kernel
theorem dX2_parse_15 : decode cX2_parse 15 = .ok (.invokevirtual 34, 3) := by decide +kernel
theorem dX2_parse_18 : decode cX2_parse 18 = .ok (.iconst 0, 1) := by decide +kernel
theorem dX2_parse_19 : decode cX2_parse 19 = .ok (.istore_n 2, 1) := by decide +kernel
theorem dX2_parse_20 : decode cX2_parse 20 = .ok (.iload_n 2, 1) := by decide +kernel
theorem dX2_parse_21 : decode cX2_parse 21 = .ok (.sipush 200, 3) := by decide +kernel
theorem dX2_parse_24 : decode cX2_parse 24 = .ok (.if_icmp .ge 80, 3) := by decide +kernel
theorem dX2_parse_27 : decode cX2_parse 27 = .ok (.aload_n 0, 1) := by decide +kernel
theorem dX2_parse_28 : decode cX2_parse 28 = .ok (.getfield 37, 3) := by decide +kernel
theorem dX2_parse_31 : decode cX2_parse 31 = .ok (.iconst 3, 1) := by decide +kernel
theorem dX2_parse_32 : decode cX2_parse 32 = .ok (.if_icmp .eq 72, 3) := by decide +kernel
theorem dX2_parse_35 : decode cX2_parse 35 = .ok (.aload_n 0, 1) := by decide +kernel
theorem dX2_parse_36 : decode cX2_parse 36 = .ok (.invokevirtual 40, 3) := by decide +kernel
theorem dX2_parse_39 : decode cX2_parse 39 = .ok (.istore_n 3, 1) := by decide +kernel
theorem dX2_parse_40 : decode cX2_parse 40 = .ok (.iload_n 3, 1) := by decide +kernel
theorem dX2_parse_41 : decode cX2_parse 41 = .ok (.iconst (-1), 1) := by decide +kernel
theorem dX2_parse_42 : decode cX2_parse 42 = .ok (.if_icmp .eq 14, 3) := by decide +kernel
theorem dX2_parse_45 : decode cX2_parse 45 = .ok (.aload_n 0, 1) := by decide +kernel
theorem dX2_parse_46 : decode cX2_parse 46 = .ok (.getfield 28, 3) := by decide +kernel
theorem dX2_parse_49 : decode cX2_parse 49 = .ok (.iload_n 3, 1) := by decide +kernel
theorem dX2_parse_50 : decode cX2_parse 50 = .ok (.ishr, 1) := by decide +kernel
theorem dX2_parse_51 : decode cX2_parse 51 = .ok (.iconst 1, 1) := by decide +kernel
theorem dX2_parse_52 : decode cX2_parse 52 = .ok (.iand, 1) := by decide +kernel
theorem dX2_parse_53 : decode cX2_parse 53 = .ok (.ifCond .eq 8, 3) := by decide +kernel
theorem dX2_parse_56 : decode cX2_parse 56 = .ok (.aload_n 0, 1) := by decide +kernel
theorem dX2_parse_57 : decode cX2_parse 57 = .ok (.getfield 44, 3) := by decide +kernel
theorem dX2_parse_60 : decode cX2_parse 60 = .ok (.ireturn, 1) := by decide +kernel
theorem dX2_parse_61 : decode cX2_parse 61 = .ok (.aload_n 0, 1) := by decide +kernel
theorem dX2_parse_62 : decode cX2_parse 62 = .ok (.dup, 1) := by decide +kernel
theorem dX2_parse_63 : decode cX2_parse 63 = .ok (.getfield 28, 3) := by decide +kernel
theorem dX2_parse_66 : decode cX2_parse 66 = .ok (.iconst 1, 1) := by decide +kernel
theorem dX2_parse_67 : decode cX2_parse 67 = .ok (.iload_n 3, 1) := by decide +kernel
theorem dX2_parse_68 : decode cX2_parse 68 = .ok (.ishl, 1) := by decide +kernel
theorem dX2_parse_69 : decode cX2_parse 69 = .ok (.ior, 1) := by decide +kernel
theorem dX2_parse_70 : decode cX2_parse 70 = .ok (.putfield 28, 3) := by decide +kernel
theorem dX2_parse_73 : decode cX2_parse 73 = .ok (.aload_n 0, 1) := by decide +kernel
theorem dX2_parse_74 : decode cX2_parse 74 = .ok (.invokevirtual 34, 3) := by decide +kernel
theorem dX2_parse_77 : decode cX2_parse 77 = .ok (.aload_n 0, 1) := by decide +kernel
theorem dX2_parse_78 : decode cX2_parse 78 = .ok (.iload_n 3, 1) := by decide +kernel
theorem dX2_parse_79 : decode cX2_parse 79 = .ok (.aload_n 1, 1) := by decide +kernel
theorem dX2_parse_80 : decode cX2_parse 80 = .ok (.invokevirtual 47, 3) := by decide +kernel
theorem dX2_parse_83 : decode cX2_parse 83 = .ok (.ifCond .eq 10, 3) := by decide +kernel
theorem dX2_parse_86 : decode cX2_parse 86 = .ok (.aload_n 0, 1) := by decide +kernel
theorem dX2_parse_87 : decode cX2_parse 87 = .ok (.invokevirtual 51, 3) := by decide +kernel
theorem dX2_parse_90 : decode cX2_parse 90 = .ok (.ifCond .ne 8, 3) := by decide +kernel
theorem dX2_parse_93 : decode cX2_parse 93 = .ok (.aload_n 0, 1) := by decide +kernel
theorem dX2_parse_94 : decode cX2_parse 94 = .ok (.getfield 44, 3) := by decide +kernel
theorem dX2_parse_97 : decode cX2_parse 97 = .ok (.ireturn, 1) := by decide +kernel
theorem dX2_parse_98 : decode cX2_parse 98 = .ok (.iinc 2 1, 3) := by decide +kernel
theorem dX2_parse_101 : decode cX2_parse 101 = .ok (.goto (-81), 3) := by decide +kernel
theorem dX2_parse_104 : decode cX2_parse 104 = .ok (.aload_n 0, 1) := by decide +kernel
theorem dX2_parse_105 : decode cX2_parse 105 = .ok (.getfield 28, 3) := by decide +kernel
theorem dX2_parse_108 : decode cX2_parse 108 = .ok (.bipush 29, 2) := by decide +kernel
theorem dX2_parse_110 : decode cX2_parse 110 = .ok (.iand, 1) := by decide +kernel
theorem dX2_parse_111 : decode cX2_parse 111 = .ok (.bipush 29, 2) := by decide +kernel
theorem dX2_parse_113 : decode cX2_parse 113 = .ok (.if_icmp .ne 7, 3) := by decide +kernel
theorem dX2_parse_116 : decode cX2_parse 116 = .ok (.iconst (-1), 1) := by decide +kernel
theorem dX2_parse_117 : decode cX2_parse 117 = .ok (.goto 7, 3) := by decide +kernel
theorem dX2_parse_120 : decode cX2_parse 120 = .ok (.aload_n 0, 1) := by decide +kernel
theorem dX2_parse_121 : decode cX2_parse 121 = .ok (.getfield 15, 3) := by decide +kernel
theorem dX2_parse_124 : decode cX2_parse 124 = .ok (.ireturn, 1) := by decide +kernel
theorem dX2_lineBegun_0 : decode cX2_lineBegun 0 = .ok (.aload_n 0, 1) := by decide +kernel
theorem dX2_lineBegun_1 : decode cX2_lineBegun 1 = .ok (.ldc 55, 2) := by decide +kernel
theorem dX2_lineBegun_3 : decode cX2_lineBegun 3 = .ok (.invokevirtual 57, 3) := by decide +kernel
theorem dX2_lineBegun_6 : decode cX2_lineBegun 6 = .ok (.ifCond .eq 5, 3) := by decide +kernel
theorem dX2_lineBegun_9 : decode cX2_lineBegun 9 = .ok (.iconst 0, 1) := by decide +kernel
theorem dX2_lineBegun_10 : decode cX2_lineBegun 10 = .ok (.ireturn, 1) := by decide +kernel
theorem dX2_lineBegun_11 : decode cX2_lineBegun 11 = .ok (.aload_n 0, 1) := by decide +kernel
theorem dX2_lineBegun_12 : decode cX2_lineBegun 12 = .ok (.ldc 61, 2) := by decide +kernel
theorem dX2_lineBegun_14 : decode cX2_lineBegun 14 = .ok (.invokevirtual 57, 3) := by decide +kernel
theorem dX2_lineBegun_17 : decode cX2_lineBegun 17 = .ok (.ifCond .eq 5, 3) := by decide +kernel
theorem dX2_lineBegun_20 : decode cX2_lineBegun 20 = .ok (.iconst 1, 1) := by decide +kernel
theorem dX2_lineBegun_21 : decode cX2_lineBegun 21 = .ok (.ireturn, 1) := by decide +kernel
theorem dX2_lineBegun_22 : decode cX2_lineBegun 22 = .ok (.aload_n 0, 1) := by decide +kernel
theorem dX2_lineBegun_23 : decode cX2_lineBegun 23 = .ok (.ldc 63, 2) := by decide +kernel
theorem dX2_lineBegun_25 : decode cX2_lineBegun 25 = .ok (.invokevirtual 57, 3) := by decide +kernel
theorem dX2_lineBegun_28 : decode cX2_lineBegun 28 = .ok (.ifCond .eq 5, 3) := by decide +kernel
theorem dX2_lineBegun_31 : decode cX2_lineBegun 31 = .ok (.iconst 2, 1) := by decide +kernel
theorem dX2_lineBegun_32 : decode cX2_lineBegun 32 = .ok (.ireturn, 1) := by decide +kernel
theorem dX2_lineBegun_33 : decode cX2_lineBegun 33 = .ok (.aload_n 0, 1) := by decide +kernel
theorem dX2_lineBegun_34 : decode cX2_lineBegun 34 = .ok (.ldc 65, 2) := by decide +kernel
theorem dX2_lineBegun_36 : decode cX2_lineBegun 36 = .ok (.invokevirtual 57, 3) := by decide +kernel
theorem dX2_lineBegun_39 : decode cX2_lineBegun 39 = .ok (.ifCond .eq 5, 3) := by decide +kernel
theorem dX2_lineBegun_42 : decode cX2_lineBegun 42 = .ok (.iconst 3, 1) := by decide +kernel
theorem dX2_lineBegun_43 : decode cX2_lineBegun 43 = .ok (.ireturn, 1) := by decide +kernel
theorem dX2_lineBegun_44 : decode cX2_lineBegun 44 = .ok (.aload_n 0, 1) := by decide +kernel
theorem dX2_lineBegun_45 : decode cX2_lineBegun 45 = .ok (.ldc 67, 2) := by decide +kernel
theorem dX2_lineBegun_47 : decode cX2_lineBegun 47 = .ok (.invokevirtual 57, 3) := by decide +kernel
theorem dX2_lineBegun_50 : decode cX2_lineBegun 50 = .ok (.ifCond .eq 5, 3) := by decide +kernel
theorem dX2_lineBegun_53 : decode cX2_lineBegun 53 = .ok (.iconst 4, 1) := by decide +kernel
theorem dX2_lineBegun_54 : decode cX2_lineBegun 54 = .ok (.ireturn, 1) := by decide +kernel
theorem dX2_lineBegun_55 : decode cX2_lineBegun 55 = .ok (.aload_n 0, 1) := by decide +kernel
theorem dX2_lineBegun_56 : decode cX2_lineBegun 56 = .ok (.ldc 69, 2) := by decide +kernel
theorem dX2_lineBegun_58 : decode cX2_lineBegun 58 = .ok (.invokevirtual 57, 3) := by decide +kernel
theorem dX2_lineBegun_61 : decode cX2_lineBegun 61 = .ok (.ifCond .eq 7, 3) := by decide +kernel
theorem dX2_lineBegun_64 : decode cX2_lineBegun 64 = .ok (.iconst 5, 1) := by decide +kernel
theorem dX2_lineBegun_65 : decode cX2_lineBegun 65 = .ok (.goto 4, 3) := by decide +kernel
theorem dX2_lineBegun_68 : decode cX2_lineBegun 68 = .ok (.iconst (-1), 1) := by decide +kernel
theorem dX2_lineBegun_69 : decode cX2_lineBegun 69 = .ok (.ireturn, 1) := by decide +kernel
theorem dX2_takeRest_0 : decode cX2_takeRest 0 = .ok (.iload_n 1, 1) := by decide +kernel
theorem dX2_takeRest_1 : decode cX2_takeRest 1 = .ok (.tableswitch 102 0 4 #[35, 54, 72, 78, 96], 35) := by decide +kernel
theorem dX2_takeRest_36 : decode cX2_takeRest 36 = .ok (.aload_n 0, 1) := by decide +kernel
theorem dX2_takeRest_37 : decode cX2_takeRest 37 = .ok (.bipush 8, 2) := by decide +kernel
theorem dX2_takeRest_39 : decode cX2_takeRest 39 = .ok (.bipush 60, 2) := by decide +kernel
theorem dX2_takeRest_41 : decode cX2_takeRest 41 = .ok (.invokevirtual 71, 3) := by decide +kernel
theorem dX2_takeRest_44 : decode cX2_takeRest 44 = .ok (.istore_n 3, 1) := by decide +kernel
theorem dX2_takeRest_45 : decode cX2_takeRest 45 = .ok (.aload_n 2, 1) := by decide +kernel
theorem dX2_takeRest_46 : decode cX2_takeRest 46 = .ok (.aload_n 0, 1) := by decide +kernel
theorem dX2_takeRest_47 : decode cX2_takeRest 47 = .ok (.getfield 75, 3) := by decide +kernel
theorem dX2_takeRest_50 : decode cX2_takeRest 50 = .ok (.putfield 78, 3) := by decide +kernel
theorem dX2_takeRest_53 : decode cX2_takeRest 53 = .ok (.iload_n 3, 1) := by decide +kernel
theorem dX2_takeRest_54 : decode cX2_takeRest 54 = .ok (.ireturn, 1) := by decide +kernel
theorem dX2_takeRest_55 : decode cX2_takeRest 55 = .ok (.aload_n 0, 1) := by decide +kernel
theorem dX2_takeRest_56 : decode cX2_takeRest 56 = .ok (.iconst 0, 1) := by decide +kernel
theorem dX2_takeRest_57 : decode cX2_takeRest 57 = .ok (.bipush 8, 2) := by decide +kernel
theorem dX2_takeRest_59 : decode cX2_takeRest 59 = .ok (.invokevirtual 71, 3) := by decide +kernel
theorem dX2_takeRest_62 : decode cX2_takeRest 62 = .ok (.istore_n 3, 1) := by decide +kernel
theorem dX2_takeRest_63 : decode cX2_takeRest 63 = .ok (.aload_n 2, 1) := by decide +kernel
theorem dX2_takeRest_64 : decode cX2_takeRest 64 = .ok (.aload_n 0, 1) := by decide +kernel
theorem dX2_takeRest_65 : decode cX2_takeRest 65 = .ok (.getfield 75, 3) := by decide +kernel
theorem dX2_takeRest_68 : decode cX2_takeRest 68 = .ok (.putfield 80, 3) := by decide +kernel
theorem dX2_takeRest_71 : decode cX2_takeRest 71 = .ok (.iload_n 3, 1) := by decide +kernel
theorem dX2_takeRest_72 : decode cX2_takeRest 72 = .ok (.ireturn, 1) := by decide +kernel
theorem dX2_takeRest_73 : decode cX2_takeRest 73 = .ok (.aload_n 0, 1) := by decide +kernel
theorem dX2_takeRest_74 : decode cX2_takeRest 74 = .ok (.aload_n 2, 1) := by decide +kernel
theorem dX2_takeRest_75 : decode cX2_takeRest 75 = .ok (.invokevirtual 82, 3) := by decide +kernel
theorem dX2_takeRest_78 : decode cX2_takeRest 78 = .ok (.ireturn, 1) := by decide +kernel
theorem dX2_takeRest_79 : decode cX2_takeRest 79 = .ok (.aload_n 0, 1) := by decide +kernel
theorem dX2_takeRest_80 : decode cX2_takeRest 80 = .ok (.iconst 1, 1) := by decide +kernel
theorem dX2_takeRest_81 : decode cX2_takeRest 81 = .ok (.bipush 8, 2) := by decide +kernel
theorem dX2_takeRest_83 : decode cX2_takeRest 83 = .ok (.invokevirtual 71, 3) := by decide +kernel
theorem dX2_takeRest_86 : decode cX2_takeRest 86 = .ok (.istore_n 3, 1) := by decide +kernel
theorem dX2_takeRest_87 : decode cX2_takeRest 87 = .ok (.aload_n 2, 1) := by decide +kernel
theorem dX2_takeRest_88 : decode cX2_takeRest 88 = .ok (.aload_n 0, 1) := by decide +kernel
theorem dX2_takeRest_89 : decode cX2_takeRest 89 = .ok (.getfield 75, 3) := by decide +kernel
theorem dX2_takeRest_92 : decode cX2_takeRest 92 = .ok (.putfield 86, 3) := by decide +kernel
theorem dX2_takeRest_95 : decode cX2_takeRest 95 = .ok (.iload_n 3, 1) := by decide +kernel
theorem dX2_takeRest_96 : decode cX2_takeRest 96 = .ok (.ireturn, 1) := by decide +kernel
theorem dX2_takeRest_97 : decode cX2_takeRest 97 = .ok (.aload_n 0, 1) := by decide +kernel
theorem dX2_takeRest_98 : decode cX2_takeRest 98 = .ok (.aload_n 2, 1) := by decide +kernel
theorem dX2_takeRest_99 : decode cX2_takeRest 99 = .ok (.invokevirtual 87, 3) := by decide +kernel
theorem dX2_takeRest_102 : decode cX2_takeRest 102 = .ok (.ireturn, 1) := by decide +kernel
theorem dX2_takeRest_103 : decode cX2_takeRest 103 = .ok (.aload_n 2, 1) := by decide +kernel
theorem dX2_takeRest_104 : decode cX2_takeRest 104 = .ok (.iconst 1, 1) := by decide +kernel
theorem dX2_takeRest_105 : decode cX2_takeRest 105 = .ok (.putfield 90, 3) := by decide +kernel
theorem dX2_takeRest_108 : decode cX2_takeRest 108 = .ok (.iconst 1, 1) := by decide +kernel
theorem dX2_takeRest_109 : decode cX2_takeRest 109 = .ok (.ireturn, 1) := by decide +kernel
theorem dX2_takeMark_0 : decode cX2_takeMark 0 = .ok (.aload_n 0, 1) := by decide +kernel
theorem dX2_takeMark_1 : decode cX2_takeMark 1 = .ok (.iconst 0, 1) := by decide +kernel
theorem dX2_takeMark_2 : decode cX2_takeMark 2 = .ok (.sipush 255, 3) := by decide +kernel
theorem dX2_takeMark_5 : decode cX2_takeMark 5 = .ok (.invokevirtual 71, 3) := by decide +kernel
theorem dX2_takeMark_8 : decode cX2_takeMark 8 = .ok (.ifCond .ne 5, 3) := by decide +kernel
theorem dX2_takeMark_11 : decode cX2_takeMark 11 = .ok (.iconst 0, 1) := by decide +kernel
theorem dX2_takeMark_12 : decode cX2_takeMark 12 = .ok (.ireturn, 1) := by decide +kernel
theorem dX2_takeMark_13 : decode cX2_takeMark 13 = .ok (.aload_n 1, 1) := by decide +kernel
theorem dX2_takeMark_14 : decode cX2_takeMark 14 = .ok (.aload_n 0, 1) := by decide +kernel
theorem dX2_takeMark_15 : decode cX2_takeMark 15 = .ok (.getfield 75, 3) := by decide +kernel
theorem dX2_takeMark_18 : decode cX2_takeMark 18 = .ok (.bipush 8, 2) := by decide +kernel
theorem dX2_takeMark_20 : decode cX2_takeMark 20 = .ok (.ishl, 1) := by decide +kernel
theorem dX2_takeMark_21 : decode cX2_takeMark 21 = .ok (.putfield 94, 3) := by decide +kernel
theorem dX2_takeMark_24 : decode cX2_takeMark 24 = .ok (.aload_n 0, 1) := by decide +kernel
theorem dX2_takeMark_25 : decode cX2_takeMark 25 = .ok (.iconst 0, 1) := by decide +kernel
theorem dX2_takeMark_26 : decode cX2_takeMark 26 = .ok (.sipush 255, 3) := by decide +kernel
theorem dX2_takeMark_29 : decode cX2_takeMark 29 = .ok (.invokevirtual 71, 3) := by decide +kernel
theorem dX2_takeMark_32 : decode cX2_takeMark 32 = .ok (.ifCond .ne 5, 3) := by decide +kernel
theorem dX2_takeMark_35 : decode cX2_takeMark 35 = .ok (.iconst 0, 1) := by decide +kernel
theorem dX2_takeMark_36 : decode cX2_takeMark 36 = .ok (.ireturn, 1) := by decide +kernel
theorem dX2_takeMark_37 : decode cX2_takeMark 37 = .ok (.aload_n 1, 1) := by decide +kernel
theorem dX2_takeMark_38 : decode cX2_takeMark 38 = .ok (.dup, 1) := by decide +kernel
theorem dX2_takeMark_39 : decode cX2_takeMark 39 = .ok (.getfield 94, 3) := by decide +kernel
theorem dX2_takeMark_42 : decode cX2_takeMark 42 = .ok (.aload_n 0, 1) := by decide +kernel
theorem dX2_takeMark_43 : decode cX2_takeMark 43 = .ok (.getfield 75, 3) := by decide +kernel
theorem dX2_takeMark_46 : decode cX2_takeMark 46 = .ok (.ior, 1) := by decide +kernel
theorem dX2_takeMark_47 : decode cX2_takeMark 47 = .ok (.putfield 94, 3) := by decide +kernel
theorem dX2_takeMark_50 : decode cX2_takeMark 50 = .ok (.iconst 1, 1) := by decide +kernel
theorem dX2_takeMark_51 : decode cX2_takeMark 51 = .ok (.ireturn, 1) := by decide +kernel
theorem dX2_takeSum_0 : decode cX2_takeSum 0 = .ok (.aload_n 0, 1) := by decide +kernel
theorem dX2_takeSum_1 : decode cX2_takeSum 1 = .ok (.ldc 96, 2) := by decide +kernel
theorem dX2_takeSum_3 : decode cX2_takeSum 3 = .ok (.invokevirtual 57, 3) := by decide +kernel
theorem dX2_takeSum_6 : decode cX2_takeSum 6 = .ok (.ifCond .eq 14, 3) := by decide +kernel
theorem dX2_takeSum_9 : decode cX2_takeSum 9 = .ok (.aload_n 1, 1) := by decide +kernel
theorem dX2_takeSum_10 : decode cX2_takeSum 10 = .ok (.iconst 0, 1) := by decide +kernel
theorem dX2_takeSum_11 : decode cX2_takeSum 11 = .ok (.putfield 98, 3) := by decide +kernel
theorem dX2_takeSum_14 : decode cX2_takeSum 14 = .ok (.aload_n 0, 1) := by decide +kernel
theorem dX2_takeSum_15 : decode cX2_takeSum 15 = .ok (.invokevirtual 34, 3) := by decide +kernel
theorem dX2_takeSum_18 : decode cX2_takeSum 18 = .ok (.iconst 1, 1) := by decide +kernel
theorem dX2_takeSum_19 : decode cX2_takeSum 19 = .ok (.ireturn, 1) := by decide +kernel
theorem dX2_takeSum_20 : decode cX2_takeSum 20 = .ok (.aload_n 0, 1) := by decide +kernel
theorem dX2_takeSum_21 : decode cX2_takeSum 21 = .ok (.ldc 101, 2) := by decide +kernel
theorem dX2_takeSum_23 : decode cX2_takeSum 23 = .ok (.invokevirtual 57, 3) := by decide +kernel
theorem dX2_takeSum_26 : decode cX2_takeSum 26 = .ok (.ifCond .eq 14, 3) := by decide +kernel
theorem dX2_takeSum_29 : decode cX2_takeSum 29 = .ok (.aload_n 1, 1) := by decide +kernel
theorem dX2_takeSum_30 : decode cX2_takeSum 30 = .ok (.iconst 1, 1) := by decide +kernel
theorem dX2_takeSum_31 : decode cX2_takeSum 31 = .ok (.putfield 98, 3) := by decide +kernel
theorem dX2_takeSum_34 : decode cX2_takeSum 34 = .ok (.aload_n 0, 1) := by decide +kernel
theorem dX2_takeSum_35 : decode cX2_takeSum 35 = .ok (.invokevirtual 34, 3) := by decide +kernel
theorem dX2_takeSum_38 : decode cX2_takeSum 38 = .ok (.iconst 1, 1) := by decide +kernel
theorem dX2_takeSum_39 : decode cX2_takeSum 39 = .ok (.ireturn, 1) := by decide +kernel
theorem dX2_takeSum_40 : decode cX2_takeSum 40 = .ok (.aload_n 0, 1) := by decide +kernel
theorem dX2_takeSum_41 : decode cX2_takeSum 41 = .ok (.ldc 103, 2) := by decide +kernel
theorem dX2_takeSum_43 : decode cX2_takeSum 43 = .ok (.invokevirtual 57, 3) := by decide +kernel
theorem dX2_takeSum_46 : decode cX2_takeSum 46 = .ok (.ifCond .ne 5, 3) := by decide +kernel
theorem dX2_takeSum_49 : decode cX2_takeSum 49 = .ok (.iconst 0, 1) := by decide +kernel
theorem dX2_takeSum_50 : decode cX2_takeSum 50 = .ok (.ireturn, 1) := by decide +kernel
theorem dX2_takeSum_51 : decode cX2_takeSum 51 = .ok (.aload_n 1, 1) := by decide +kernel
theorem dX2_takeSum_52 : decode cX2_takeSum 52 = .ok (.iconst 2, 1) := by decide +kernel
theorem dX2_takeSum_53 : decode cX2_takeSum 53 = .ok (.putfield 98, 3) := by decide +kernel
theorem dX2_takeSum_56 : decode cX2_takeSum 56 = .ok (.aload_n 0, 1) := by decide +kernel
theorem dX2_takeSum_57 : decode cX2_takeSum 57 = .ok (.invokevirtual 34, 3) := by decide +kernel
theorem dX2_takeSum_60 : decode cX2_takeSum 60 = .ok (.aload_n 0, 1) := by decide +kernel
theorem dX2_takeSum_61 : decode cX2_takeSum 61 = .ok (.iconst 0, 1) := by decide +kernel
theorem dX2_takeSum_62 : decode cX2_takeSum 62 = .ok (.ldc 105, 2) := by decide +kernel
theorem dX2_takeSum_64 : decode cX2_takeSum 64 = .ok (.invokevirtual 71, 3) := by decide +kernel
theorem dX2_takeSum_67 : decode cX2_takeSum 67 = .ok (.ifCond .ne 5, 3) := by decide +kernel
theorem dX2_takeSum_70 : decode cX2_takeSum 70 = .ok (.iconst 0, 1) := by decide +kernel
theorem dX2_takeSum_71 : decode cX2_takeSum 71 = .ok (.ireturn, 1) := by decide +kernel
theorem dX2_takeSum_72 : decode cX2_takeSum 72 = .ok (.aload_n 1, 1) := by decide +kernel
theorem dX2_takeSum_73 : decode cX2_takeSum 73 = .ok (.aload_n 0, 1) := by decide +kernel
theorem dX2_takeSum_74 : decode cX2_takeSum 74 = .ok (.getfield 75, 3) := by decide +kernel
theorem dX2_takeSum_77 : decode cX2_takeSum 77 = .ok (.putfield 106, 3) := by decide +kernel
theorem dX2_takeSum_80 : decode cX2_takeSum 80 = .ok (.aload_n 0, 1) := by decide +kernel
theorem dX2_takeSum_81 : decode cX2_takeSum 81 = .ok (.iconst 0, 1) := by decide +kernel
theorem dX2_takeSum_82 : decode cX2_takeSum 82 = .ok (.ldc 105, 2) := by decide +kernel
theorem dX2_takeSum_84 : decode cX2_takeSum 84 = .ok (.invokevirtual 71, 3) := by decide +kernel
theorem dX2_takeSum_87 : decode cX2_takeSum 87 = .ok (.ifCond .ne 5, 3) := by decide +kernel
theorem dX2_takeSum_90 : decode cX2_takeSum 90 = .ok (.iconst 0, 1) := by decide +kernel
theorem dX2_takeSum_91 : decode cX2_takeSum 91 = .ok (.ireturn, 1) := by decide +kernel
theorem dX2_takeSum_92 : decode cX2_takeSum 92 = .ok (.aload_n 1, 1) := by decide +kernel
theorem dX2_takeSum_93 : decode cX2_takeSum 93 = .ok (.aload_n 0, 1) := by decide +kernel
theorem dX2_takeSum_94 : decode cX2_takeSum 94 = .ok (.getfield 75, 3) := by decide +kernel
theorem dX2_takeSum_97 : decode cX2_takeSum 97 = .ok (.putfield 109, 3) := by decide +kernel
theorem dX2_takeSum_100 : decode cX2_takeSum 100 = .ok (.iconst 1, 1) := by decide +kernel
theorem dX2_takeSum_101 : decode cX2_takeSum 101 = .ok (.ireturn, 1) := by decide +kernel
theorem dX2_takeNumber_0 : decode cX2_takeNumber 0 = .ok (.aload_n 0, 1) := by decide +kernel
theorem dX2_takeNumber_1 : decode cX2_takeNumber 1 = .ok (.getfield 37, 3) := by decide +kernel
theorem dX2_takeNumber_4 : decode cX2_takeNumber 4 = .ok (.iconst 1, 1) := by decide +kernel
theorem dX2_takeNumber_5 : decode cX2_takeNumber 5 = .ok (.if_icmp .ne 19, 3) := by decide +kernel
theorem dX2_takeNumber_8 : decode cX2_takeNumber 8 = .ok (.aload_n 0, 1) := by decide +kernel
theorem dX2_takeNumber_9 : decode cX2_takeNumber 9 = .ok (.getfield 112, 3) := by decide +kernel
theorem dX2_takeNumber_12 : decode cX2_takeNumber 12 = .ok (.iload_n 1, 1) := by decide +kernel
theorem dX2_takeNumber_13 : decode cX2_takeNumber 13 = .ok (.if_icmp .lt 11, 3) := by decide +kernel
theorem dX2_takeNumber_16 : decode cX2_takeNumber 16 = .ok (.aload_n 0, 1) := by decide +kernel
theorem dX2_takeNumber_17 : decode cX2_takeNumber 17 = .ok (.getfield 112, 3) := by decide +kernel
theorem dX2_takeNumber_20 : decode cX2_takeNumber 20 = .ok (.iload_n 2, 1) := by decide +kernel
theorem dX2_takeNumber_21 : decode cX2_takeNumber 21 = .ok (.if_icmp .le 5, 3) := by decide +kernel
theorem dX2_takeNumber_24 : decode cX2_takeNumber 24 = .ok (.iconst 0, 1) := by decide +kernel
theorem dX2_takeNumber_25 : decode cX2_takeNumber 25 = .ok (.ireturn, 1) := by decide +kernel
theorem dX2_takeNumber_26 : decode cX2_takeNumber 26 = .ok (.aload_n 0, 1) := by decide +kernel
theorem dX2_takeNumber_27 : decode cX2_takeNumber 27 = .ok (.aload_n 0, 1) := by decide +kernel
theorem dX2_takeNumber_28 : decode cX2_takeNumber 28 = .ok (.getfield 112, 3) := by decide +kernel
theorem dX2_takeNumber_31 : decode cX2_takeNumber 31 = .ok (.putfield 75, 3) := by decide +kernel
theorem dX2_takeNumber_34 : decode cX2_takeNumber 34 = .ok (.aload_n 0, 1) := by decide +kernel
theorem dX2_takeNumber_35 : decode cX2_takeNumber 35 = .ok (.invokevirtual 34, 3) := by decide +kernel
theorem dX2_takeNumber_38 : decode cX2_takeNumber 38 = .ok (.iconst 1, 1) := by decide +kernel
theorem dX2_takeNumber_39 : decode cX2_takeNumber 39 = .ok (.ireturn, 1) := by decide +kernel
theorem dX2_takeStop_0 : decode cX2_takeStop 0 = .ok (.aload_n 0, 1) := by decide +kernel
theorem dX2_takeStop_1 : decode cX2_takeStop 1 = .ok (.getfield 37, 3) := by decide +kernel
theorem dX2_takeStop_4 : decode cX2_takeStop 4 = .ok (.iconst 2, 1) := by decide +kernel
theorem dX2_takeStop_5 : decode cX2_takeStop 5 = .ok (.if_icmp .eq 5, 3) := by decide +kernel
theorem dX2_takeStop_8 : decode cX2_takeStop 8 = .ok (.iconst 0, 1) := by decide +kernel
theorem dX2_takeStop_9 : decode cX2_takeStop 9 = .ok (.ireturn, 1) := by decide +kernel
theorem dX2_takeStop_10 : decode cX2_takeStop 10 = .ok (.aload_n 0, 1) := by decide +kernel
theorem dX2_takeStop_11 : decode cX2_takeStop 11 = .ok (.invokevirtual 34, 3) := by decide +kernel
theorem dX2_takeStop_14 : decode cX2_takeStop 14 = .ok (.iconst 1, 1) := by decide +kernel
theorem dX2_takeStop_15 : decode cX2_takeStop 15 = .ok (.ireturn, 1) := by decide +kernel
theorem dX2_isWord_0 : decode cX2_isWord 0 = .ok (.aload_n 0, 1) := by decide +kernel
theorem dX2_isWord_1 : decode cX2_isWord 1 = .ok (.getfield 37, 3) := by decide +kernel
theorem dX2_isWord_4 : decode cX2_isWord 4 = .ok (.ifCond .ne 19, 3) := by decide +kernel
theorem dX2_isWord_7 : decode cX2_isWord 7 = .ok (.aload_n 0, 1) := by decide +kernel
theorem dX2_isWord_8 : decode cX2_isWord 8 = .ok (.getfield 31, 3) := by decide +kernel
theorem dX2_isWord_11 : decode cX2_isWord 11 = .ok (.aload_n 0, 1) := by decide +kernel
theorem dX2_isWord_12 : decode cX2_isWord 12 = .ok (.getfield 44, 3) := by decide +kernel
theorem dX2_isWord_15 : decode cX2_isWord 15 = .ok (.isub, 1) := by decide +kernel
theorem dX2_isWord_16 : decode cX2_isWord 16 = .ok (.aload_n 1, 1) := by decide +kernel
theorem dX2_isWord_17 : decode cX2_isWord 17 = .ok (.invokevirtual 115, 3) := by decide +kernel
theorem dX2_isWord_20 : decode cX2_isWord 20 = .ok (.if_icmp .eq 5, 3) := by decide +kernel
theorem dX2_isWord_23 : decode cX2_isWord 23 = .ok (.iconst 0, 1) := by decide +kernel
theorem dX2_isWord_24 : decode cX2_isWord 24 = .ok (.ireturn, 1) := by decide +kernel
theorem dX2_isWord_25 : decode cX2_isWord 25 = .ok (.iconst 0, 1) := by decide +kernel
theorem dX2_isWord_26 : decode cX2_isWord 26 = .ok (.istore_n 2, 1) := by decide +kernel
theorem dX2_isWord_27 : decode cX2_isWord 27 = .ok (.iload_n 2, 1) := by decide +kernel
theorem dX2_isWord_28 : decode cX2_isWord 28 = .ok (.aload_n 1, 1) := by decide +kernel
theorem dX2_isWord_29 : decode cX2_isWord 29 = .ok (.invokevirtual 115, 3) := by decide +kernel
theorem dX2_isWord_32 : decode cX2_isWord 32 = .ok (.if_icmp .ge 43, 3) := by decide +kernel
theorem dX2_isWord_35 : decode cX2_isWord 35 = .ok (.aload_n 0, 1) := by decide +kernel
theorem dX2_isWord_36 : decode cX2_isWord 36 = .ok (.getfield 44, 3) := by decide +kernel
theorem dX2_isWord_39 : decode cX2_isWord 39 = .ok (.iload_n 2, 1) := by decide +kernel
theorem dX2_isWord_40 : decode cX2_isWord 40 = .ok (.iadd, 1) := by decide +kernel
theorem dX2_isWord_41 : decode cX2_isWord 41 = .ok (.aload_n 0, 1) := by decide +kernel
theorem dX2_isWord_42 : decode cX2_isWord 42 = .ok (.getfield 15, 3) := by decide +kernel
theorem dX2_isWord_45 : decode cX2_isWord 45 = .ok (.if_icmp .ge 30, 3) := by decide +kernel
theorem dX2_isWord_48 : decode cX2_isWord 48 = .ok (.aload_n 0, 1) := by decide +kernel
theorem dX2_isWord_49 : decode cX2_isWord 49 = .ok (.getfield 11, 3) := by decide +kernel
theorem dX2_isWord_52 : decode cX2_isWord 52 = .ok (.aload_n 0, 1) := by decide +kernel
theorem dX2_isWord_53 : decode cX2_isWord 53 = .ok (.getfield 44, 3) := by decide +kernel
theorem dX2_isWord_56 : decode cX2_isWord 56 = .ok (.iload_n 2, 1) := by decide +kernel
theorem dX2_isWord_57 : decode cX2_isWord 57 = .ok (.iadd, 1) := by decide +kernel
theorem dX2_isWord_58 : decode cX2_isWord 58 = .ok (.iaload, 1) := by decide +kernel
theorem dX2_isWord_59 : decode cX2_isWord 59 = .ok (.aload_n 1, 1) := by decide +kernel
theorem dX2_isWord_60 : decode cX2_isWord 60 = .ok (.iload_n 2, 1) := by decide +kernel
theorem dX2_isWord_61 : decode cX2_isWord 61 = .ok (.invokevirtual 120, 3) := by decide +kernel
theorem dX2_isWord_64 : decode cX2_isWord 64 = .ok (.if_icmp .eq 5, 3) := by decide +kernel
theorem dX2_isWord_67 : decode cX2_isWord 67 = .ok (.iconst 0, 1) := by decide +kernel
theorem dX2_isWord_68 : decode cX2_isWord 68 = .ok (.ireturn, 1) := by decide +kernel
theorem dX2_isWord_69 : decode cX2_isWord 69 = .ok (.iinc 2 1, 3) := by decide +kernel
theorem dX2_isWord_72 : decode cX2_isWord 72 = .ok (.goto (-45), 3) := by decide +kernel
theorem dX2_isWord_75 : decode cX2_isWord 75 = .ok (.iconst 1, 1) := by decide +kernel
theorem dX2_isWord_76 : decode cX2_isWord 76 = .ok (.ireturn, 1) := by decide +kernel
theorem dX2_step_0 : decode cX2_step 0 = .ok (.aload_n 0, 1) := by decide +kernel
theorem dX2_step_1 : decode cX2_step 1 = .ok (.getfield 31, 3) := by decide +kernel
theorem dX2_step_4 : decode cX2_step 4 = .ok (.aload_n 0, 1) := by decide +kernel
theorem dX2_step_5 : decode cX2_step 5 = .ok (.getfield 15, 3) := by decide +kernel
theorem dX2_step_8 : decode cX2_step 8 = .ok (.if_icmp .ge 44, 3) := by decide +kernel
theorem dX2_step_11 : decode cX2_step 11 = .ok (.aload_n 0, 1) := by decide +kernel
theorem dX2_step_12 : decode cX2_step 12 = .ok (.getfield 11, 3) := by decide +kernel
theorem dX2_step_15 : decode cX2_step 15 = .ok (.aload_n 0, 1) := by decide +kernel
theorem dX2_step_16 : decode cX2_step 16 = .ok (.getfield 31, 3) := by decide +kernel
theorem dX2_step_19 : decode cX2_step 19 = .ok (.iaload, 1) := by decide +kernel
theorem dX2_step_20 : decode cX2_step 20 = .ok (.bipush 32, 2) := by decide +kernel
theorem dX2_step_22 : decode cX2_step 22 = .ok (.if_icmp .eq 17, 3) := by decide +kernel
theorem dX2_step_25 : decode cX2_step 25 = .ok (.aload_n 0, 1) := by decide +kernel
theorem dX2_step_26 : decode cX2_step 26 = .ok (.getfield 11, 3) := by decide +kernel
theorem dX2_step_29 : decode cX2_step 29 = .ok (.aload_n 0, 1) := by decide +kernel
theorem dX2_step_30 : decode cX2_step 30 = .ok (.getfield 31, 3) := by decide +kernel
theorem dX2_step_33 : decode cX2_step 33 = .ok (.iaload, 1) := by decide +kernel
theorem dX2_step_34 : decode cX2_step 34 = .ok (.bipush 10, 2) := by decide +kernel
theorem dX2_step_36 : decode cX2_step 36 = .ok (.if_icmp .ne 16, 3) := by decide +kernel
theorem dX2_step_39 : decode cX2_step 39 = .ok (.aload_n 0, 1) := by decide +kernel
theorem dX2_step_40 : decode cX2_step 40 = .ok (.dup, 1) := by decide +kernel
theorem dX2_step_41 : decode cX2_step 41 = .ok (.getfield 31, 3) := by decide +kernel
theorem dX2_step_44 : decode cX2_step 44 = .ok (.iconst 1, 1) := by decide +kernel
theorem dX2_step_45 : decode cX2_step 45 = .ok (.iadd, 1) := by decide +kernel
theorem dX2_step_46 : decode cX2_step 46 = .ok (.putfield 31, 3) := by decide +kernel
theorem dX2_step_49 : decode cX2_step 49 = .ok (.goto (-49), 3) := by decide +kernel
theorem dX2_step_52 : decode cX2_step 52 = .ok (.aload_n 0, 1) := by decide +kernel
theorem dX2_step_53 : decode cX2_step 53 = .ok (.aload_n 0, 1) := by decide +kernel
theorem dX2_step_54 : decode cX2_step 54 = .ok (.getfield 31, 3) := by decide +kernel
theorem dX2_step_57 : decode cX2_step 57 = .ok (.putfield 44, 3) := by decide +kernel
theorem dX2_step_60 : decode cX2_step 60 = .ok (.aload_n 0, 1) := by decide +kernel
theorem dX2_step_61 : decode cX2_step 61 = .ok (.aload_n 0, 1) := by decide +kernel
theorem dX2_step_62 : decode cX2_step 62 = .ok (.aload_n 0, 1) := by decide +kernel
theorem dX2_step_63 : decode cX2_step 63 = .ok (.getfield 44, 3) := by decide +kernel
theorem dX2_step_66 : decode cX2_step 66 = .ok (.invokevirtual 124, 3) := by decide +kernel
theorem dX2_step_69 : decode cX2_step 69 = .ok (.putfield 37, 3) := by decide +kernel
theorem dX2_step_72 : decode cX2_step 72 = .ok (.aload_n 0, 1) := by decide +kernel
theorem dX2_step_73 : decode cX2_step 73 = .ok (.iconst 0, 1) := by decide +kernel
theorem dX2_step_74 : decode cX2_step 74 = .ok (.putfield 112, 3) := by decide +kernel
theorem dX2_step_77 : decode cX2_step 77 = .ok (.aload_n 0, 1) := by decide +kernel
theorem dX2_step_78 : decode cX2_step 78 = .ok (.getfield 31, 3) := by decide +kernel
theorem dX2_step_81 : decode cX2_step 81 = .ok (.aload_n 0, 1) := by decide +kernel
theorem dX2_step_82 : decode cX2_step 82 = .ok (.getfield 15, 3) := by decide +kernel
theorem dX2_step_85 : decode cX2_step 85 = .ok (.if_icmp .ge 86, 3) := by decide +kernel
theorem dX2_step_88 : decode cX2_step 88 = .ok (.aload_n 0, 1) := by decide +kernel
theorem dX2_step_89 : decode cX2_step 89 = .ok (.getfield 31, 3) := by decide +kernel
theorem dX2_step_92 : decode cX2_step 92 = .ok (.aload_n 0, 1) := by decide +kernel
theorem dX2_step_93 : decode cX2_step 93 = .ok (.getfield 44, 3) := by decide +kernel
theorem dX2_step_96 : decode cX2_step 96 = .ok (.if_icmp .eq 25, 3) := by decide +kernel
theorem dX2_step_99 : decode cX2_step 99 = .ok (.aload_n 0, 1) := by decide +kernel
theorem dX2_step_100 : decode cX2_step 100 = .ok (.invokevirtual 128, 3) := by decide +kernel
theorem dX2_step_103 : decode cX2_step 103 = .ok (.ifCond .eq 68, 3) := by decide +kernel
theorem dX2_step_106 : decode cX2_step 106 = .ok (.aload_n 0, 1) := by decide +kernel
theorem dX2_step_107 : decode cX2_step 107 = .ok (.aload_n 0, 1) := by decide +kernel
theorem dX2_step_108 : decode cX2_step 108 = .ok (.getfield 31, 3) := by decide +kernel
theorem dX2_step_111 : decode cX2_step 111 = .ok (.invokevirtual 124, 3) := by decide +kernel
theorem dX2_step_114 : decode cX2_step 114 = .ok (.aload_n 0, 1) := by decide +kernel
theorem dX2_step_115 : decode cX2_step 115 = .ok (.getfield 37, 3) := by decide +kernel
theorem dX2_step_118 : decode cX2_step 118 = .ok (.if_icmp .ne 53, 3) := by decide +kernel
theorem dX2_step_121 : decode cX2_step 121 = .ok (.aload_n 0, 1) := by decide +kernel
theorem dX2_step_122 : decode cX2_step 122 = .ok (.getfield 37, 3) := by decide +kernel
theorem dX2_step_125 : decode cX2_step 125 = .ok (.iconst 1, 1) := by decide +kernel
theorem dX2_step_126 : decode cX2_step 126 = .ok (.if_icmp .ne 32, 3) := by decide +kernel
theorem dX2_step_129 : decode cX2_step 129 = .ok (.aload_n 0, 1) := by decide +kernel
theorem dX2_step_130 : decode cX2_step 130 = .ok (.aload_n 0, 1) := by decide +kernel
theorem dX2_step_131 : decode cX2_step 131 = .ok (.getfield 112, 3) := by decide +kernel
theorem dX2_step_134 : decode cX2_step 134 = .ok (.bipush 10, 2) := by decide +kernel
theorem dX2_step_136 : decode cX2_step 136 = .ok (.imul, 1) := by decide +kernel
theorem dX2_step_137 : decode cX2_step 137 = .ok (.aload_n 0, 1) := by decide +kernel
theorem dX2_step_138 : decode cX2_step 138 = .ok (.getfield 11, 3) := by decide +kernel
theorem dX2_step_141 : decode cX2_step 141 = .ok (.aload_n 0, 1) := by decide +kernel
theorem dX2_step_142 : decode cX2_step 142 = .ok (.getfield 31, 3) := by decide +kernel
theorem dX2_step_145 : decode cX2_step 145 = .ok (.iaload, 1) := by decide +kernel
theorem dX2_step_146 : decode cX2_step 146 = .ok (.iadd, 1) := by decide +kernel
theorem dX2_step_147 : decode cX2_step 147 = .ok (.bipush 48, 2) := by decide +kernel
theorem dX2_step_149 : decode cX2_step 149 = .ok (.isub, 1) := by decide +kernel
theorem dX2_step_150 : decode cX2_step 150 = .ok (.ldc 131, 2) := by decide +kernel
theorem dX2_step_152 : decode cX2_step 152 = .ok (.invokestatic 132, 3) := by decide +kernel
theorem dX2_step_155 : decode cX2_step 155 = .ok (.putfield 112, 3) := by decide +kernel
theorem dX2_step_158 : decode cX2_step 158 = .ok (.aload_n 0, 1) := by decide +kernel
theorem dX2_step_159 : decode cX2_step 159 = .ok (.dup, 1) := by decide +kernel
theorem dX2_step_160 : decode cX2_step 160 = .ok (.getfield 31, 3) := by decide +kernel
theorem dX2_step_163 : decode cX2_step 163 = .ok (.iconst 1, 1) := by decide +kernel
theorem dX2_step_164 : decode cX2_step 164 = .ok (.iadd, 1) := by decide +kernel
theorem dX2_step_165 : decode cX2_step 165 = .ok (.putfield 31, 3) := by decide +kernel
theorem dX2_step_168 : decode cX2_step 168 = .ok (.goto (-91), 3) := by decide +kernel
theorem dX2_step_171 : decode cX2_step 171 = .ok (.return_, 1) := by decide +kernel
theorem dX2_isLong_0 : decode cX2_isLong 0 = .ok (.aload_n 0, 1) := by decide +kernel
theorem dX2_isLong_1 : decode cX2_isLong 1 = .ok (.getfield 37, 3) := by decide +kernel
theorem dX2_isLong_4 : decode cX2_isLong 4 = .ok (.ifCond .eq 11, 3) := by decide +kernel
theorem dX2_isLong_7 : decode cX2_isLong 7 = .ok (.aload_n 0, 1) := by decide +kernel
theorem dX2_isLong_8 : decode cX2_isLong 8 = .ok (.getfield 37, 3) := by decide +kernel
theorem dX2_isLong_11 : decode cX2_isLong 11 = .ok (.iconst 1, 1) := by decide +kernel
theorem dX2_isLong_12 : decode cX2_isLong 12 = .ok (.if_icmp .ne 7, 3) := by decide +kernel
theorem dX2_isLong_15 : decode cX2_isLong 15 = .ok (.iconst 1, 1) := by decide +kernel
theorem dX2_isLong_16 : decode cX2_isLong 16 = .ok (.goto 4, 3) := by decide +kernel
theorem dX2_isLong_19 : decode cX2_isLong 19 = .ok (.iconst 0, 1) := by decide +kernel
theorem dX2_isLong_20 : decode cX2_isLong 20 = .ok (.ireturn, 1) := by decide +kernel
theorem dX2_kindAt_0 : decode cX2_kindAt 0 = .ok (.iload_n 1, 1) := by decide +kernel
theorem dX2_kindAt_1 : decode cX2_kindAt 1 = .ok (.ifCond .lt 11, 3) := by decide +kernel
theorem dX2_kindAt_4 : decode cX2_kindAt 4 = .ok (.iload_n 1, 1) := by decide +kernel
theorem dX2_kindAt_5 : decode cX2_kindAt 5 = .ok (.aload_n 0, 1) := by decide +kernel
theorem dX2_kindAt_6 : decode cX2_kindAt 6 = .ok (.getfield 15, 3) := by decide +kernel
theorem dX2_kindAt_9 : decode cX2_kindAt 9 = .ok (.if_icmp .lt 5, 3) := by decide +kernel
theorem dX2_kindAt_12 : decode cX2_kindAt 12 = .ok (.iconst 3, 1) := by decide +kernel
theorem dX2_kindAt_13 : decode cX2_kindAt 13 = .ok (.ireturn, 1) := by decide +kernel
theorem dX2_kindAt_14 : decode cX2_kindAt 14 = .ok (.aload_n 0, 1) := by decide +kernel
theorem dX2_kindAt_15 : decode cX2_kindAt 15 = .ok (.getfield 11, 3) := by decide +kernel
theorem dX2_kindAt_18 : decode cX2_kindAt 18 = .ok (.iload_n 1, 1) := by decide +kernel
theorem dX2_kindAt_19 : decode cX2_kindAt 19 = .ok (.iaload, 1) := by decide +kernel
theorem dX2_kindAt_20 : decode cX2_kindAt 20 = .ok (.istore_n 2, 1) := by decide +kernel
theorem dX2_kindAt_21 : decode cX2_kindAt 21 = .ok (.iload_n 2, 1) := by decide +kernel
theorem dX2_kindAt_22 : decode cX2_kindAt 22 = .ok (.bipush 97, 2) := by decide +kernel
theorem dX2_kindAt_24 : decode cX2_kindAt 24 = .ok (.if_icmp .lt 11, 3) := by decide +kernel
theorem dX2_kindAt_27 : decode cX2_kindAt 27 = .ok (.iload_n 2, 1) := by decide +kernel
theorem dX2_kindAt_28 : decode cX2_kindAt 28 = .ok (.bipush 122, 2) := by decide +kernel
theorem dX2_kindAt_30 : decode cX2_kindAt 30 = .ok (.if_icmp .gt 5, 3) := by decide +kernel
theorem dX2_kindAt_33 : decode cX2_kindAt 33 = .ok (.iconst 0, 1) := by decide +kernel
theorem dX2_kindAt_34 : decode cX2_kindAt 34 = .ok (.ireturn, 1) := by decide +kernel
theorem dX2_kindAt_35 : decode cX2_kindAt 35 = .ok (.iload_n 2, 1) := by decide +kernel
theorem dX2_kindAt_36 : decode cX2_kindAt 36 = .ok (.bipush 48, 2) := by decide +kernel
theorem dX2_kindAt_38 : decode cX2_kindAt 38 = .ok (.if_icmp .lt 11, 3) := by decide +kernel
theorem dX2_kindAt_41 : decode cX2_kindAt 41 = .ok (.iload_n 2, 1) := by decide +kernel
theorem dX2_kindAt_42 : decode cX2_kindAt 42 = .ok (.bipush 57, 2) := by decide +kernel
theorem dX2_kindAt_44 : decode cX2_kindAt 44 = .ok (.if_icmp .gt 5, 3) := by decide +kernel
theorem dX2_kindAt_47 : decode cX2_kindAt 47 = .ok (.iconst 1, 1) := by decide +kernel
theorem dX2_kindAt_48 : decode cX2_kindAt 48 = .ok (.ireturn, 1) := by decide +kernel
theorem dX2_kindAt_49 : decode cX2_kindAt 49 = .ok (.iload_n 2, 1) := by decide +kernel
theorem dX2_kindAt_50 : decode cX2_kindAt 50 = .ok (.bipush 59, 2) := by decide +kernel
theorem dX2_kindAt_52 : decode cX2_kindAt 52 = .ok (.if_icmp .ne 7, 3) := by decide +kernel
theorem dX2_kindAt_55 : decode cX2_kindAt 55 = .ok (.iconst 2, 1) := by decide +kernel
theorem dX2_kindAt_56 : decode cX2_kindAt 56 = .ok (.goto 4, 3) := by decide +kernel
theorem dX2_kindAt_59 : decode cX2_kindAt 59 = .ok (.iconst 4, 1) := by decide +kernel
theorem dX2_kindAt_60 : decode cX2_kindAt 60 = .ok (.ireturn, 1) := by decide +kernel
theorem dX3_init_0 : decode cX3_init 0 = .ok (.aload_n 0, 1) := by decide +kernel
theorem dX3_init_1 : decode cX3_init 1 = .ok (.invokespecial 3, 3) := by decide +kernel
theorem dX3_init_4 : decode cX3_init 4 = .ok (.aload_n 0, 1) := by decide +kernel
theorem dX3_init_5 : decode cX3_init 5 = .ok (.bipush 8, 2) := by decide +kernel
theorem dX3_init_7 : decode cX3_init 7 = .ok (.newarray .int, 2) := by decide +kernel
theorem dX3_init_9 : decode cX3_init 9 = .ok (.putfield 9, 3) := by decide +kernel
theorem dX3_init_12 : decode cX3_init 12 = .ok (.aload_n 0, 1) := by decide +kernel
theorem dX3_init_13 : decode cX3_init 13 = .ok (.bipush 80, 2) := by decide +kernel
theorem dX3_init_15 : decode cX3_init 15 = .ok (.anewarray 15, 3) := by decide +kernel
theorem dX3_init_18 : decode cX3_init 18 = .ok (.putfield 17, 3) := by decide +kernel
theorem dX3_init_21 : decode cX3_init 21 = .ok (.aload_n 0, 1) := by decide +kernel
theorem dX3_init_22 : decode cX3_init 22 = .ok (.iconst (-1), 1) := by decide +kernel
theorem dX3_init_23 : decode cX3_init 23 = .ok (.putfield 21, 3) := by decide +kernel
theorem dX3_init_26 : decode cX3_init 26 = .ok (.aload_n 0, 1) := by decide +kernel
theorem dX3_init_27 : decode cX3_init 27 = .ok (.iconst (-1), 1) := by decide +kernel
theorem dX3_init_28 : decode cX3_init 28 = .ok (.putfield 25, 3) := by decide +kernel
theorem dX3_init_31 : decode cX3_init 31 = .ok (.aload_n 0, 1) := by decide +kernel
theorem dX3_init_32 : decode cX3_init 32 = .ok (.bipush 24, 2) := by decide +kernel
theorem dX3_init_34 : decode cX3_init 34 = .ok (.newarray .int, 2) := by decide +kernel
theorem dX3_init_36 : decode cX3_init 36 = .ok (.putfield 28, 3) := by decide +kernel
theorem dX3_init_39 : decode cX3_init 39 = .ok (.aload_n 0, 1) := by decide +kernel
theorem dX3_init_40 : decode cX3_init 40 = .ok (.bipush 10, 2) := by decide +kernel
theorem dX3_init_42 : decode cX3_init 42 = .ok (.bipush 80, 2) := by decide +kernel
theorem dX3_init_44 : decode cX3_init 44 = .ok (.multianewarray 31 2, 4) := by decide +kernel
theorem dX3_init_48 : decode cX3_init 48 = .ok (.putfield 33, 3) := by decide +kernel
theorem dX3_init_51 : decode cX3_init 51 = .ok (.aload_n 0, 1) := by decide +kernel
theorem dX3_init_52 : decode cX3_init 52 = .ok (.bipush 10, 2) := by decide +kernel
theorem dX3_init_54 : decode cX3_init 54 = .ok (.newarray .int, 2) := by decide +kernel
theorem dX3_init_56 : decode cX3_init 56 = .ok (.putfield 36, 3) := by decide +kernel
theorem dX3_init_59 : decode cX3_init 59 = .ok (.aload_n 0, 1) := by decide +kernel
theorem dX3_init_60 : decode cX3_init 60 = .ok (.bipush 8, 2) := by decide +kernel
theorem dX3_init_62 : decode cX3_init 62 = .ok (.newarray .int, 2) := by decide +kernel
theorem dX3_init_64 : decode cX3_init 64 = .ok (.putfield 39, 3) := by decide +kernel
theorem dX3_init_67 : decode cX3_init 67 = .ok (.aload_n 0, 1) := by decide +kernel
theorem dX3_init_68 : decode cX3_init 68 = .ok (.bipush 9, 2) := by decide +kernel
theorem dX3_init_70 : decode cX3_init 70 = .ok (.newarray .int, 2) := by decide +kernel
theorem dX3_init_72 : decode cX3_init 72 = .ok (.putfield 42, 3) := by decide +kernel
theorem dX3_init_75 : decode cX3_init 75 = .ok (.aload_n 0, 1) := by decide +kernel
theorem dX3_init_76 : decode cX3_init 76 = .ok (.sipush 256, 3) := by decide +kernel
theorem dX3_init_79 : decode cX3_init 79 = .ok (.newarray .int, 2) := by decide +kernel
theorem dX3_init_81 : decode cX3_init 81 = .ok (.putfield 45, 3) := by decide +kernel
theorem dX3_init_84 : decode cX3_init 84 = .ok (.aload_n 0, 1) := by decide +kernel
theorem dX3_init_85 : decode cX3_init 85 = .ok (.getfield 28, 3) := by decide +kernel
theorem dX3_init_88 : decode cX3_init 88 = .ok (.iconst (-1), 1) := by decide +kernel
theorem dX3_init_89 : decode cX3_init 89 = .ok (.invokestatic 48, 3) := by decide +kernel
theorem dX3_init_92 : decode cX3_init 92 = .ok (.return_, 1) := by decide +kernel
theorem dX3_forget_0 : decode cX3_forget 0 = .ok (.aload_n 0, 1) := by decide +kernel
theorem dX3_forget_1 : decode cX3_forget 1 = .ok (.iconst (-1), 1) := by decide +kernel
theorem dX3_forget_2 : decode cX3_forget 2 = .ok (.putfield 21, 3) := by decide +kernel
theorem dX3_forget_5 : decode cX3_forget 5 = .ok (.aload_n 0, 1) := by decide +kernel
theorem dX3_forget_6 : decode cX3_forget 6 = .ok (.iconst (-1), 1) := by decide +kernel
theorem dX3_forget_7 : decode cX3_forget 7 = .ok (.putfield 25, 3) := by decide +kernel
theorem dX3_forget_10 : decode cX3_forget 10 = .ok (.aload_n 0, 1) := by decide +kernel
theorem dX3_forget_11 : decode cX3_forget 11 = .ok (.getfield 28, 3) := by decide +kernel
theorem dX3_forget_14 : decode cX3_forget 14 = .ok (.iconst (-1), 1) := by decide +kernel
theorem dX3_forget_15 : decode cX3_forget 15 = .ok (.invokestatic 48, 3) := by decide +kernel
theorem dX3_forget_18 : decode cX3_forget 18 = .ok (.return_, 1) := by decide +kernel
theorem dX3_judgeCluster_0 : decode cX3_judgeCluster 0 = .ok (.iload_n 1, 1) := by decide +kernel
theorem dX3_judgeCluster_1 : decode cX3_judgeCluster 1 = .ok (.invokestatic 54, 3) := by decide +kernel
theorem dX3_judgeCluster_4 : decode cX3_judgeCluster 4 = .ok (.ifCond .ne 5, 3) := by decide +kernel
theorem dX3_judgeCluster_7 : decode cX3_judgeCluster 7 = .ok (.iconst 0, 1) := by decide +kernel
theorem dX3_judgeCluster_8 : decode cX3_judgeCluster 8 = .ok (.ireturn, 1) := by decide +kernel
theorem dX3_judgeCluster_9 : decode cX3_judgeCluster 9 = .ok (.aload_n 0, 1) := by decide +kernel
theorem dX3_judgeCluster_10 : decode cX3_judgeCluster 10 = .ok (.getfield 28, 3) := by decide +kernel
theorem dX3_judgeCluster_13 : decode cX3_judgeCluster 13 = .ok (.iload_n 1, 1) := by decide +kernel
theorem dX3_judgeCluster_14 : decode cX3_judgeCluster 14 = .ok (.iaload, 1) := by decide +kernel
theorem dX3_judgeCluster_15 : decode cX3_judgeCluster 15 = .ok (.iconst (-1), 1) := by decide +kernel
theorem dX3_judgeCluster_16 : decode cX3_judgeCluster 16 = .ok (.if_icmp .ne 25, 3) := by decide +kernel
theorem dX3_judgeCluster_19 : decode cX3_judgeCluster 19 = .ok (.aload_n 0, 1) := by decide +kernel
theorem dX3_judgeCluster_20 : decode cX3_judgeCluster 20 = .ok (.iload_n 1, 1) := by decide +kernel
theorem dX3_judgeCluster_21 : decode cX3_judgeCluster 21 = .ok (.iconst 4, 1) := by decide +kernel
theorem dX3_judgeCluster_22 : decode cX3_judgeCluster 22 = .ok (.idiv, 1) := by decide +kernel
theorem dX3_judgeCluster_23 : decode cX3_judgeCluster 23 = .ok (.iload_n 1, 1) := by decide +kernel
theorem dX3_judgeCluster_24 : decode cX3_judgeCluster 24 = .ok (.iconst 4, 1) := by decide +kernel
theorem dX3_judgeCluster_25 : decode cX3_judgeCluster 25 = .ok (.irem, 1) := by decide +kernel
theorem dX3_judgeCluster_26 : decode cX3_judgeCluster 26 = .ok (.aload_n 2, 1) := by decide +kernel
theorem dX3_judgeCluster_27 : decode cX3_judgeCluster 27 = .ok (.aload_n 3, 1) := by decide +kernel
theorem dX3_judgeCluster_28 : decode cX3_judgeCluster 28 = .ok (.invokevirtual 58, 3) := by decide +kernel
theorem dX3_judgeCluster_31 : decode cX3_judgeCluster 31 = .ok (.aload_n 0, 1) := by decide +kernel
theorem dX3_judgeCluster_32 : decode cX3_judgeCluster 32 = .ok (.getfield 28, 3) := by decide +kernel
theorem dX3_judgeCluster_35 : decode cX3_judgeCluster 35 = .ok (.iload_n 1, 1) := by decide +kernel
theorem dX3_judgeCluster_36 : decode cX3_judgeCluster 36 = .ok (.aload_n 0, 1) := by decide +kernel
theorem dX3_judgeCluster_37 : decode cX3_judgeCluster 37 = .ok (.getfield 62, 3) := by decide +kernel
theorem dX3_judgeCluster_40 : decode cX3_judgeCluster 40 = .ok (.iastore, 1) := by decide +kernel
theorem dX3_judgeCluster_41 : decode cX3_judgeCluster 41 = .ok (.aload_n 0, 1) := by decide +kernel
theorem dX3_judgeCluster_42 : decode cX3_judgeCluster 42 = .ok (.getfield 28, 3) := by decide +kernel
theorem dX3_judgeCluster_45 : decode cX3_judgeCluster 45 = .ok (.iload_n 1, 1) := by decide +kernel
theorem dX3_judgeCluster_46 : decode cX3_judgeCluster 46 = .ok (.iaload, 1) := by decide +kernel
theorem dX3_judgeCluster_47 : decode cX3_judgeCluster 47 = .ok (.ireturn, 1) := by decide +kernel
theorem dX3_judge_0 : decode cX3_judge 0 = .ok (.aload_n 0, 1) := by decide +kernel
theorem dX3_judge_1 : decode cX3_judge 1 = .ok (.getfield 21, 3) := by decide +kernel
theorem dX3_judge_4 : decode cX3_judge 4 = .ok (.iload_n 1, 1) := by decide +kernel
theorem dX3_judge_5 : decode cX3_judge 5 = .ok (.if_icmp .ne 12, 3) := by decide +kernel
theorem dX3_judge_8 : decode cX3_judge 8 = .ok (.aload_n 0, 1) := by decide +kernel
theorem dX3_judge_9 : decode cX3_judge 9 = .ok (.getfield 25, 3) := by decide +kernel
theorem dX3_judge_12 : decode cX3_judge 12 = .ok (.iload_n 2, 1) := by decide +kernel
theorem dX3_judge_13 : decode cX3_judge 13 = .ok (.if_icmp .ne 4, 3) := by decide +kernel
theorem dX3_judge_16 : decode cX3_judge 16 = .ok (.return_, 1) := by decide +kernel
theorem dX3_judge_17 : decode cX3_judge 17 = .ok (.aload_n 0, 1) := by decide +kernel
theorem dX3_judge_18 : decode cX3_judge 18 = .ok (.iload_n 1, 1) := by decide +kernel
theorem dX3_judge_19 : decode cX3_judge 19 = .ok (.putfield 21, 3) := by decide +kernel
theorem dX3_judge_22 : decode cX3_judge 22 = .ok (.aload_n 0, 1) := by decide +kernel
theorem dX3_judge_23 : decode cX3_judge 23 = .ok (.iload_n 2, 1) := by decide +kernel
theorem dX3_judge_24 : decode cX3_judge 24 = .ok (.putfield 25, 3) := by decide +kernel
theorem dX3_judge_27 : decode cX3_judge 27 = .ok (.aload_n 0, 1) := by decide +kernel
theorem dX3_judge_28 : decode cX3_judge 28 = .ok (.aload_n 3, 1) := by decide +kernel
theorem dX3_judge_29 : decode cX3_judge 29 = .ok (.invokevirtual 65, 3) := by decide +kernel
theorem dX3_judge_32 : decode cX3_judge 32 = .ok (.aload_n 0, 1) := by decide +kernel
theorem dX3_judge_33 : decode cX3_judge 33 = .ok (.getfield 69, 3) := by decide +kernel
theorem dX3_judge_36 : decode cX3_judge 36 = .ok (.ifCond .ne 11, 3) := by decide +kernel
theorem dX3_judge_39 : decode cX3_judge 39 = .ok (.aload_n 0, 1) := by decide +kernel
theorem dX3_judge_40 : decode cX3_judge 40 = .ok (.iconst 0, 1) := by decide +kernel
theorem dX3_judge_41 : decode cX3_judge 41 = .ok (.putfield 62, 3) := by decide +kernel
theorem dX3_judge_44 : decode cX3_judge 44 = .ok (.goto 52, 3) := by decide +kernel
theorem dX3_judge_47 : decode cX3_judge 47 = .ok (.aload_n 0, 1) := by decide +kernel
theorem dX3_judge_48 : decode cX3_judge 48 = .ok (.getfield 72, 3) := by decide +kernel
theorem dX3_judge_51 : decode cX3_judge 51 = .ok (.ifCond .le 27, 3) := by decide +kernel
theorem dX3_judge_54 : decode cX3_judge 54 = .ok (.aload_n 0, 1) := by decide +kernel
theorem dX3_judge_55 : decode cX3_judge 55 = .ok (.aload_n 0, 1) := by decide +kernel
theorem dX3_judge_56 : decode cX3_judge 56 = .ok (.aload 4, 2) := by decide +kernel
theorem dX3_judge_58 : decode cX3_judge 58 = .ok (.getfield 75, 3) := by decide +kernel
theorem dX3_judge_61 : decode cX3_judge 61 = .ok (.invokevirtual 78, 3) := by decide +kernel
theorem dX3_judge_64 : decode cX3_judge 64 = .ok (.ifCond .eq 7, 3) := by decide +kernel
theorem dX3_judge_67 : decode cX3_judge 67 = .ok (.iconst 1, 1) := by decide +kernel
theorem dX3_judge_68 : decode cX3_judge 68 = .ok (.goto 4, 3) := by decide +kernel
theorem dX3_judge_71 : decode cX3_judge 71 = .ok (.iconst 2, 1) := by decide +kernel
theorem dX3_judge_72 : decode cX3_judge 72 = .ok (.putfield 62, 3) := by decide +kernel
theorem dX3_judge_75 : decode cX3_judge 75 = .ok (.goto 21, 3) := by decide +kernel
theorem dX3_judge_78 : decode cX3_judge 78 = .ok (.aload_n 0, 1) := by decide +kernel
theorem dX3_judge_79 : decode cX3_judge 79 = .ok (.aload_n 0, 1) := by decide +kernel
theorem dX3_judge_80 : decode cX3_judge 80 = .ok (.aload 4, 2) := by decide +kernel
theorem dX3_judge_82 : decode cX3_judge 82 = .ok (.invokevirtual 81, 3) := by decide +kernel
theorem dX3_judge_85 : decode cX3_judge 85 = .ok (.ifCond .eq 7, 3) := by decide +kernel
theorem dX3_judge_88 : decode cX3_judge 88 = .ok (.iconst 3, 1) := by decide +kernel
theorem dX3_judge_89 : decode cX3_judge 89 = .ok (.goto 4, 3) := by decide +kernel
theorem dX3_judge_92 : decode cX3_judge 92 = .ok (.iconst 4, 1) := by decide +kernel
theorem dX3_judge_93 : decode cX3_judge 93 = .ok (.putfield 62, 3) := by decide +kernel
theorem dX3_judge_96 : decode cX3_judge 96 = .ok (.return_, 1) := by decide +kernel
theorem dX3_vote_0 : decode cX3_vote 0 = .ok (.aload_n 0, 1) := by decide +kernel
theorem dX3_vote_1 : decode cX3_vote 1 = .ok (.getfield 69, 3) := by decide +kernel
theorem dX3_vote_4 : decode cX3_vote 4 = .ok (.ifCond .eq 13, 3) := by decide +kernel
theorem dX3_vote_7 : decode cX3_vote 7 = .ok (.iload_n 1, 1) := by decide +kernel
theorem dX3_vote_8 : decode cX3_vote 8 = .ok (.ifCond .lt 9, 3) := by decide +kernel
theorem dX3_vote_11 : decode cX3_vote 11 = .ok (.iload_n 1, 1) := by decide +kernel
theorem dX3_vote_12 : decode cX3_vote 12 = .ok (.bipush 8, 2) := by decide +kernel
theorem dX3_vote_14 : decode cX3_vote 14 = .ok (.if_icmp .lt 5, 3) := by decide +kernel
theorem dX3_vote_17 : decode cX3_vote 17 = .ok (.iconst (-1), 1) := by decide +kernel
theorem dX3_vote_18 : decode cX3_vote 18 = .ok (.ireturn, 1) := by decide +kernel
theorem dX3_vote_19 : decode cX3_vote 19 = .ok (.aload_n 0, 1) := by decide +kernel
theorem dX3_vote_20 : decode cX3_vote 20 = .ok (.getfield 62, 3) := by decide +kernel
theorem dX3_vote_23 : decode cX3_vote 23 = .ok (.invokestatic 85, 3) := by decide +kernel
theorem dX3_vote_26 : decode cX3_vote 26 = .ok (.ifCond .eq 14, 3) := by decide +kernel
theorem dX3_vote_29 : decode cX3_vote 29 = .ok (.aload_n 0, 1) := by decide +kernel
theorem dX3_vote_30 : decode cX3_vote 30 = .ok (.getfield 9, 3) := by decide +kernel
theorem dX3_vote_33 : decode cX3_vote 33 = .ok (.iload_n 1, 1) := by decide +kernel
theorem dX3_vote_34 : decode cX3_vote 34 = .ok (.iaload, 1) := by decide +kernel
theorem dX3_vote_35 : decode cX3_vote 35 = .ok (.sipush 256, 3) := by decide +kernel
theorem dX3_vote_38 : decode cX3_vote 38 = .ok (.iadd, 1) := by decide +kernel
theorem dX3_vote_39 : decode cX3_vote 39 = .ok (.ireturn, 1) := by decide +kernel
theorem dX3_vote_40 : decode cX3_vote 40 = .ok (.aload_n 0, 1) := by decide +kernel
theorem dX3_vote_41 : decode cX3_vote 41 = .ok (.getfield 45, 3) := by decide +kernel
theorem dX3_vote_44 : decode cX3_vote 44 = .ok (.iconst 0, 1) := by decide +kernel
theorem dX3_vote_45 : decode cX3_vote 45 = .ok (.invokestatic 48, 3) := by decide +kernel
theorem dX3_vote_48 : decode cX3_vote 48 = .ok (.iconst 0, 1) := by decide +kernel
theorem dX3_vote_49 : decode cX3_vote 49 = .ok (.istore_n 2, 1) := by decide +kernel
theorem dX3_vote_50 : decode cX3_vote 50 = .ok (.iload_n 2, 1) := by decide +kernel
theorem dX3_vote_51 : decode cX3_vote 51 = .ok (.aload_n 0, 1) := by decide +kernel
theorem dX3_vote_52 : decode cX3_vote 52 = .ok (.getfield 69, 3) := by decide +kernel
theorem dX3_vote_55 : decode cX3_vote 55 = .ok (.if_icmp .ge 33, 3) := by decide +kernel
theorem dX3_vote_58 : decode cX3_vote 58 = .ok (.aload_n 0, 1) := by decide +kernel
theorem dX3_vote_59 : decode cX3_vote 59 = .ok (.getfield 45, 3) := by decide +kernel
theorem dX3_vote_62 : decode cX3_vote 62 = .ok (.aload_n 0, 1) := by decide +kernel
theorem dX3_vote_63 : decode cX3_vote 63 = .ok (.getfield 17, 3) := by decide +kernel
theorem dX3_vote_66 : decode cX3_vote 66 = .ok (.iload_n 2, 1) := by decide +kernel
theorem dX3_vote_67 : decode cX3_vote 67 = .ok (.aaload, 1) := by decide +kernel
theorem dX3_vote_68 : decode cX3_vote 68 = .ok (.getfield 88, 3) := by decide +kernel
theorem dX3_vote_71 : decode cX3_vote 71 = .ok (.iload_n 1, 1) := by decide +kernel
theorem dX3_vote_72 : decode cX3_vote 72 = .ok (.iaload, 1) := by decide +kernel
theorem dX3_vote_73 : decode cX3_vote 73 = .ok (.sipush 255, 3) := by decide +kernel
theorem dX3_vote_76 : decode cX3_vote 76 = .ok (.iand, 1) := by decide +kernel
theorem dX3_vote_77 : decode cX3_vote 77 = .ok (.dup2, 1) := by decide +kernel
theorem dX3_vote_78 : decode cX3_vote 78 = .ok (.iaload, 1) := by decide +kernel
theorem dX3_vote_79 : decode cX3_vote 79 = .ok (.iconst 1, 1) := by decide +kernel
theorem dX3_vote_80 : decode cX3_vote 80 = .ok (.iadd, 1) := by decide +kernel
theorem dX3_vote_81 : decode cX3_vote 81 = .ok (.iastore, 1) := by decide +kernel
theorem dX3_vote_82 : decode cX3_vote 82 = .ok (.iinc 2 1, 3) := by decide +kernel
theorem dX3_vote_85 : decode cX3_vote 85 = .ok (.goto (-35), 3) := by decide +kernel
theorem dX3_vote_88 : decode cX3_vote 88 = .ok (.iconst 0, 1) := by decide +kernel
theorem dX3_vote_89 : decode cX3_vote 89 = .ok (.istore_n 2, 1) := by decide +kernel
theorem dX3_vote_90 : decode cX3_vote 90 = .ok (.iconst 1, 1) := by decide +kernel
theorem dX3_vote_91 : decode cX3_vote 91 = .ok (.istore_n 3, 1) := by decide +kernel
theorem dX3_vote_92 : decode cX3_vote 92 = .ok (.iload_n 3, 1) := by decide +kernel
theorem dX3_vote_93 : decode cX3_vote 93 = .ok (.sipush 255, 3) := by decide +kernel
theorem dX3_vote_96 : decode cX3_vote 96 = .ok (.if_icmp .gt 26, 3) := by decide +kernel
theorem dX3_vote_99 : decode cX3_vote 99 = .ok (.aload_n 0, 1) := by decide +kernel
theorem dX3_vote_100 : decode cX3_vote 100 = .ok (.getfield 45, 3) := by decide +kernel
theorem dX3_vote_103 : decode cX3_vote 103 = .ok (.iload_n 3, 1) := by decide +kernel
theorem dX3_vote_104 : decode cX3_vote 104 = .ok (.iaload, 1) := by decide +kernel
theorem dX3_vote_105 : decode cX3_vote 105 = .ok (.aload_n 0, 1) := by decide +kernel
theorem dX3_vote_106 : decode cX3_vote 106 = .ok (.getfield 45, 3) := by decide +kernel
theorem dX3_vote_109 : decode cX3_vote 109 = .ok (.iload_n 2, 1) := by decide +kernel
theorem dX3_vote_110 : decode cX3_vote 110 = .ok (.iaload, 1) := by decide +kernel
theorem dX3_vote_111 : decode cX3_vote 111 = .ok (.if_icmp .le 5, 3) := by decide +kernel
theorem dX3_vote_114 : decode cX3_vote 114 = .ok (.iload_n 3, 1) := by decide +kernel
theorem dX3_vote_115 : decode cX3_vote 115 = .ok (.istore_n 2, 1) := by decide +kernel
theorem dX3_vote_116 : decode cX3_vote 116 = .ok (.iinc 3 1, 3) := by decide +kernel
theorem dX3_vote_119 : decode cX3_vote 119 = .ok (.goto (-27), 3) := by decide +kernel
theorem dX3_vote_122 : decode cX3_vote 122 = .ok (.iconst 2, 1) := by decide +kernel
theorem dX3_vote_123 : decode cX3_vote 123 = .ok (.aload_n 0, 1) := by decide +kernel
theorem dX3_vote_124 : decode cX3_vote 124 = .ok (.getfield 45, 3) := by decide +kernel
theorem dX3_vote_127 : decode cX3_vote 127 = .ok (.iload_n 2, 1) := by decide +kernel
theorem dX3_vote_128 : decode cX3_vote 128 = .ok (.iaload, 1) := by decide +kernel
theorem dX3_vote_129 : decode cX3_vote 129 = .ok (.imul, 1) := by decide +kernel
theorem dX3_vote_130 : decode cX3_vote 130 = .ok (.aload_n 0, 1) := by decide +kernel
theorem dX3_vote_131 : decode cX3_vote 131 = .ok (.getfield 69, 3) := by decide +kernel
theorem dX3_vote_134 : decode cX3_vote 134 = .ok (.if_icmp .le 11, 3) := by decide +kernel
theorem dX3_vote_137 : decode cX3_vote 137 = .ok (.iload_n 2, 1) := by decide +kernel
theorem dX3_vote_138 : decode cX3_vote 138 = .ok (.sipush 256, 3) := by decide +kernel
theorem dX3_vote_141 : decode cX3_vote 141 = .ok (.iadd, 1) := by decide +kernel
theorem dX3_vote_142 : decode cX3_vote 142 = .ok (.goto 4, 3) := by decide +kernel
theorem dX3_vote_145 : decode cX3_vote 145 = .ok (.iload_n 2, 1) := by decide +kernel
theorem dX3_vote_146 : decode cX3_vote 146 = .ok (.ireturn, 1) := by decide +kernel
theorem dX3_gather_0 : decode cX3_gather 0 = .ok (.aload_n 0, 1) := by decide +kernel
theorem dX3_gather_1 : decode cX3_gather 1 = .ok (.iconst 0, 1) := by decide +kernel
theorem dX3_gather_2 : decode cX3_gather 2 = .ok (.putfield 69, 3) := by decide +kernel
theorem dX3_gather_5 : decode cX3_gather 5 = .ok (.aload_n 0, 1) := by decide +kernel
theorem dX3_gather_6 : decode cX3_gather 6 = .ok (.iconst 0, 1) := by decide +kernel
theorem dX3_gather_7 : decode cX3_gather 7 = .ok (.putfield 72, 3) := by decide +kernel
theorem dX3_gather_10 : decode cX3_gather 10 = .ok (.iconst 0, 1) := by decide +kernel
theorem dX3_gather_11 : decode cX3_gather 11 = .ok (.istore_n 2, 1) := by decide +kernel
theorem dX3_gather_12 : decode cX3_gather 12 = .ok (.iload_n 2, 1) := by decide +kernel
theorem dX3_gather_13 : decode cX3_gather 13 = .ok (.aload_n 1, 1) := by decide +kernel
theorem dX3_gather_14 : decode cX3_gather 14 = .ok (.getfield 89, 3) := by decide +kernel
theorem dX3_gather_17 : decode cX3_gather 17 = .ok (.if_icmp .ge 122, 3) := by decide +kernel
theorem dX3_gather_20 : decode cX3_gather 20 = .ok (.aload_n 1, 1) := by decide +kernel
theorem dX3_gather_21 : decode cX3_gather 21 = .ok (.getfield 92, 3) := by decide +kernel
theorem dX3_gather_24 : decode cX3_gather 24 = .ok (.iload_n 2, 1) := by decide +kernel
theorem dX3_gather_25 : decode cX3_gather 25 = .ok (.aaload, 1) := by decide +kernel
theorem dX3_gather_26 : decode cX3_gather 26 = .ok (.getfield 96, 3) := by decide +kernel
theorem dX3_gather_29 : decode cX3_gather 29 = .ok (.astore_n 3, 1) := by decide +kernel
theorem dX3_gather_30 : decode cX3_gather 30 = .ok (.iconst 0, 1) := by decide +kernel
theorem dX3_gather_31 : decode cX3_gather 31 = .ok (.istore 4, 2) := by decide +kernel
theorem dX3_gather_33 : decode cX3_gather 33 = .ok (.iload 4, 2) := by decide +kernel
theorem dX3_gather_35 : decode cX3_gather 35 = .ok (.aload_n 3, 1) := by decide +kernel
theorem dX3_gather_36 : decode cX3_gather 36 = .ok (.getfield 102, 3) := by decide +kernel
theorem dX3_gather_39 : decode cX3_gather 39 = .ok (.if_icmp .ge 94, 3) := by decide +kernel
theorem dX3_gather_42 : decode cX3_gather 42 = .ok (.aload_n 0, 1) := by decide +kernel
theorem dX3_gather_43 : decode cX3_gather 43 = .ok (.getfield 69, 3) := by decide +kernel
theorem dX3_gather_46 : decode cX3_gather 46 = .ok (.bipush 80, 2) := by decide +kernel
theorem dX3_gather_48 : decode cX3_gather 48 = .ok (.if_icmp .ge 85, 3) := by decide +kernel
theorem dX3_gather_51 : decode cX3_gather 51 = .ok (.aload_n 3, 1) := by decide +kernel
theorem dX3_gather_52 : decode cX3_gather 52 = .ok (.getfield 105, 3) := by decide +kernel
theorem dX3_gather_55 : decode cX3_gather 55 = .ok (.iload 4, 2) := by decide +kernel
theorem dX3_gather_57 : decode cX3_gather 57 = .ok (.aaload, 1) := by decide +kernel
theorem dX3_gather_58 : decode cX3_gather 58 = .ok (.astore 5, 2) := by decide +kernel
theorem dX3_gather_60 : decode cX3_gather 60 = .ok (.aload 5, 2) := by decide +kernel
theorem dX3_gather_62 : decode cX3_gather 62 = .ok (.getfield 108, 3) := by decide +kernel
theorem dX3_gather_65 : decode cX3_gather 65 = .ok (.aload_n 0, 1) := by decide +kernel
theorem dX3_gather_66 : decode cX3_gather 66 = .ok (.getfield 21, 3) := by decide +kernel
theorem dX3_gather_69 : decode cX3_gather 69 = .ok (.if_icmp .ne 58, 3) := by decide +kernel
theorem dX3_gather_72 : decode cX3_gather 72 = .ok (.aload 5, 2) := by decide +kernel
theorem dX3_gather_74 : decode cX3_gather 74 = .ok (.getfield 109, 3) := by decide +kernel
theorem dX3_gather_77 : decode cX3_gather 77 = .ok (.aload_n 0, 1) := by decide +kernel
theorem dX3_gather_78 : decode cX3_gather 78 = .ok (.getfield 25, 3) := by decide +kernel
theorem dX3_gather_81 : decode cX3_gather 81 = .ok (.if_icmp .ne 46, 3) := by decide +kernel
theorem dX3_gather_84 : decode cX3_gather 84 = .ok (.aload_n 0, 1) := by decide +kernel
theorem dX3_gather_85 : decode cX3_gather 85 = .ok (.getfield 17, 3) := by decide +kernel
theorem dX3_gather_88 : decode cX3_gather 88 = .ok (.aload_n 0, 1) := by decide +kernel
theorem dX3_gather_89 : decode cX3_gather 89 = .ok (.getfield 69, 3) := by decide +kernel
theorem dX3_gather_92 : decode cX3_gather 92 = .ok (.aload 5, 2) := by decide +kernel
theorem dX3_gather_94 : decode cX3_gather 94 = .ok (.aastore, 1) := by decide +kernel
theorem dX3_gather_95 : decode cX3_gather 95 = .ok (.aload_n 0, 1) := by decide +kernel
theorem dX3_gather_96 : decode cX3_gather 96 = .ok (.dup, 1) := by decide +kernel
theorem dX3_gather_97 : decode cX3_gather 97 = .ok (.getfield 69, 3) := by decide +kernel
theorem dX3_gather_100 : decode cX3_gather 100 = .ok (.iconst 1, 1) := by decide +kernel
theorem dX3_gather_101 : decode cX3_gather 101 = .ok (.iadd, 1) := by decide +kernel
theorem dX3_gather_102 : decode cX3_gather 102 = .ok (.putfield 69, 3) := by decide +kernel
theorem dX3_gather_105 : decode cX3_gather 105 = .ok (.aload_n 0, 1) := by decide +kernel
theorem dX3_gather_106 : decode cX3_gather 106 = .ok (.dup, 1) := by decide +kernel
theorem dX3_gather_107 : decode cX3_gather 107 = .ok (.getfield 72, 3) := by decide +kernel
theorem dX3_gather_110 : decode cX3_gather 110 = .ok (.aload 5, 2) := by decide +kernel
theorem dX3_gather_112 : decode cX3_gather 112 = .ok (.invokevirtual 110, 3) := by decide +kernel
theorem dX3_gather_115 : decode cX3_gather 115 = .ok (.ifCond .eq 7, 3) := by decide +kernel
theorem dX3_gather_118 : decode cX3_gather 118 = .ok (.iconst 1, 1) := by decide +kernel
theorem dX3_gather_119 : decode cX3_gather 119 = .ok (.goto 4, 3) := by decide +kernel
theorem dX3_gather_122 : decode cX3_gather 122 = .ok (.iconst 0, 1) := by decide +kernel
theorem dX3_gather_123 : decode cX3_gather 123 = .ok (.iadd, 1) := by decide +kernel
theorem dX3_gather_124 : decode cX3_gather 124 = .ok (.putfield 72, 3) := by decide +kernel
theorem dX3_gather_127 : decode cX3_gather 127 = .ok (.iinc 4 1, 3) := by decide +kernel
theorem dX3_gather_130 : decode cX3_gather 130 = .ok (.goto (-97), 3) := by decide +kernel
theorem dX3_gather_133 : decode cX3_gather 133 = .ok (.iinc 2 1, 3) := by decide +kernel
theorem dX3_gather_136 : decode cX3_gather 136 = .ok (.goto (-124), 3) := by decide +kernel
theorem dX3_gather_139 : decode cX3_gather 139 = .ok (.return_, 1) := by decide +kernel
theorem dX3_rightAgree_0 : decode cX3_rightAgree 0 = .ok (.aconst_null, 1) := by decide +kernel
theorem dX3_rightAgree_1 : decode cX3_rightAgree 1 = .ok (.astore_n 2, 1) := by decide +kernel
theorem dX3_rightAgree_2 : decode cX3_rightAgree 2 = .ok (.iconst 0, 1) := by decide +kernel
theorem dX3_rightAgree_3 : decode cX3_rightAgree 3 = .ok (.istore_n 3, 1) := by decide +kernel
theorem dX3_rightAgree_4 : decode cX3_rightAgree 4 = .ok (.iload_n 3, 1) := by decide +kernel
theorem dX3_rightAgree_5 : decode cX3_rightAgree 5 = .ok (.aload_n 0, 1) := by decide +kernel
theorem dX3_rightAgree_6 : decode cX3_rightAgree 6 = .ok (.getfield 69, 3) := by decide +kernel
theorem dX3_rightAgree_9 : decode cX3_rightAgree 9 = .ok (.if_icmp .ge 51, 3) := by decide +kernel
theorem dX3_rightAgree_12 : decode cX3_rightAgree 12 = .ok (.aload_n 0, 1) := by decide +kernel
theorem dX3_rightAgree_13 : decode cX3_rightAgree 13 = .ok (.getfield 17, 3) := by decide +kernel
theorem dX3_rightAgree_16 : decode cX3_rightAgree 16 = .ok (.iload_n 3, 1) := by decide +kernel
theorem dX3_rightAgree_17 : decode cX3_rightAgree 17 = .ok (.aaload, 1) := by decide +kernel
theorem dX3_rightAgree_18 : decode cX3_rightAgree 18 = .ok (.invokevirtual 110, 3) := by decide +kernel
theorem dX3_rightAgree_21 : decode cX3_rightAgree 21 = .ok (.ifCond .eq 33, 3) := by decide +kernel
theorem dX3_rightAgree_24 : decode cX3_rightAgree 24 = .ok (.aload_n 2, 1) := by decide +kernel
theorem dX3_rightAgree_25 : decode cX3_rightAgree 25 = .ok (.ifnonnull 13, 3) := by decide +kernel
theorem dX3_rightAgree_28 : decode cX3_rightAgree 28 = .ok (.aload_n 0, 1) := by decide +kernel
theorem dX3_rightAgree_29 : decode cX3_rightAgree 29 = .ok (.getfield 17, 3) := by decide +kernel
theorem dX3_rightAgree_32 : decode cX3_rightAgree 32 = .ok (.iload_n 3, 1) := by decide +kernel
theorem dX3_rightAgree_33 : decode cX3_rightAgree 33 = .ok (.aaload, 1) := by decide +kernel
theorem dX3_rightAgree_34 : decode cX3_rightAgree 34 = .ok (.astore_n 2, 1) := by decide +kernel
theorem dX3_rightAgree_35 : decode cX3_rightAgree 35 = .ok (.goto 19, 3) := by decide +kernel
theorem dX3_rightAgree_38 : decode cX3_rightAgree 38 = .ok (.aload_n 2, 1) := by decide +kernel
theorem dX3_rightAgree_39 : decode cX3_rightAgree 39 = .ok (.aload_n 0, 1) := by decide +kernel
theorem dX3_rightAgree_40 : decode cX3_rightAgree 40 = .ok (.getfield 17, 3) := by decide +kernel
theorem dX3_rightAgree_43 : decode cX3_rightAgree 43 = .ok (.iload_n 3, 1) := by decide +kernel
theorem dX3_rightAgree_44 : decode cX3_rightAgree 44 = .ok (.aaload, 1) := by decide +kernel
theorem dX3_rightAgree_45 : decode cX3_rightAgree 45 = .ok (.iload_n 1, 1) := by decide +kernel
theorem dX3_rightAgree_46 : decode cX3_rightAgree 46 = .ok (.invokevirtual 114, 3) := by decide +kernel
theorem dX3_rightAgree_49 : decode cX3_rightAgree 49 = .ok (.ifCond .ne 5, 3) := by decide +kernel
theorem dX3_rightAgree_52 : decode cX3_rightAgree 52 = .ok (.iconst 0, 1) := by decide +kernel
theorem dX3_rightAgree_53 : decode cX3_rightAgree 53 = .ok (.ireturn, 1) := by decide +kernel
theorem dX3_rightAgree_54 : decode cX3_rightAgree 54 = .ok (.iinc 3 1, 3) := by decide +kernel
theorem dX3_rightAgree_57 : decode cX3_rightAgree 57 = .ok (.goto (-53), 3) := by decide +kernel
theorem dX3_rightAgree_60 : decode cX3_rightAgree 60 = .ok (.aload_n 2, 1) := by decide +kernel
theorem dX3_rightAgree_61 : decode cX3_rightAgree 61 = .ok (.ifnonnull 5, 3) := by decide +kernel
theorem dX3_rightAgree_64 : decode cX3_rightAgree 64 = .ok (.iconst 0, 1) := by decide +kernel
theorem dX3_rightAgree_65 : decode cX3_rightAgree 65 = .ok (.ireturn, 1) := by decide +kernel
theorem dX3_rightAgree_66 : decode cX3_rightAgree 66 = .ok (.aload_n 2, 1) := by decide +kernel
theorem dX3_rightAgree_67 : decode cX3_rightAgree 67 = .ok (.getfield 88, 3) := by decide +kernel
theorem dX3_rightAgree_70 : decode cX3_rightAgree 70 = .ok (.iconst 0, 1) := by decide +kernel
theorem dX3_rightAgree_71 : decode cX3_rightAgree 71 = .ok (.aload_n 0, 1) := by decide +kernel
theorem dX3_rightAgree_72 : decode cX3_rightAgree 72 = .ok (.getfield 9, 3) := by decide +kernel
theorem dX3_rightAgree_75 : decode cX3_rightAgree 75 = .ok (.iconst 0, 1) := by decide +kernel
theorem dX3_rightAgree_76 : decode cX3_rightAgree 76 = .ok (.bipush 8, 2) := by decide +kernel
theorem dX3_rightAgree_78 : decode cX3_rightAgree 78 = .ok (.invokestatic 118, 3) := by decide +kernel
theorem dX3_rightAgree_81 : decode cX3_rightAgree 81 = .ok (.iconst 1, 1) := by decide +kernel
theorem dX3_rightAgree_82 : decode cX3_rightAgree 82 = .ok (.ireturn, 1) := by decide +kernel
theorem dX3_mend_0 : decode cX3_mend 0 = .ok (.aload_n 1, 1) := by decide +kernel
theorem dX3_mend_1 : decode cX3_mend 1 = .ok (.getfield 75, 3) := by decide +kernel
theorem dX3_mend_4 : decode cX3_mend 4 = .ok (.bipush 8, 2) := by decide +kernel
theorem dX3_mend_6 : decode cX3_mend 6 = .ok (.invokestatic 124, 3) := by decide +kernel
theorem dX3_mend_9 : decode cX3_mend 9 = .ok (.istore_n 2, 1) := by decide +kernel
theorem dX3_mend_10 : decode cX3_mend 10 = .ok (.aload_n 0, 1) := by decide +kernel
theorem dX3_mend_11 : decode cX3_mend 11 = .ok (.iload_n 2, 1) := by decide +kernel
theorem dX3_mend_12 : decode cX3_mend 12 = .ok (.invokevirtual 130, 3) := by decide +kernel
theorem dX3_mend_15 : decode cX3_mend 15 = .ok (.ifCond .ne 5, 3) := by decide +kernel
theorem dX3_mend_18 : decode cX3_mend 18 = .ok (.iconst 0, 1) := by decide +kernel
theorem dX3_mend_19 : decode cX3_mend 19 = .ok (.ireturn, 1) := by decide +kernel
theorem dX3_mend_20 : decode cX3_mend 20 = .ok (.iconst 1, 1) := by decide +kernel
theorem dX3_mend_21 : decode cX3_mend 21 = .ok (.istore_n 3, 1) := by decide +kernel
theorem dX3_mend_22 : decode cX3_mend 22 = .ok (.iconst 0, 1) := by decide +kernel
theorem dX3_mend_23 : decode cX3_mend 23 = .ok (.istore 4, 2) := by decide +kernel
theorem dX3_mend_25 : decode cX3_mend 25 = .ok (.iload 4, 2) := by decide +kernel
theorem dX3_mend_27 : decode cX3_mend 27 = .ok (.iload_n 2, 1) := by decide +kernel
theorem dX3_mend_28 : decode cX3_mend 28 = .ok (.if_icmp .ge 27, 3) := by decide +kernel
theorem dX3_mend_31 : decode cX3_mend 31 = .ok (.iload_n 3, 1) := by decide +kernel
theorem dX3_mend_32 : decode cX3_mend 32 = .ok (.aload_n 0, 1) := by decide +kernel
theorem dX3_mend_33 : decode cX3_mend 33 = .ok (.getfield 36, 3) := by decide +kernel
theorem dX3_mend_36 : decode cX3_mend 36 = .ok (.iload 4, 2) := by decide +kernel
theorem dX3_mend_38 : decode cX3_mend 38 = .ok (.iaload, 1) := by decide +kernel
theorem dX3_mend_39 : decode cX3_mend 39 = .ok (.imul, 1) := by decide +kernel
theorem dX3_mend_40 : decode cX3_mend 40 = .ok (.istore_n 3, 1) := by decide +kernel
theorem dX3_mend_41 : decode cX3_mend 41 = .ok (.aload_n 0, 1) := by decide +kernel
theorem dX3_mend_42 : decode cX3_mend 42 = .ok (.getfield 39, 3) := by decide +kernel
theorem dX3_mend_45 : decode cX3_mend 45 = .ok (.iload 4, 2) := by decide +kernel
theorem dX3_mend_47 : decode cX3_mend 47 = .ok (.iconst 0, 1) := by decide +kernel
theorem dX3_mend_48 : decode cX3_mend 48 = .ok (.iastore, 1) := by decide +kernel
theorem dX3_mend_49 : decode cX3_mend 49 = .ok (.iinc 4 1, 3) := by decide +kernel
theorem dX3_mend_52 : decode cX3_mend 52 = .ok (.goto (-27), 3) := by decide +kernel
theorem dX3_mend_55 : decode cX3_mend 55 = .ok (.aload_n 0, 1) := by decide +kernel
theorem dX3_mend_56 : decode cX3_mend 56 = .ok (.getfield 42, 3) := by decide +kernel
theorem dX3_mend_59 : decode cX3_mend 59 = .ok (.iconst 0, 1) := by decide +kernel
theorem dX3_mend_60 : decode cX3_mend 60 = .ok (.aload_n 1, 1) := by decide +kernel
theorem dX3_mend_61 : decode cX3_mend 61 = .ok (.aload_n 0, 1) := by decide +kernel
theorem dX3_mend_62 : decode cX3_mend 62 = .ok (.getfield 21, 3) := by decide +kernel
theorem dX3_mend_65 : decode cX3_mend 65 = .ok (.aload_n 0, 1) := by decide +kernel
theorem dX3_mend_66 : decode cX3_mend 66 = .ok (.getfield 25, 3) := by decide +kernel
theorem dX3_mend_69 : decode cX3_mend 69 = .ok (.invokevirtual 133, 3) := by decide +kernel
theorem dX3_mend_72 : decode cX3_mend 72 = .ok (.iastore, 1) := by decide +kernel
theorem dX3_mend_73 : decode cX3_mend 73 = .ok (.iconst 0, 1) := by decide +kernel
theorem dX3_mend_74 : decode cX3_mend 74 = .ok (.istore 4, 2) := by decide +kernel
theorem dX3_mend_76 : decode cX3_mend 76 = .ok (.iconst 0, 1) := by decide +kernel
theorem dX3_mend_77 : decode cX3_mend 77 = .ok (.istore 5, 2) := by decide +kernel
theorem dX3_mend_79 : decode cX3_mend 79 = .ok (.iconst 0, 1) := by decide +kernel
theorem dX3_mend_80 : decode cX3_mend 80 = .ok (.istore 6, 2) := by decide +kernel
theorem dX3_mend_82 : decode cX3_mend 82 = .ok (.iload 6, 2) := by decide +kernel
theorem dX3_mend_84 : decode cX3_mend 84 = .ok (.iload_n 3, 1) := by decide +kernel
theorem dX3_mend_85 : decode cX3_mend 85 = .ok (.if_icmp .ge 97, 3) := by decide +kernel
theorem dX3_mend_88 : decode cX3_mend 88 = .ok (.iload 4, 2) := by decide +kernel
theorem dX3_mend_90 : decode cX3_mend 90 = .ok (.istore 7, 2) := by decide +kernel
theorem dX3_mend_92 : decode cX3_mend 92 = .ok (.iload 7, 2) := by decide +kernel
theorem dX3_mend_94 : decode cX3_mend 94 = .ok (.iload_n 2, 1) := by decide +kernel
theorem dX3_mend_95 : decode cX3_mend 95 = .ok (.if_icmp .ge 44, 3) := by decide +kernel
theorem dX3_mend_98 : decode cX3_mend 98 = .ok (.aload_n 0, 1) := by decide +kernel
theorem dX3_mend_99 : decode cX3_mend 99 = .ok (.getfield 42, 3) := by decide +kernel
theorem dX3_mend_102 : decode cX3_mend 102 = .ok (.iload 7, 2) := by decide +kernel
theorem dX3_mend_104 : decode cX3_mend 104 = .ok (.iconst 1, 1) := by decide +kernel
theorem dX3_mend_105 : decode cX3_mend 105 = .ok (.iadd, 1) := by decide +kernel
theorem dX3_mend_106 : decode cX3_mend 106 = .ok (.aload_n 1, 1) := by decide +kernel
theorem dX3_mend_107 : decode cX3_mend 107 = .ok (.aload_n 0, 1) := by decide +kernel
theorem dX3_mend_108 : decode cX3_mend 108 = .ok (.getfield 42, 3) := by decide +kernel
theorem dX3_mend_111 : decode cX3_mend 111 = .ok (.iload 7, 2) := by decide +kernel
theorem dX3_mend_113 : decode cX3_mend 113 = .ok (.iaload, 1) := by decide +kernel
theorem dX3_mend_114 : decode cX3_mend 114 = .ok (.aload_n 0, 1) := by decide +kernel
theorem dX3_mend_115 : decode cX3_mend 115 = .ok (.getfield 33, 3) := by decide +kernel
theorem dX3_mend_118 : decode cX3_mend 118 = .ok (.iload 7, 2) := by decide +kernel
theorem dX3_mend_120 : decode cX3_mend 120 = .ok (.aaload, 1) := by decide +kernel
theorem dX3_mend_121 : decode cX3_mend 121 = .ok (.aload_n 0, 1) := by decide +kernel
theorem dX3_mend_122 : decode cX3_mend 122 = .ok (.getfield 39, 3) := by decide +kernel
theorem dX3_mend_125 : decode cX3_mend 125 = .ok (.iload 7, 2) := by decide +kernel
theorem dX3_mend_127 : decode cX3_mend 127 = .ok (.iaload, 1) := by decide +kernel
theorem dX3_mend_128 : decode cX3_mend 128 = .ok (.iaload, 1) := by decide +kernel
theorem dX3_mend_129 : decode cX3_mend 129 = .ok (.invokevirtual 136, 3) := by decide +kernel
theorem dX3_mend_132 : decode cX3_mend 132 = .ok (.iastore, 1) := by decide +kernel
theorem dX3_mend_133 : decode cX3_mend 133 = .ok (.iinc 7 1, 3) := by decide +kernel
theorem dX3_mend_136 : decode cX3_mend 136 = .ok (.goto (-44), 3) := by decide +kernel
theorem dX3_mend_139 : decode cX3_mend 139 = .ok (.aload_n 0, 1) := by decide +kernel
theorem dX3_mend_140 : decode cX3_mend 140 = .ok (.iload_n 2, 1) := by decide +kernel
theorem dX3_mend_141 : decode cX3_mend 141 = .ok (.aload_n 0, 1) := by decide +kernel
theorem dX3_mend_142 : decode cX3_mend 142 = .ok (.getfield 42, 3) := by decide +kernel
theorem dX3_mend_145 : decode cX3_mend 145 = .ok (.iload_n 2, 1) := by decide +kernel
theorem dX3_mend_146 : decode cX3_mend 146 = .ok (.iaload, 1) := by decide +kernel
theorem dX3_mend_147 : decode cX3_mend 147 = .ok (.invokevirtual 139, 3) := by decide +kernel
theorem dX3_mend_150 : decode cX3_mend 150 = .ok (.ifCond .eq 19, 3) := by decide +kernel
theorem dX3_mend_153 : decode cX3_mend 153 = .ok (.iinc 5 1, 3) := by decide +kernel
theorem dX3_mend_156 : decode cX3_mend 156 = .ok (.iload 5, 2) := by decide +kernel
theorem dX3_mend_158 : decode cX3_mend 158 = .ok (.iconst 1, 1) := by decide +kernel
theorem dX3_mend_159 : decode cX3_mend 159 = .ok (.if_icmp .le 5, 3) := by decide +kernel
theorem dX3_mend_162 : decode cX3_mend 162 = .ok (.iconst 0, 1) := by decide +kernel
theorem dX3_mend_163 : decode cX3_mend 163 = .ok (.ireturn, 1) := by decide +kernel
theorem dX3_mend_164 : decode cX3_mend 164 = .ok (.aload_n 0, 1) := by decide +kernel
theorem dX3_mend_165 : decode cX3_mend 165 = .ok (.iload_n 2, 1) := by decide +kernel
theorem dX3_mend_166 : decode cX3_mend 166 = .ok (.invokevirtual 143, 3) := by decide +kernel
theorem dX3_mend_169 : decode cX3_mend 169 = .ok (.aload_n 0, 1) := by decide +kernel
theorem dX3_mend_170 : decode cX3_mend 170 = .ok (.iload_n 2, 1) := by decide +kernel
theorem dX3_mend_171 : decode cX3_mend 171 = .ok (.invokevirtual 147, 3) := by decide +kernel
theorem dX3_mend_174 : decode cX3_mend 174 = .ok (.istore 4, 2) := by decide +kernel
theorem dX3_mend_176 : decode cX3_mend 176 = .ok (.iinc 6 1, 3) := by decide +kernel
theorem dX3_mend_179 : decode cX3_mend 179 = .ok (.goto (-97), 3) := by decide +kernel
theorem dX3_mend_182 : decode cX3_mend 182 = .ok (.iload 5, 2) := by decide +kernel
theorem dX3_mend_184 : decode cX3_mend 184 = .ok (.iconst 1, 1) := by decide +kernel
theorem dX3_mend_185 : decode cX3_mend 185 = .ok (.if_icmp .ne 7, 3) := by decide +kernel
theorem dX3_mend_188 : decode cX3_mend 188 = .ok (.iconst 1, 1) := by decide +kernel
theorem dX3_mend_189 : decode cX3_mend 189 = .ok (.goto 4, 3) := by decide +kernel
theorem dX3_mend_192 : decode cX3_mend 192 = .ok (.iconst 0, 1) := by decide +kernel
theorem dX3_mend_193 : decode cX3_mend 193 = .ok (.ireturn, 1) := by decide +kernel
theorem dX3_gatherKinds_0 : decode cX3_gatherKinds 0 = .ok (.iconst 1, 1) := by decide +kernel
theorem dX3_gatherKinds_1 : decode cX3_gatherKinds 1 = .ok (.istore_n 2, 1) := by decide +kernel
theorem dX3_gatherKinds_2 : decode cX3_gatherKinds 2 = .ok (.iconst 0, 1) := by decide +kernel
theorem dX3_gatherKinds_3 : decode cX3_gatherKinds 3 = .ok (.istore_n 3, 1) := by decide +kernel
theorem dX3_gatherKinds_4 : decode cX3_gatherKinds 4 = .ok (.iload_n 3, 1) := by decide +kernel
theorem dX3_gatherKinds_5 : decode cX3_gatherKinds 5 = .ok (.iload_n 1, 1) := by decide +kernel
theorem dX3_gatherKinds_6 : decode cX3_gatherKinds 6 = .ok (.iconst 2, 1) := by decide +kernel
theorem dX3_gatherKinds_7 : decode cX3_gatherKinds 7 = .ok (.iadd, 1) := by decide +kernel
theorem dX3_gatherKinds_8 : decode cX3_gatherKinds 8 = .ok (.if_icmp .ge 101, 3) := by decide +kernel
theorem dX3_gatherKinds_11 : decode cX3_gatherKinds 11 = .ok (.aload_n 0, 1) := by decide +kernel
theorem dX3_gatherKinds_12 : decode cX3_gatherKinds 12 = .ok (.getfield 36, 3) := by decide +kernel
theorem dX3_gatherKinds_15 : decode cX3_gatherKinds 15 = .ok (.iload_n 3, 1) := by decide +kernel
theorem dX3_gatherKinds_16 : decode cX3_gatherKinds 16 = .ok (.iconst 0, 1) := by decide +kernel
theorem dX3_gatherKinds_17 : decode cX3_gatherKinds 17 = .ok (.iastore, 1) := by decide +kernel
theorem dX3_gatherKinds_18 : decode cX3_gatherKinds 18 = .ok (.iconst 0, 1) := by decide +kernel
theorem dX3_gatherKinds_19 : decode cX3_gatherKinds 19 = .ok (.istore 4, 2) := by decide +kernel
theorem dX3_gatherKinds_21 : decode cX3_gatherKinds 21 = .ok (.iload 4, 2) := by decide +kernel
theorem dX3_gatherKinds_23 : decode cX3_gatherKinds 23 = .ok (.aload_n 0, 1) := by decide +kernel
theorem dX3_gatherKinds_24 : decode cX3_gatherKinds 24 = .ok (.getfield 69, 3) := by decide +kernel
theorem dX3_gatherKinds_27 : decode cX3_gatherKinds 27 = .ok (.if_icmp .ge 58, 3) := by decide +kernel
theorem dX3_gatherKinds_30 : decode cX3_gatherKinds 30 = .ok (.aload_n 0, 1) := by decide +kernel
theorem dX3_gatherKinds_31 : decode cX3_gatherKinds 31 = .ok (.getfield 17, 3) := by decide +kernel
theorem dX3_gatherKinds_34 : decode cX3_gatherKinds 34 = .ok (.iload 4, 2) := by decide +kernel
theorem dX3_gatherKinds_36 : decode cX3_gatherKinds 36 = .ok (.aaload, 1) := by decide +kernel
theorem dX3_gatherKinds_37 : decode cX3_gatherKinds 37 = .ok (.iload_n 3, 1) := by decide +kernel
theorem dX3_gatherKinds_38 : decode cX3_gatherKinds 38 = .ok (.iload_n 1, 1) := by decide +kernel
theorem dX3_gatherKinds_39 : decode cX3_gatherKinds 39 = .ok (.invokevirtual 151, 3) := by decide +kernel
theorem dX3_gatherKinds_42 : decode cX3_gatherKinds 42 = .ok (.istore 5, 2) := by decide +kernel
theorem dX3_gatherKinds_44 : decode cX3_gatherKinds 44 = .ok (.aload_n 0, 1) := by decide +kernel
theorem dX3_gatherKinds_45 : decode cX3_gatherKinds 45 = .ok (.iload_n 3, 1) := by decide +kernel
theorem dX3_gatherKinds_46 : decode cX3_gatherKinds 46 = .ok (.iload 5, 2) := by decide +kernel
theorem dX3_gatherKinds_48 : decode cX3_gatherKinds 48 = .ok (.invokevirtual 154, 3) := by decide +kernel
theorem dX3_gatherKinds_51 : decode cX3_gatherKinds 51 = .ok (.ifCond .ne 28, 3) := by decide +kernel
theorem dX3_gatherKinds_54 : decode cX3_gatherKinds 54 = .ok (.aload_n 0, 1) := by decide +kernel
theorem dX3_gatherKinds_55 : decode cX3_gatherKinds 55 = .ok (.getfield 33, 3) := by decide +kernel
theorem dX3_gatherKinds_58 : decode cX3_gatherKinds 58 = .ok (.iload_n 3, 1) := by decide +kernel
theorem dX3_gatherKinds_59 : decode cX3_gatherKinds 59 = .ok (.aaload, 1) := by decide +kernel
theorem dX3_gatherKinds_60 : decode cX3_gatherKinds 60 = .ok (.aload_n 0, 1) := by decide +kernel
theorem dX3_gatherKinds_61 : decode cX3_gatherKinds 61 = .ok (.getfield 36, 3) := by decide +kernel
theorem dX3_gatherKinds_64 : decode cX3_gatherKinds 64 = .ok (.iload_n 3, 1) := by decide +kernel
theorem dX3_gatherKinds_65 : decode cX3_gatherKinds 65 = .ok (.iaload, 1) := by decide +kernel
theorem dX3_gatherKinds_66 : decode cX3_gatherKinds 66 = .ok (.iload 5, 2) := by decide +kernel
theorem dX3_gatherKinds_68 : decode cX3_gatherKinds 68 = .ok (.iastore, 1) := by decide +kernel
theorem dX3_gatherKinds_69 : decode cX3_gatherKinds 69 = .ok (.aload_n 0, 1) := by decide +kernel
theorem dX3_gatherKinds_70 : decode cX3_gatherKinds 70 = .ok (.getfield 36, 3) := by decide +kernel
theorem dX3_gatherKinds_73 : decode cX3_gatherKinds 73 = .ok (.iload_n 3, 1) := by decide +kernel
theorem dX3_gatherKinds_74 : decode cX3_gatherKinds 74 = .ok (.dup2, 1) := by decide +kernel
theorem dX3_gatherKinds_75 : decode cX3_gatherKinds 75 = .ok (.iaload, 1) := by decide +kernel
theorem dX3_gatherKinds_76 : decode cX3_gatherKinds 76 = .ok (.iconst 1, 1) := by decide +kernel
theorem dX3_gatherKinds_77 : decode cX3_gatherKinds 77 = .ok (.iadd, 1) := by decide +kernel
theorem dX3_gatherKinds_78 : decode cX3_gatherKinds 78 = .ok (.iastore, 1) := by decide +kernel
theorem dX3_gatherKinds_79 : decode cX3_gatherKinds 79 = .ok (.iinc 4 1, 3) := by decide +kernel
theorem dX3_gatherKinds_82 : decode cX3_gatherKinds 82 = .ok (.goto (-61), 3) := by decide +kernel
theorem dX3_gatherKinds_85 : decode cX3_gatherKinds 85 = .ok (.iload_n 2, 1) := by decide +kernel
theorem dX3_gatherKinds_86 : decode cX3_gatherKinds 86 = .ok (.aload_n 0, 1) := by decide +kernel
theorem dX3_gatherKinds_87 : decode cX3_gatherKinds 87 = .ok (.getfield 36, 3) := by decide +kernel
theorem dX3_gatherKinds_90 : decode cX3_gatherKinds 90 = .ok (.iload_n 3, 1) := by decide +kernel
theorem dX3_gatherKinds_91 : decode cX3_gatherKinds 91 = .ok (.iaload, 1) := by decide +kernel
theorem dX3_gatherKinds_92 : decode cX3_gatherKinds 92 = .ok (.imul, 1) := by decide +kernel
theorem dX3_gatherKinds_93 : decode cX3_gatherKinds 93 = .ok (.istore_n 2, 1) := by decide +kernel
theorem dX3_gatherKinds_94 : decode cX3_gatherKinds 94 = .ok (.iload_n 2, 1) := by decide +kernel
theorem dX3_gatherKinds_95 : decode cX3_gatherKinds 95 = .ok (.sipush 4096, 3) := by decide +kernel
theorem dX3_gatherKinds_98 : decode cX3_gatherKinds 98 = .ok (.if_icmp .le 5, 3) := by decide +kernel
theorem dX3_gatherKinds_101 : decode cX3_gatherKinds 101 = .ok (.iconst 0, 1) := by decide +kernel
theorem dX3_gatherKinds_102 : decode cX3_gatherKinds 102 = .ok (.ireturn, 1) := by decide +kernel
theorem dX3_gatherKinds_103 : decode cX3_gatherKinds 103 = .ok (.iinc 3 1, 3) := by decide +kernel
theorem dX3_gatherKinds_106 : decode cX3_gatherKinds 106 = .ok (.goto (-102), 3) := by decide +kernel
theorem dX3_gatherKinds_109 : decode cX3_gatherKinds 109 = .ok (.iconst 1, 1) := by decide +kernel
theorem dX3_gatherKinds_110 : decode cX3_gatherKinds 110 = .ok (.ireturn, 1) := by decide +kernel
theorem dX3_hasKind_0 : decode cX3_hasKind 0 = .ok (.iconst 0, 1) := by decide +kernel
theorem dX3_hasKind_1 : decode cX3_hasKind 1 = .ok (.istore_n 3, 1) := by decide +kernel
theorem dX3_hasKind_2 : decode cX3_hasKind 2 = .ok (.iload_n 3, 1) := by decide +kernel
theorem dX3_hasKind_3 : decode cX3_hasKind 3 = .ok (.aload_n 0, 1) := by decide +kernel
theorem dX3_hasKind_4 : decode cX3_hasKind 4 = .ok (.getfield 36, 3) := by decide +kernel
theorem dX3_hasKind_7 : decode cX3_hasKind 7 = .ok (.iload_n 1, 1) := by decide +kernel
theorem dX3_hasKind_8 : decode cX3_hasKind 8 = .ok (.iaload, 1) := by decide +kernel
theorem dX3_hasKind_9 : decode cX3_hasKind 9 = .ok (.if_icmp .ge 23, 3) := by decide +kernel
theorem dX3_hasKind_12 : decode cX3_hasKind 12 = .ok (.aload_n 0, 1) := by decide +kernel
theorem dX3_hasKind_13 : decode cX3_hasKind 13 = .ok (.getfield 33, 3) := by decide +kernel
theorem dX3_hasKind_16 : decode cX3_hasKind 16 = .ok (.iload_n 1, 1) := by decide +kernel
theorem dX3_hasKind_17 : decode cX3_hasKind 17 = .ok (.aaload, 1) := by decide +kernel
theorem dX3_hasKind_18 : decode cX3_hasKind 18 = .ok (.iload_n 3, 1) := by decide +kernel
theorem dX3_hasKind_19 : decode cX3_hasKind 19 = .ok (.iaload, 1) := by decide +kernel
theorem dX3_hasKind_20 : decode cX3_hasKind 20 = .ok (.iload_n 2, 1) := by decide +kernel
theorem dX3_hasKind_21 : decode cX3_hasKind 21 = .ok (.if_icmp .ne 5, 3) := by decide +kernel
theorem dX3_hasKind_24 : decode cX3_hasKind 24 = .ok (.iconst 1, 1) := by decide +kernel
theorem dX3_hasKind_25 : decode cX3_hasKind 25 = .ok (.ireturn, 1) := by decide +kernel
theorem dX3_hasKind_26 : decode cX3_hasKind 26 = .ok (.iinc 3 1, 3) := by decide +kernel
theorem dX3_hasKind_29 : decode cX3_hasKind 29 = .ok (.goto (-27), 3) := by decide +kernel
theorem dX3_hasKind_32 : decode cX3_hasKind 32 = .ok (.iconst 0, 1) := by decide +kernel
theorem dX3_hasKind_33 : decode cX3_hasKind 33 = .ok (.ireturn, 1) := by decide +kernel
theorem dX3_hasSum_0 : decode cX3_hasSum 0 = .ok (.aload_n 0, 1) := by decide +kernel
theorem dX3_hasSum_1 : decode cX3_hasSum 1 = .ok (.iload_n 1, 1) := by decide +kernel
theorem dX3_hasSum_2 : decode cX3_hasSum 2 = .ok (.iload_n 2, 1) := by decide +kernel
theorem dX3_hasSum_3 : decode cX3_hasSum 3 = .ok (.bipush 8, 2) := by decide +kernel
theorem dX3_hasSum_5 : decode cX3_hasSum 5 = .ok (.ishr, 1) := by decide +kernel
theorem dX3_hasSum_6 : decode cX3_hasSum 6 = .ok (.invokevirtual 154, 3) := by decide +kernel
theorem dX3_hasSum_9 : decode cX3_hasSum 9 = .ok (.ifCond .eq 22, 3) := by decide +kernel
theorem dX3_hasSum_12 : decode cX3_hasSum 12 = .ok (.aload_n 0, 1) := by decide +kernel
theorem dX3_hasSum_13 : decode cX3_hasSum 13 = .ok (.iload_n 1, 1) := by decide +kernel
theorem dX3_hasSum_14 : decode cX3_hasSum 14 = .ok (.iconst 1, 1) := by decide +kernel
theorem dX3_hasSum_15 : decode cX3_hasSum 15 = .ok (.iadd, 1) := by decide +kernel
theorem dX3_hasSum_16 : decode cX3_hasSum 16 = .ok (.iload_n 2, 1) := by decide +kernel
theorem dX3_hasSum_17 : decode cX3_hasSum 17 = .ok (.sipush 255, 3) := by decide +kernel
theorem dX3_hasSum_20 : decode cX3_hasSum 20 = .ok (.iand, 1) := by decide +kernel
theorem dX3_hasSum_21 : decode cX3_hasSum 21 = .ok (.invokevirtual 154, 3) := by decide +kernel
theorem dX3_hasSum_24 : decode cX3_hasSum 24 = .ok (.ifCond .eq 7, 3) := by decide +kernel
theorem dX3_hasSum_27 : decode cX3_hasSum 27 = .ok (.iconst 1, 1) := by decide +kernel
theorem dX3_hasSum_28 : decode cX3_hasSum 28 = .ok (.goto 4, 3) := by decide +kernel
theorem dX3_hasSum_31 : decode cX3_hasSum 31 = .ok (.iconst 0, 1) := by decide +kernel
theorem dX3_hasSum_32 : decode cX3_hasSum 32 = .ok (.ireturn, 1) := by decide +kernel
theorem dX3_keepRow_0 : decode cX3_keepRow 0 = .ok (.iconst 0, 1) := by decide +kernel
theorem dX3_keepRow_1 : decode cX3_keepRow 1 = .ok (.istore_n 2, 1) := by decide +kernel
theorem dX3_keepRow_2 : decode cX3_keepRow 2 = .ok (.iload_n 2, 1) := by decide +kernel
theorem dX3_keepRow_3 : decode cX3_keepRow 3 = .ok (.iload_n 1, 1) := by decide +kernel
theorem dX3_keepRow_4 : decode cX3_keepRow 4 = .ok (.if_icmp .ge 28, 3) := by decide +kernel
theorem dX3_keepRow_7 : decode cX3_keepRow 7 = .ok (.aload_n 0, 1) := by decide +kernel
theorem dX3_keepRow_8 : decode cX3_keepRow 8 = .ok (.getfield 9, 3) := by decide +kernel
theorem dX3_keepRow_11 : decode cX3_keepRow 11 = .ok (.iload_n 2, 1) := by decide +kernel
theorem dX3_keepRow_12 : decode cX3_keepRow 12 = .ok (.aload_n 0, 1) := by decide +kernel
theorem dX3_keepRow_13 : decode cX3_keepRow 13 = .ok (.getfield 33, 3) := by decide +kernel
theorem dX3_keepRow_16 : decode cX3_keepRow 16 = .ok (.iload_n 2, 1) := by decide +kernel
theorem dX3_keepRow_17 : decode cX3_keepRow 17 = .ok (.aaload, 1) := by decide +kernel
theorem dX3_keepRow_18 : decode cX3_keepRow 18 = .ok (.aload_n 0, 1) := by decide +kernel
theorem dX3_keepRow_19 : decode cX3_keepRow 19 = .ok (.getfield 39, 3) := by decide +kernel
theorem dX3_keepRow_22 : decode cX3_keepRow 22 = .ok (.iload_n 2, 1) := by decide +kernel
theorem dX3_keepRow_23 : decode cX3_keepRow 23 = .ok (.iaload, 1) := by decide +kernel
theorem dX3_keepRow_24 : decode cX3_keepRow 24 = .ok (.iaload, 1) := by decide +kernel
theorem dX3_keepRow_25 : decode cX3_keepRow 25 = .ok (.iastore, 1) := by decide +kernel
theorem dX3_keepRow_26 : decode cX3_keepRow 26 = .ok (.iinc 2 1, 3) := by decide +kernel
theorem dX3_keepRow_29 : decode cX3_keepRow 29 = .ok (.goto (-27), 3) := by decide +kernel
theorem dX3_keepRow_32 : decode cX3_keepRow 32 = .ok (.return_, 1) := by decide +kernel
theorem dX3_chooseAnother_0 : decode cX3_chooseAnother 0 = .ok (.iload_n 1, 1) := by decide +kernel
theorem dX3_chooseAnother_1 : decode cX3_chooseAnother 1 = .ok (.iconst 1, 1) := by decide +kernel
theorem dX3_chooseAnother_2 : decode cX3_chooseAnother 2 = .ok (.isub, 1) := by decide +kernel
theorem dX3_chooseAnother_3 : decode cX3_chooseAnother 3 = .ok (.istore_n 2, 1) := by decide +kernel
theorem dX3_chooseAnother_4 : decode cX3_chooseAnother 4 = .ok (.iload_n 2, 1) := by decide +kernel
theorem dX3_chooseAnother_5 : decode cX3_chooseAnother 5 = .ok (.ifCond .lt 43, 3) := by decide +kernel
theorem dX3_chooseAnother_8 : decode cX3_chooseAnother 8 = .ok (.aload_n 0, 1) := by decide +kernel
theorem dX3_chooseAnother_9 : decode cX3_chooseAnother 9 = .ok (.getfield 39, 3) := by decide +kernel
theorem dX3_chooseAnother_12 : decode cX3_chooseAnother 12 = .ok (.iload_n 2, 1) := by decide +kernel
theorem dX3_chooseAnother_13 : decode cX3_chooseAnother 13 = .ok (.dup2, 1) := by decide +kernel
theorem dX3_chooseAnother_14 : decode cX3_chooseAnother 14 = .ok (.iaload, 1) := by decide +kernel
theorem dX3_chooseAnother_15 : decode cX3_chooseAnother 15 = .ok (.iconst 1, 1) := by decide +kernel
theorem dX3_chooseAnother_16 : decode cX3_chooseAnother 16 = .ok (.iadd, 1) := by decide +kernel
theorem dX3_chooseAnother_17 : decode cX3_chooseAnother 17 = .ok (.iastore, 1) := by decide +kernel
theorem dX3_chooseAnother_18 : decode cX3_chooseAnother 18 = .ok (.aload_n 0, 1) := by decide +kernel
theorem dX3_chooseAnother_19 : decode cX3_chooseAnother 19 = .ok (.getfield 39, 3) := by decide +kernel
theorem dX3_chooseAnother_22 : decode cX3_chooseAnother 22 = .ok (.iload_n 2, 1) := by decide +kernel
theorem dX3_chooseAnother_23 : decode cX3_chooseAnother 23 = .ok (.iaload, 1) := by decide +kernel
theorem dX3_chooseAnother_24 : decode cX3_chooseAnother 24 = .ok (.aload_n 0, 1) := by decide +kernel
theorem dX3_chooseAnother_25 : decode cX3_chooseAnother 25 = .ok (.getfield 36, 3) := by decide +kernel
theorem dX3_chooseAnother_28 : decode cX3_chooseAnother 28 = .ok (.iload_n 2, 1) := by decide +kernel
theorem dX3_chooseAnother_29 : decode cX3_chooseAnother 29 = .ok (.iaload, 1) := by decide +kernel
theorem dX3_chooseAnother_30 : decode cX3_chooseAnother 30 = .ok (.if_icmp .ge 5, 3) := by decide +kernel
theorem dX3_chooseAnother_33 : decode cX3_chooseAnother 33 = .ok (.iload_n 2, 1) := by decide +kernel
theorem dX3_chooseAnother_34 : decode cX3_chooseAnother 34 = .ok (.ireturn, 1) := by decide +kernel
theorem dX3_chooseAnother_35 : decode cX3_chooseAnother 35 = .ok (.aload_n 0, 1) := by decide +kernel
theorem dX3_chooseAnother_36 : decode cX3_chooseAnother 36 = .ok (.getfield 39, 3) := by decide +kernel
theorem dX3_chooseAnother_39 : decode cX3_chooseAnother 39 = .ok (.iload_n 2, 1) := by decide +kernel
theorem dX3_chooseAnother_40 : decode cX3_chooseAnother 40 = .ok (.iconst 0, 1) := by decide +kernel
theorem dX3_chooseAnother_41 : decode cX3_chooseAnother 41 = .ok (.iastore, 1) := by decide +kernel
theorem dX3_chooseAnother_42 : decode cX3_chooseAnother 42 = .ok (.iinc 2 (-1), 3) := by decide +kernel
theorem dX3_chooseAnother_45 : decode cX3_chooseAnother 45 = .ok (.goto (-41), 3) := by decide +kernel
theorem dX3_chooseAnother_48 : decode cX3_chooseAnother 48 = .ok (.iconst 0, 1) := by decide +kernel
theorem dX3_chooseAnother_49 : decode cX3_chooseAnother 49 = .ok (.ireturn, 1) := by decide +kernel
theorem dX4_init_0 : decode cX4_init 0 = .ok (.aload_n 0, 1) := by decide +kernel
theorem dX4_init_1 : decode cX4_init 1 = .ok (.invokespecial 3, 3) := by decide +kernel
theorem dX4_init_4 : decode cX4_init 4 = .ok (.return_, 1) := by decide +kernel
theorem dX4_clear_0 : decode cX4_clear 0 = .ok (.aload_n 0, 1) := by decide +kernel
theorem dX4_clear_1 : decode cX4_clear 1 = .ok (.iconst 0, 1) := by decide +kernel
theorem dX4_clear_2 : decode cX4_clear 2 = .ok (.putfield 9, 3) := by decide +kernel
theorem dX4_clear_5 : decode cX4_clear 5 = .ok (.aload_n 0, 1) := by decide +kernel
theorem dX4_clear_6 : decode cX4_clear 6 = .ok (.iconst 0, 1) := by decide +kernel
theorem dX4_clear_7 : decode cX4_clear 7 = .ok (.putfield 15, 3) := by decide +kernel
theorem dX4_clear_10 : decode cX4_clear 10 = .ok (.aload_n 0, 1) := by decide +kernel
theorem dX4_clear_11 : decode cX4_clear 11 = .ok (.iconst 0, 1) := by decide +kernel
theorem dX4_clear_12 : decode cX4_clear 12 = .ok (.putfield 19, 3) := by decide +kernel
theorem dX4_clear_15 : decode cX4_clear 15 = .ok (.aload_n 0, 1) := by decide +kernel
theorem dX4_clear_16 : decode cX4_clear 16 = .ok (.iconst 0, 1) := by decide +kernel
theorem dX4_clear_17 : decode cX4_clear 17 = .ok (.putfield 22, 3) := by decide +kernel
theorem dX4_clear_20 : decode cX4_clear 20 = .ok (.aload_n 0, 1) := by decide +kernel
theorem dX4_clear_21 : decode cX4_clear 21 = .ok (.iconst 0, 1) := by decide +kernel
theorem dX4_clear_22 : decode cX4_clear 22 = .ok (.putfield 25, 3) := by decide +kernel
theorem dX4_clear_25 : decode cX4_clear 25 = .ok (.aload_n 0, 1) := by decide +kernel
theorem dX4_clear_26 : decode cX4_clear 26 = .ok (.iconst 0, 1) := by decide +kernel
theorem dX4_clear_27 : decode cX4_clear 27 = .ok (.putfield 28, 3) := by decide +kernel
theorem dX4_clear_30 : decode cX4_clear 30 = .ok (.aload_n 0, 1) := by decide +kernel
theorem dX4_clear_31 : decode cX4_clear 31 = .ok (.iconst 0, 1) := by decide +kernel
theorem dX4_clear_32 : decode cX4_clear 32 = .ok (.putfield 31, 3) := by decide +kernel
theorem dX4_clear_35 : decode cX4_clear 35 = .ok (.aload_n 0, 1) := by decide +kernel
theorem dX4_clear_36 : decode cX4_clear 36 = .ok (.iconst 0, 1) := by decide +kernel
theorem dX4_clear_37 : decode cX4_clear 37 = .ok (.putfield 34, 3) := by decide +kernel
theorem dX4_clear_40 : decode cX4_clear 40 = .ok (.aload_n 0, 1) := by decide +kernel
theorem dX4_clear_41 : decode cX4_clear 41 = .ok (.iconst 0, 1) := by decide +kernel
theorem dX4_clear_42 : decode cX4_clear 42 = .ok (.putfield 37, 3) := by decide +kernel
theorem dX4_clear_45 : decode cX4_clear 45 = .ok (.return_, 1) := by decide +kernel
theorem dX4_take_0 : decode cX4_take 0 = .ok (.aload_n 0, 1) := by decide +kernel
theorem dX4_take_1 : decode cX4_take 1 = .ok (.iconst 1, 1) := by decide +kernel
theorem dX4_take_2 : decode cX4_take 2 = .ok (.putfield 9, 3) := by decide +kernel
theorem dX4_take_5 : decode cX4_take 5 = .ok (.aload_n 0, 1) := by decide +kernel
theorem dX4_take_6 : decode cX4_take 6 = .ok (.aload_n 1, 1) := by decide +kernel
theorem dX4_take_7 : decode cX4_take 7 = .ok (.getfield 15, 3) := by decide +kernel
theorem dX4_take_10 : decode cX4_take 10 = .ok (.putfield 15, 3) := by decide +kernel
theorem dX4_take_13 : decode cX4_take 13 = .ok (.aload_n 0, 1) := by decide +kernel
theorem dX4_take_14 : decode cX4_take 14 = .ok (.aload_n 1, 1) := by decide +kernel
theorem dX4_take_15 : decode cX4_take 15 = .ok (.getfield 19, 3) := by decide +kernel
theorem dX4_take_18 : decode cX4_take 18 = .ok (.putfield 19, 3) := by decide +kernel
theorem dX4_take_21 : decode cX4_take 21 = .ok (.aload_n 0, 1) := by decide +kernel
theorem dX4_take_22 : decode cX4_take 22 = .ok (.aload_n 1, 1) := by decide +kernel
theorem dX4_take_23 : decode cX4_take 23 = .ok (.getfield 22, 3) := by decide +kernel
theorem dX4_take_26 : decode cX4_take 26 = .ok (.putfield 22, 3) := by decide +kernel
theorem dX4_take_29 : decode cX4_take 29 = .ok (.aload_n 0, 1) := by decide +kernel
theorem dX4_take_30 : decode cX4_take 30 = .ok (.aload_n 1, 1) := by decide +kernel
theorem dX4_take_31 : decode cX4_take 31 = .ok (.getfield 25, 3) := by decide +kernel
theorem dX4_take_34 : decode cX4_take 34 = .ok (.putfield 25, 3) := by decide +kernel
theorem dX4_take_37 : decode cX4_take 37 = .ok (.aload_n 0, 1) := by decide +kernel
theorem dX4_take_38 : decode cX4_take 38 = .ok (.aload_n 1, 1) := by decide +kernel
theorem dX4_take_39 : decode cX4_take 39 = .ok (.getfield 28, 3) := by decide +kernel
theorem dX4_take_42 : decode cX4_take 42 = .ok (.putfield 28, 3) := by decide +kernel
theorem dX4_take_45 : decode cX4_take 45 = .ok (.aload_n 0, 1) := by decide +kernel
theorem dX4_take_46 : decode cX4_take 46 = .ok (.aload_n 1, 1) := by decide +kernel
theorem dX4_take_47 : decode cX4_take 47 = .ok (.getfield 31, 3) := by decide +kernel
theorem dX4_take_50 : decode cX4_take 50 = .ok (.putfield 31, 3) := by decide +kernel
theorem dX4_take_53 : decode cX4_take 53 = .ok (.aload_n 0, 1) := by decide +kernel
theorem dX4_take_54 : decode cX4_take 54 = .ok (.aload_n 1, 1) := by decide +kernel
theorem dX4_take_55 : decode cX4_take 55 = .ok (.getfield 34, 3) := by decide +kernel
theorem dX4_take_58 : decode cX4_take 58 = .ok (.putfield 34, 3) := by decide +kernel
theorem dX4_take_61 : decode cX4_take 61 = .ok (.aload_n 0, 1) := by decide +kernel
theorem dX4_take_62 : decode cX4_take 62 = .ok (.aload_n 1, 1) := by decide +kernel
theorem dX4_take_63 : decode cX4_take 63 = .ok (.getfield 37, 3) := by decide +kernel
theorem dX4_take_66 : decode cX4_take 66 = .ok (.putfield 37, 3) := by decide +kernel
theorem dX4_take_69 : decode cX4_take 69 = .ok (.return_, 1) := by decide +kernel
theorem dX4_firstByte_0 : decode cX4_firstByte 0 = .ok (.aload_n 0, 1) := by decide +kernel
theorem dX4_firstByte_1 : decode cX4_firstByte 1 = .ok (.getfield 37, 3) := by decide +kernel
theorem dX4_firstByte_4 : decode cX4_firstByte 4 = .ok (.ifCond .eq 7, 3) := by decide +kernel
theorem dX4_firstByte_7 : decode cX4_firstByte 7 = .ok (.iload_n 2, 1) := by decide +kernel
theorem dX4_firstByte_8 : decode cX4_firstByte 8 = .ok (.goto 4, 3) := by decide +kernel
theorem dX4_firstByte_11 : decode cX4_firstByte 11 = .ok (.iload_n 1, 1) := by decide +kernel
theorem dX4_firstByte_12 : decode cX4_firstByte 12 = .ok (.ireturn, 1) := by decide +kernel
theorem dX4_secondByte_0 : decode cX4_secondByte 0 = .ok (.aload_n 0, 1) := by decide +kernel
theorem dX4_secondByte_1 : decode cX4_secondByte 1 = .ok (.getfield 37, 3) := by decide +kernel
theorem dX4_secondByte_4 : decode cX4_secondByte 4 = .ok (.ifCond .eq 7, 3) := by decide +kernel
theorem dX4_secondByte_7 : decode cX4_secondByte 7 = .ok (.iload_n 1, 1) := by decide +kernel
theorem dX4_secondByte_8 : decode cX4_secondByte 8 = .ok (.goto 4, 3) := by decide +kernel
theorem dX4_secondByte_11 : decode cX4_secondByte 11 = .ok (.iload_n 2, 1) := by decide +kernel
theorem dX4_secondByte_12 : decode cX4_secondByte 12 = .ok (.ireturn, 1) := by decide +kernel
theorem dX4_sumOfHead_0 : decode cX4_sumOfHead 0 = .ok (.aload_n 0, 1) := by decide +kernel
theorem dX4_sumOfHead_1 : decode cX4_sumOfHead 1 = .ok (.getfield 28, 3) := by decide +kernel
theorem dX4_sumOfHead_4 : decode cX4_sumOfHead 4 = .ok (.iconst 2, 1) := by decide +kernel
theorem dX4_sumOfHead_5 : decode cX4_sumOfHead 5 = .ok (.if_icmp .ne 10, 3) := by decide +kernel
theorem dX4_sumOfHead_8 : decode cX4_sumOfHead 8 = .ok (.aload_n 0, 1) := by decide +kernel
theorem dX4_sumOfHead_9 : decode cX4_sumOfHead 9 = .ok (.getfield 34, 3) := by decide +kernel
theorem dX4_sumOfHead_12 : decode cX4_sumOfHead 12 = .ok (.goto 4, 3) := by decide +kernel
theorem dX4_sumOfHead_15 : decode cX4_sumOfHead 15 = .ok (.iconst 0, 1) := by decide +kernel
theorem dX4_sumOfHead_16 : decode cX4_sumOfHead 16 = .ok (.istore_n 3, 1) := by decide +kernel
theorem dX4_sumOfHead_17 : decode cX4_sumOfHead 17 = .ok (.aload_n 0, 1) := by decide +kernel
theorem dX4_sumOfHead_18 : decode cX4_sumOfHead 18 = .ok (.aload_n 0, 1) := by decide +kernel
theorem dX4_sumOfHead_19 : decode cX4_sumOfHead 19 = .ok (.iload_n 3, 1) := by decide +kernel
theorem dX4_sumOfHead_20 : decode cX4_sumOfHead 20 = .ok (.aload_n 0, 1) := by decide +kernel
theorem dX4_sumOfHead_21 : decode cX4_sumOfHead 21 = .ok (.iload_n 1, 1) := by decide +kernel
theorem dX4_sumOfHead_22 : decode cX4_sumOfHead 22 = .ok (.iload_n 2, 1) := by decide +kernel
theorem dX4_sumOfHead_23 : decode cX4_sumOfHead 23 = .ok (.invokevirtual 40, 3) := by decide +kernel
theorem dX4_sumOfHead_26 : decode cX4_sumOfHead 26 = .ok (.invokevirtual 44, 3) := by decide +kernel
theorem dX4_sumOfHead_29 : decode cX4_sumOfHead 29 = .ok (.aload_n 0, 1) := by decide +kernel
theorem dX4_sumOfHead_30 : decode cX4_sumOfHead 30 = .ok (.iload_n 1, 1) := by decide +kernel
theorem dX4_sumOfHead_31 : decode cX4_sumOfHead 31 = .ok (.iload_n 2, 1) := by decide +kernel
theorem dX4_sumOfHead_32 : decode cX4_sumOfHead 32 = .ok (.invokevirtual 47, 3) := by decide +kernel
theorem dX4_sumOfHead_35 : decode cX4_sumOfHead 35 = .ok (.invokevirtual 44, 3) := by decide +kernel
theorem dX4_sumOfHead_38 : decode cX4_sumOfHead 38 = .ok (.ireturn, 1) := by decide +kernel
theorem dX4_sumOf_0 : decode cX4_sumOf 0 = .ok (.aload_n 0, 1) := by decide +kernel
theorem dX4_sumOf_1 : decode cX4_sumOf 1 = .ok (.iload_n 1, 1) := by decide +kernel
theorem dX4_sumOf_2 : decode cX4_sumOf 2 = .ok (.iload_n 2, 1) := by decide +kernel
theorem dX4_sumOf_3 : decode cX4_sumOf 3 = .ok (.invokevirtual 50, 3) := by decide +kernel
theorem dX4_sumOf_6 : decode cX4_sumOf 6 = .ok (.istore 4, 2) := by decide +kernel
theorem dX4_sumOf_8 : decode cX4_sumOf 8 = .ok (.iconst 0, 1) := by decide +kernel
theorem dX4_sumOf_9 : decode cX4_sumOf 9 = .ok (.istore 5, 2) := by decide +kernel
theorem dX4_sumOf_11 : decode cX4_sumOf 11 = .ok (.iload 5, 2) := by decide +kernel
theorem dX4_sumOf_13 : decode cX4_sumOf 13 = .ok (.aload_n 0, 1) := by decide +kernel
theorem dX4_sumOf_14 : decode cX4_sumOf 14 = .ok (.getfield 25, 3) := by decide +kernel
theorem dX4_sumOf_17 : decode cX4_sumOf 17 = .ok (.if_icmp .ge 28, 3) := by decide +kernel
theorem dX4_sumOf_20 : decode cX4_sumOf 20 = .ok (.iload 5, 2) := by decide +kernel
theorem dX4_sumOf_22 : decode cX4_sumOf 22 = .ok (.aload_n 3, 1) := by decide +kernel
theorem dX4_sumOf_23 : decode cX4_sumOf 23 = .ok (.arraylength, 1) := by decide +kernel
theorem dX4_sumOf_24 : decode cX4_sumOf 24 = .ok (.if_icmp .ge 21, 3) := by decide +kernel
theorem dX4_sumOf_27 : decode cX4_sumOf 27 = .ok (.aload_n 0, 1) := by decide +kernel
theorem dX4_sumOf_28 : decode cX4_sumOf 28 = .ok (.iload 4, 2) := by decide +kernel
theorem dX4_sumOf_30 : decode cX4_sumOf 30 = .ok (.aload_n 3, 1) := by decide +kernel
theorem dX4_sumOf_31 : decode cX4_sumOf 31 = .ok (.iload 5, 2) := by decide +kernel
theorem dX4_sumOf_33 : decode cX4_sumOf 33 = .ok (.iaload, 1) := by decide +kernel
theorem dX4_sumOf_34 : decode cX4_sumOf 34 = .ok (.invokevirtual 44, 3) := by decide +kernel
theorem dX4_sumOf_37 : decode cX4_sumOf 37 = .ok (.istore 4, 2) := by decide +kernel
theorem dX4_sumOf_39 : decode cX4_sumOf 39 = .ok (.iinc 5 1, 3) := by decide +kernel
theorem dX4_sumOf_42 : decode cX4_sumOf 42 = .ok (.goto (-31), 3) := by decide +kernel
theorem dX4_sumOf_45 : decode cX4_sumOf 45 = .ok (.iload 4, 2) := by decide +kernel
theorem dX4_sumOf_47 : decode cX4_sumOf 47 = .ok (.ireturn, 1) := by decide +kernel
theorem dX4_sumWith_0 : decode cX4_sumWith 0 = .ok (.aload_n 0, 1) := by decide +kernel
theorem dX4_sumWith_1 : decode cX4_sumWith 1 = .ok (.getfield 28, 3) := by decide +kernel
theorem dX4_sumWith_4 : decode cX4_sumWith 4 = .ok (.ifCond .ne 10, 3) := by decide +kernel
theorem dX4_sumWith_7 : decode cX4_sumWith 7 = .ok (.iload_n 1, 1) := by decide +kernel
theorem dX4_sumWith_8 : decode cX4_sumWith 8 = .ok (.iload_n 2, 1) := by decide +kernel
theorem dX4_sumWith_9 : decode cX4_sumWith 9 = .ok (.iadd, 1) := by decide +kernel
theorem dX4_sumWith_10 : decode cX4_sumWith 10 = .ok (.ldc 53, 2) := by decide +kernel
theorem dX4_sumWith_12 : decode cX4_sumWith 12 = .ok (.iand, 1) := by decide +kernel
theorem dX4_sumWith_13 : decode cX4_sumWith 13 = .ok (.ireturn, 1) := by decide +kernel
theorem dX4_sumWith_14 : decode cX4_sumWith 14 = .ok (.aload_n 0, 1) := by decide +kernel
theorem dX4_sumWith_15 : decode cX4_sumWith 15 = .ok (.getfield 28, 3) := by decide +kernel
theorem dX4_sumWith_18 : decode cX4_sumWith 18 = .ok (.iconst 1, 1) := by decide +kernel
theorem dX4_sumWith_19 : decode cX4_sumWith 19 = .ok (.if_icmp .ne 7, 3) := by decide +kernel
theorem dX4_sumWith_22 : decode cX4_sumWith 22 = .ok (.iload_n 1, 1) := by decide +kernel
theorem dX4_sumWith_23 : decode cX4_sumWith 23 = .ok (.iload_n 2, 1) := by decide +kernel
theorem dX4_sumWith_24 : decode cX4_sumWith 24 = .ok (.ixor, 1) := by decide +kernel
theorem dX4_sumWith_25 : decode cX4_sumWith 25 = .ok (.ireturn, 1) := by decide +kernel
theorem dX4_sumWith_26 : decode cX4_sumWith 26 = .ok (.iload_n 1, 1) := by decide +kernel
theorem dX4_sumWith_27 : decode cX4_sumWith 27 = .ok (.iload_n 2, 1) := by decide +kernel
theorem dX4_sumWith_28 : decode cX4_sumWith 28 = .ok (.bipush 8, 2) := by decide +kernel
theorem dX4_sumWith_30 : decode cX4_sumWith 30 = .ok (.ishl, 1) := by decide +kernel
theorem dX4_sumWith_31 : decode cX4_sumWith 31 = .ok (.ixor, 1) := by decide +kernel
theorem dX4_sumWith_32 : decode cX4_sumWith 32 = .ok (.istore_n 3, 1) := by decide +kernel
theorem dX4_sumWith_33 : decode cX4_sumWith 33 = .ok (.iconst 0, 1) := by decide +kernel
theorem dX4_sumWith_34 : decode cX4_sumWith 34 = .ok (.istore 4, 2) := by decide +kernel
theorem dX4_sumWith_36 : decode cX4_sumWith 36 = .ok (.iload 4, 2) := by decide +kernel
theorem dX4_sumWith_38 : decode cX4_sumWith 38 = .ok (.bipush 8, 2) := by decide +kernel
theorem dX4_sumWith_40 : decode cX4_sumWith 40 = .ok (.if_icmp .ge 31, 3) := by decide +kernel
theorem dX4_sumWith_43 : decode cX4_sumWith 43 = .ok (.iload_n 3, 1) := by decide +kernel
theorem dX4_sumWith_44 : decode cX4_sumWith 44 = .ok (.ldc 54, 2) := by decide +kernel
theorem dX4_sumWith_46 : decode cX4_sumWith 46 = .ok (.iand, 1) := by decide +kernel
theorem dX4_sumWith_47 : decode cX4_sumWith 47 = .ok (.ifCond .eq 14, 3) := by decide +kernel
theorem dX4_sumWith_50 : decode cX4_sumWith 50 = .ok (.iload_n 3, 1) := by decide +kernel
theorem dX4_sumWith_51 : decode cX4_sumWith 51 = .ok (.iconst 1, 1) := by decide +kernel
theorem dX4_sumWith_52 : decode cX4_sumWith 52 = .ok (.ishl, 1) := by decide +kernel
theorem dX4_sumWith_53 : decode cX4_sumWith 53 = .ok (.aload_n 0, 1) := by decide +kernel
theorem dX4_sumWith_54 : decode cX4_sumWith 54 = .ok (.getfield 31, 3) := by decide +kernel
theorem dX4_sumWith_57 : decode cX4_sumWith 57 = .ok (.ixor, 1) := by decide +kernel
theorem dX4_sumWith_58 : decode cX4_sumWith 58 = .ok (.goto 6, 3) := by decide +kernel
theorem dX4_sumWith_61 : decode cX4_sumWith 61 = .ok (.iload_n 3, 1) := by decide +kernel
theorem dX4_sumWith_62 : decode cX4_sumWith 62 = .ok (.iconst 1, 1) := by decide +kernel
theorem dX4_sumWith_63 : decode cX4_sumWith 63 = .ok (.ishl, 1) := by decide +kernel
theorem dX4_sumWith_64 : decode cX4_sumWith 64 = .ok (.istore_n 3, 1) := by decide +kernel
theorem dX4_sumWith_65 : decode cX4_sumWith 65 = .ok (.iinc 4 1, 3) := by decide +kernel
theorem dX4_sumWith_68 : decode cX4_sumWith 68 = .ok (.goto (-32), 3) := by decide +kernel
theorem dX4_sumWith_71 : decode cX4_sumWith 71 = .ok (.iload_n 3, 1) := by decide +kernel
theorem dX4_sumWith_72 : decode cX4_sumWith 72 = .ok (.ldc 53, 2) := by decide +kernel
theorem dX4_sumWith_74 : decode cX4_sumWith 74 = .ok (.iand, 1) := by decide +kernel
theorem dX4_sumWith_75 : decode cX4_sumWith 75 = .ok (.ireturn, 1) := by decide +kernel
theorem dX5_init_0 : decode cX5_init 0 = .ok (.aload_n 0, 1) := by decide +kernel
theorem dX5_init_1 : decode cX5_init 1 = .ok (.invokespecial 3, 3) := by decide +kernel
theorem dX5_init_4 : decode cX5_init 4 = .ok (.aload_n 0, 1) := by decide +kernel
theorem dX5_init_5 : decode cX5_init 5 = .ok (.sipush 2560, 3) := by decide +kernel
theorem dX5_init_8 : decode cX5_init 8 = .ok (.newarray .int, 2) := by decide +kernel
theorem dX5_init_10 : decode cX5_init 10 = .ok (.putfield 9, 3) := by decide +kernel
theorem dX5_init_13 : decode cX5_init 13 = .ok (.return_, 1) := by decide +kernel
theorem dX5_fill_0 : decode cX5_fill 0 = .ok (.aload_n 0, 1) := by decide +kernel
theorem dX5_fill_1 : decode cX5_fill 1 = .ok (.iconst 0, 1) := by decide +kernel
theorem dX5_fill_2 : decode cX5_fill 2 = .ok (.putfield 15, 3) := by decide +kernel
theorem dX5_fill_5 : decode cX5_fill 5 = .ok (.bipush 12, 2) := by decide +kernel
theorem dX5_fill_7 : decode cX5_fill 7 = .ok (.iload_n 2, 1) := by decide +kernel
theorem dX5_fill_8 : decode cX5_fill 8 = .ok (.imul, 1) := by decide +kernel
theorem dX5_fill_9 : decode cX5_fill 9 = .ok (.iconst 1, 1) := by decide +kernel
theorem dX5_fill_10 : decode cX5_fill 10 = .ok (.invokestatic 19, 3) := by decide +kernel
theorem dX5_fill_13 : decode cX5_fill 13 = .ok (.istore 4, 2) := by decide +kernel
theorem dX5_fill_15 : decode cX5_fill 15 = .ok (.bipush 20, 2) := by decide +kernel
theorem dX5_fill_17 : decode cX5_fill 17 = .ok (.iload_n 2, 1) := by decide +kernel
theorem dX5_fill_18 : decode cX5_fill 18 = .ok (.imul, 1) := by decide +kernel
theorem dX5_fill_19 : decode cX5_fill 19 = .ok (.iconst 1, 1) := by decide +kernel
theorem dX5_fill_20 : decode cX5_fill 20 = .ok (.invokestatic 19, 3) := by decide +kernel
theorem dX5_fill_23 : decode cX5_fill 23 = .ok (.istore 5, 2) := by decide +kernel
theorem dX5_fill_25 : decode cX5_fill 25 = .ok (.bipush 16, 2) := by decide +kernel
theorem dX5_fill_27 : decode cX5_fill 27 = .ok (.iload_n 2, 1) := by decide +kernel
theorem dX5_fill_28 : decode cX5_fill 28 = .ok (.imul, 1) := by decide +kernel
theorem dX5_fill_29 : decode cX5_fill 29 = .ok (.iconst 1, 1) := by decide +kernel
theorem dX5_fill_30 : decode cX5_fill 30 = .ok (.invokestatic 19, 3) := by decide +kernel
theorem dX5_fill_33 : decode cX5_fill 33 = .ok (.istore 6, 2) := by decide +kernel
theorem dX5_fill_35 : decode cX5_fill 35 = .ok (.iconst 0, 1) := by decide +kernel
theorem dX5_fill_36 : decode cX5_fill 36 = .ok (.istore 7, 2) := by decide +kernel
theorem dX5_fill_38 : decode cX5_fill 38 = .ok (.iload 7, 2) := by decide +kernel
theorem dX5_fill_40 : decode cX5_fill 40 = .ok (.aload_n 1, 1) := by decide +kernel
theorem dX5_fill_41 : decode cX5_fill 41 = .ok (.getfield 25, 3) := by decide +kernel
theorem dX5_fill_44 : decode cX5_fill 44 = .ok (.if_icmp .ge 89, 3) := by decide +kernel
theorem dX5_fill_47 : decode cX5_fill 47 = .ok (.aload_n 1, 1) := by decide +kernel
theorem dX5_fill_48 : decode cX5_fill 48 = .ok (.getfield 28, 3) := by decide +kernel
theorem dX5_fill_51 : decode cX5_fill 51 = .ok (.iload 7, 2) := by decide +kernel
theorem dX5_fill_53 : decode cX5_fill 53 = .ok (.iaload, 1) := by decide +kernel
theorem dX5_fill_54 : decode cX5_fill 54 = .ok (.istore 8, 2) := by decide +kernel
theorem dX5_fill_56 : decode cX5_fill 56 = .ok (.iconst 1, 1) := by decide +kernel
theorem dX5_fill_57 : decode cX5_fill 57 = .ok (.bipush 8, 2) := by decide +kernel
theorem dX5_fill_59 : decode cX5_fill 59 = .ok (.bipush 32, 2) := by decide +kernel
theorem dX5_fill_61 : decode cX5_fill 61 = .ok (.iload 8, 2) := by decide +kernel
theorem dX5_fill_63 : decode cX5_fill 63 = .ok (.imul, 1) := by decide +kernel
theorem dX5_fill_64 : decode cX5_fill 64 = .ok (.iload 6, 2) := by decide +kernel
theorem dX5_fill_66 : decode cX5_fill 66 = .ok (.iadd, 1) := by decide +kernel
theorem dX5_fill_67 : decode cX5_fill 67 = .ok (.iconst 2, 1) := by decide +kernel
theorem dX5_fill_68 : decode cX5_fill 68 = .ok (.iload 6, 2) := by decide +kernel
theorem dX5_fill_70 : decode cX5_fill 70 = .ok (.imul, 1) := by decide +kernel
theorem dX5_fill_71 : decode cX5_fill 71 = .ok (.idiv, 1) := by decide +kernel
theorem dX5_fill_72 : decode cX5_fill 72 = .ok (.invokestatic 31, 3) := by decide +kernel
theorem dX5_fill_75 : decode cX5_fill 75 = .ok (.invokestatic 19, 3) := by decide +kernel
theorem dX5_fill_78 : decode cX5_fill 78 = .ok (.istore 9, 2) := by decide +kernel
theorem dX5_fill_80 : decode cX5_fill 80 = .ok (.aload_n 0, 1) := by decide +kernel
theorem dX5_fill_81 : decode cX5_fill 81 = .ok (.iload 9, 2) := by decide +kernel
theorem dX5_fill_83 : decode cX5_fill 83 = .ok (.invokevirtual 34, 3) := by decide +kernel
theorem dX5_fill_86 : decode cX5_fill 86 = .ok (.bipush 16, 2) := by decide +kernel
theorem dX5_fill_88 : decode cX5_fill 88 = .ok (.iload 8, 2) := by decide +kernel
theorem dX5_fill_90 : decode cX5_fill 90 = .ok (.imul, 1) := by decide +kernel
theorem dX5_fill_91 : decode cX5_fill 91 = .ok (.iload 9, 2) := by decide +kernel
theorem dX5_fill_93 : decode cX5_fill 93 = .ok (.idiv, 1) := by decide +kernel
theorem dX5_fill_94 : decode cX5_fill 94 = .ok (.iload 6, 2) := by decide +kernel
theorem dX5_fill_96 : decode cX5_fill 96 = .ok (.isub, 1) := by decide +kernel
theorem dX5_fill_97 : decode cX5_fill 97 = .ok (.istore 10, 2) := by decide +kernel
theorem dX5_fill_99 : decode cX5_fill 99 = .ok (.iload 6, 2) := by decide +kernel
theorem dX5_fill_101 : decode cX5_fill 101 = .ok (.iload 10, 2) := by decide +kernel
theorem dX5_fill_103 : decode cX5_fill 103 = .ok (.iload_n 3, 1) := by decide +kernel
theorem dX5_fill_104 : decode cX5_fill 104 = .ok (.imul, 1) := by decide +kernel
theorem dX5_fill_105 : decode cX5_fill 105 = .ok (.bipush 32, 2) := by decide +kernel
theorem dX5_fill_107 : decode cX5_fill 107 = .ok (.invokestatic 38, 3) := by decide +kernel
theorem dX5_fill_110 : decode cX5_fill 110 = .ok (.iadd, 1) := by decide +kernel
theorem dX5_fill_111 : decode cX5_fill 111 = .ok (.istore 6, 2) := by decide +kernel
theorem dX5_fill_113 : decode cX5_fill 113 = .ok (.iload 4, 2) := by decide +kernel
theorem dX5_fill_115 : decode cX5_fill 115 = .ok (.iload 5, 2) := by decide +kernel
theorem dX5_fill_117 : decode cX5_fill 117 = .ok (.iload 6, 2) := by decide +kernel
theorem dX5_fill_119 : decode cX5_fill 119 = .ok (.invokestatic 31, 3) := by decide +kernel
theorem dX5_fill_122 : decode cX5_fill 122 = .ok (.invokestatic 19, 3) := by decide +kernel
theorem dX5_fill_125 : decode cX5_fill 125 = .ok (.istore 6, 2) := by decide +kernel
theorem dX5_fill_127 : decode cX5_fill 127 = .ok (.iinc 7 1, 3) := by decide +kernel
theorem dX5_fill_130 : decode cX5_fill 130 = .ok (.goto (-92), 3) := by decide +kernel
theorem dX5_fill_133 : decode cX5_fill 133 = .ok (.return_, 1) := by decide +kernel
theorem dX5_push_0 : decode cX5_push 0 = .ok (.aload_n 0, 1) := by decide +kernel
theorem dX5_push_1 : decode cX5_push 1 = .ok (.getfield 15, 3) := by decide +kernel
theorem dX5_push_4 : decode cX5_push 4 = .ok (.iload_n 1, 1) := by decide +kernel
theorem dX5_push_5 : decode cX5_push 5 = .ok (.iadd, 1) := by decide +kernel
theorem dX5_push_6 : decode cX5_push 6 = .ok (.aload_n 0, 1) := by decide +kernel
theorem dX5_push_7 : decode cX5_push 7 = .ok (.getfield 9, 3) := by decide +kernel
theorem dX5_push_10 : decode cX5_push 10 = .ok (.arraylength, 1) := by decide +kernel
theorem dX5_push_11 : decode cX5_push 11 = .ok (.if_icmp .le 4, 3) := by decide +kernel
theorem dX5_push_14 : decode cX5_push 14 = .ok (.return_, 1) := by decide +kernel
theorem dX5_push_15 : decode cX5_push 15 = .ok (.iconst 1, 1) := by decide +kernel
theorem dX5_push_16 : decode cX5_push 16 = .ok (.istore_n 2, 1) := by decide +kernel
theorem dX5_push_17 : decode cX5_push 17 = .ok (.iload_n 2, 1) := by decide +kernel
theorem dX5_push_18 : decode cX5_push 18 = .ok (.iload_n 1, 1) := by decide +kernel
theorem dX5_push_19 : decode cX5_push 19 = .ok (.if_icmp .ge 29, 3) := by decide +kernel
theorem dX5_push_22 : decode cX5_push 22 = .ok (.aload_n 0, 1) := by decide +kernel
theorem dX5_push_23 : decode cX5_push 23 = .ok (.getfield 9, 3) := by decide +kernel
theorem dX5_push_26 : decode cX5_push 26 = .ok (.aload_n 0, 1) := by decide +kernel
theorem dX5_push_27 : decode cX5_push 27 = .ok (.getfield 15, 3) := by decide +kernel
theorem dX5_push_30 : decode cX5_push 30 = .ok (.iconst 0, 1) := by decide +kernel
theorem dX5_push_31 : decode cX5_push 31 = .ok (.iastore, 1) := by decide +kernel
theorem dX5_push_32 : decode cX5_push 32 = .ok (.aload_n 0, 1) := by decide +kernel
theorem dX5_push_33 : decode cX5_push 33 = .ok (.dup, 1) := by decide +kernel
theorem dX5_push_34 : decode cX5_push 34 = .ok (.getfield 15, 3) := by decide +kernel
theorem dX5_push_37 : decode cX5_push 37 = .ok (.iconst 1, 1) := by decide +kernel
theorem dX5_push_38 : decode cX5_push 38 = .ok (.iadd, 1) := by decide +kernel
theorem dX5_push_39 : decode cX5_push 39 = .ok (.putfield 15, 3) := by decide +kernel
theorem dX5_push_42 : decode cX5_push 42 = .ok (.iinc 2 1, 3) := by decide +kernel
theorem dX5_push_45 : decode cX5_push 45 = .ok (.goto (-28), 3) := by decide +kernel
theorem dX5_push_48 : decode cX5_push 48 = .ok (.aload_n 0, 1) := by decide +kernel
theorem dX5_push_49 : decode cX5_push 49 = .ok (.getfield 9, 3) := by decide +kernel
theorem dX5_push_52 : decode cX5_push 52 = .ok (.aload_n 0, 1) := by decide +kernel
theorem dX5_push_53 : decode cX5_push 53 = .ok (.getfield 15, 3) := by decide +kernel
theorem dX5_push_56 : decode cX5_push 56 = .ok (.iconst 1, 1) := by decide +kernel
theorem dX5_push_57 : decode cX5_push 57 = .ok (.iastore, 1) := by decide +kernel
theorem dX5_push_58 : decode cX5_push 58 = .ok (.aload_n 0, 1) := by decide +kernel
theorem dX5_push_59 : decode cX5_push 59 = .ok (.dup, 1) := by decide +kernel
theorem dX5_push_60 : decode cX5_push 60 = .ok (.getfield 15, 3) := by decide +kernel
theorem dX5_push_63 : decode cX5_push 63 = .ok (.iconst 1, 1) := by decide +kernel
theorem dX5_push_64 : decode cX5_push 64 = .ok (.iadd, 1) := by decide +kernel
theorem dX5_push_65 : decode cX5_push 65 = .ok (.putfield 15, 3) := by decide +kernel
theorem dX5_push_68 : decode cX5_push 68 = .ok (.return_, 1) := by decide +kernel
theorem dX6_init_0 : decode cX6_init 0 = .ok (.aload_n 0, 1) := by decide +kernel
theorem dX6_init_1 : decode cX6_init 1 = .ok (.invokespecial 5, 3) := by decide +kernel
theorem dX6_init_4 : decode cX6_init 4 = .ok (.aload_n 0, 1) := by decide +kernel
theorem dX6_init_5 : decode cX6_init 5 = .ok (.sipush 225, 3) := by decide +kernel
theorem dX6_init_8 : decode cX6_init 8 = .ok (.newarray .int, 2) := by decide +kernel
theorem dX6_init_10 : decode cX6_init 10 = .ok (.putfield 11, 3) := by decide +kernel
theorem dX6_init_13 : decode cX6_init 13 = .ok (.return_, 1) := by decide +kernel
theorem dX6_write_0 : decode cX6_write 0 = .ok (.aload_n 0, 1) := by decide +kernel
theorem dX6_write_1 : decode cX6_write 1 = .ok (.iconst 0, 1) := by decide +kernel
theorem dX6_write_2 : decode cX6_write 2 = .ok (.putfield 15, 3) := by decide +kernel
theorem dX6_write_5 : decode cX6_write 5 = .ok (.aload_n 0, 1) := by decide +kernel
theorem dX6_write_6 : decode cX6_write 6 = .ok (.iconst (-1), 1) := by decide +kernel
theorem dX6_write_7 : decode cX6_write 7 = .ok (.putfield 19, 3) := by decide +kernel
theorem dX6_write_10 : decode cX6_write 10 = .ok (.aload_n 0, 1) := by decide +kernel
theorem dX6_write_11 : decode cX6_write 11 = .ok (.aload_n 1, 1) := by decide +kernel
theorem dX6_write_12 : decode cX6_write 12 = .ok (.getfield 22, 3) := by decide +kernel
theorem dX6_write_15 : decode cX6_write 15 = .ok (.putfield 27, 3) := by decide +kernel
theorem dX6_write_18 : decode cX6_write 18 = .ok (.aload_n 0, 1) := by decide +kernel
theorem dX6_write_19 : decode cX6_write 19 = .ok (.iconst 1, 1) := by decide +kernel
theorem dX6_write_20 : decode cX6_write 20 = .ok (.putfield 28, 3) := by decide +kernel
theorem dX6_write_23 : decode cX6_write 23 = .ok (.iconst 0, 1) := by decide +kernel
theorem dX6_write_24 : decode cX6_write 24 = .ok (.istore 5, 2) := by decide +kernel
theorem dX6_write_26 : decode cX6_write 26 = .ok (.iload 5, 2) := by decide +kernel
theorem dX6_write_28 : decode cX6_write 28 = .ok (.bipush 8, 2) := by decide +kernel
theorem dX6_write_30 : decode cX6_write 30 = .ok (.if_icmp .ge 19, 3) := by decide +kernel
theorem dX6_write_33 : decode cX6_write 33 = .ok (.aload_n 0, 1) := by decide +kernel
theorem dX6_write_34 : decode cX6_write 34 = .ok (.iconst 1, 1) := by decide +kernel
theorem dX6_write_35 : decode cX6_write 35 = .ok (.invokevirtual 32, 3) := by decide +kernel
theorem dX6_write_38 : decode cX6_write 38 = .ok (.aload_n 0, 1) := by decide +kernel
theorem dX6_write_39 : decode cX6_write 39 = .ok (.iconst 0, 1) := by decide +kernel
theorem dX6_write_40 : decode cX6_write 40 = .ok (.invokevirtual 32, 3) := by decide +kernel
theorem dX6_write_43 : decode cX6_write 43 = .ok (.iinc 5 1, 3) := by decide +kernel
theorem dX6_write_46 : decode cX6_write 46 = .ok (.goto (-20), 3) := by decide +kernel
theorem dX6_write_49 : decode cX6_write 49 = .ok (.bipush 15, 2) := by decide +kernel
theorem dX6_write_51 : decode cX6_write 51 = .ok (.istore 5, 2) := by decide +kernel
theorem dX6_write_53 : decode cX6_write 53 = .ok (.iload 5, 2) := by decide +kernel
theorem dX6_write_55 : decode cX6_write 55 = .ok (.ifCond .lt 22, 3) := by decide +kernel
theorem dX6_write_58 : decode cX6_write 58 = .ok (.aload_n 0, 1) := by decide +kernel
theorem dX6_write_59 : decode cX6_write 59 = .ok (.aload_n 1, 1) := by decide +kernel
theorem dX6_write_60 : decode cX6_write 60 = .ok (.getfield 36, 3) := by decide +kernel
theorem dX6_write_63 : decode cX6_write 63 = .ok (.iload 5, 2) := by decide +kernel
theorem dX6_write_65 : decode cX6_write 65 = .ok (.ishr, 1) := by decide +kernel
theorem dX6_write_66 : decode cX6_write 66 = .ok (.iconst 1, 1) := by decide +kernel
theorem dX6_write_67 : decode cX6_write 67 = .ok (.iand, 1) := by decide +kernel
theorem dX6_write_68 : decode cX6_write 68 = .ok (.invokevirtual 32, 3) := by decide +kernel
theorem dX6_write_71 : decode cX6_write 71 = .ok (.iinc 5 (-1), 3) := by decide +kernel
theorem dX6_write_74 : decode cX6_write 74 = .ok (.goto (-21), 3) := by decide +kernel
theorem dX6_write_77 : decode cX6_write 77 = .ok (.aload_n 0, 1) := by decide +kernel
theorem dX6_write_78 : decode cX6_write 78 = .ok (.aload_n 1, 1) := by decide +kernel
theorem dX6_write_79 : decode cX6_write 79 = .ok (.getfield 36, 3) := by decide +kernel
theorem dX6_write_82 : decode cX6_write 82 = .ok (.iconst 1, 1) := by decide +kernel
theorem dX6_write_83 : decode cX6_write 83 = .ok (.iand, 1) := by decide +kernel
theorem dX6_write_84 : decode cX6_write 84 = .ok (.putfield 39, 3) := by decide +kernel
theorem dX6_write_87 : decode cX6_write 87 = .ok (.aload_n 0, 1) := by decide +kernel
theorem dX6_write_88 : decode cX6_write 88 = .ok (.aload_n 1, 1) := by decide +kernel
theorem dX6_write_89 : decode cX6_write 89 = .ok (.iload_n 2, 1) := by decide +kernel
theorem dX6_write_90 : decode cX6_write 90 = .ok (.iload_n 3, 1) := by decide +kernel
theorem dX6_write_91 : decode cX6_write 91 = .ok (.invokevirtual 42, 3) := by decide +kernel
theorem dX6_write_94 : decode cX6_write 94 = .ok (.invokevirtual 46, 3) := by decide +kernel
theorem dX6_write_97 : decode cX6_write 97 = .ok (.aload_n 0, 1) := by decide +kernel
theorem dX6_write_98 : decode cX6_write 98 = .ok (.aload_n 1, 1) := by decide +kernel
theorem dX6_write_99 : decode cX6_write 99 = .ok (.iload_n 2, 1) := by decide +kernel
theorem dX6_write_100 : decode cX6_write 100 = .ok (.iload_n 3, 1) := by decide +kernel
theorem dX6_write_101 : decode cX6_write 101 = .ok (.invokevirtual 49, 3) := by decide +kernel
theorem dX6_write_104 : decode cX6_write 104 = .ok (.invokevirtual 46, 3) := by decide +kernel
theorem dX6_write_107 : decode cX6_write 107 = .ok (.iconst 0, 1) := by decide +kernel
theorem dX6_write_108 : decode cX6_write 108 = .ok (.istore 5, 2) := by decide +kernel
theorem dX6_write_110 : decode cX6_write 110 = .ok (.iload 5, 2) := by decide +kernel
theorem dX6_write_112 : decode cX6_write 112 = .ok (.aload_n 1, 1) := by decide +kernel
theorem dX6_write_113 : decode cX6_write 113 = .ok (.getfield 52, 3) := by decide +kernel
theorem dX6_write_116 : decode cX6_write 116 = .ok (.if_icmp .ge 26, 3) := by decide +kernel
theorem dX6_write_119 : decode cX6_write 119 = .ok (.iload 5, 2) := by decide +kernel
theorem dX6_write_121 : decode cX6_write 121 = .ok (.aload 4, 2) := by decide +kernel
theorem dX6_write_123 : decode cX6_write 123 = .ok (.arraylength, 1) := by decide +kernel
theorem dX6_write_124 : decode cX6_write 124 = .ok (.if_icmp .ge 18, 3) := by decide +kernel
theorem dX6_write_127 : decode cX6_write 127 = .ok (.aload_n 0, 1) := by decide +kernel
theorem dX6_write_128 : decode cX6_write 128 = .ok (.aload 4, 2) := by decide +kernel
theorem dX6_write_130 : decode cX6_write 130 = .ok (.iload 5, 2) := by decide +kernel
theorem dX6_write_132 : decode cX6_write 132 = .ok (.iaload, 1) := by decide +kernel
theorem dX6_write_133 : decode cX6_write 133 = .ok (.invokevirtual 46, 3) := by decide +kernel
theorem dX6_write_136 : decode cX6_write 136 = .ok (.iinc 5 1, 3) := by decide +kernel
theorem dX6_write_139 : decode cX6_write 139 = .ok (.goto (-29), 3) := by decide +kernel
theorem dX6_write_142 : decode cX6_write 142 = .ok (.aload_n 1, 1) := by decide +kernel
theorem dX6_write_143 : decode cX6_write 143 = .ok (.iload_n 2, 1) := by decide +kernel
theorem dX6_write_144 : decode cX6_write 144 = .ok (.iload_n 3, 1) := by decide +kernel
theorem dX6_write_145 : decode cX6_write 145 = .ok (.aload 4, 2) := by decide +kernel
theorem dX6_write_147 : decode cX6_write 147 = .ok (.invokevirtual 53, 3) := by decide +kernel
theorem dX6_write_150 : decode cX6_write 150 = .ok (.istore 5, 2) := by decide +kernel
theorem dX6_write_152 : decode cX6_write 152 = .ok (.aload_n 0, 1) := by decide +kernel
theorem dX6_write_153 : decode cX6_write 153 = .ok (.iload 5, 2) := by decide +kernel
theorem dX6_write_155 : decode cX6_write 155 = .ok (.bipush 8, 2) := by decide +kernel
theorem dX6_write_157 : decode cX6_write 157 = .ok (.ishr, 1) := by decide +kernel
theorem dX6_write_158 : decode cX6_write 158 = .ok (.invokevirtual 46, 3) := by decide +kernel
theorem dX6_write_161 : decode cX6_write 161 = .ok (.aload_n 0, 1) := by decide +kernel
theorem dX6_write_162 : decode cX6_write 162 = .ok (.iload 5, 2) := by decide +kernel
theorem dX6_write_164 : decode cX6_write 164 = .ok (.sipush 255, 3) := by decide +kernel
theorem dX6_write_167 : decode cX6_write 167 = .ok (.iand, 1) := by decide +kernel
theorem dX6_write_168 : decode cX6_write 168 = .ok (.invokevirtual 46, 3) := by decide +kernel
theorem dX6_write_171 : decode cX6_write 171 = .ok (.aload_n 0, 1) := by decide +kernel
theorem dX6_write_172 : decode cX6_write 172 = .ok (.iconst 1, 1) := by decide +kernel
theorem dX6_write_173 : decode cX6_write 173 = .ok (.invokevirtual 32, 3) := by decide +kernel
theorem dX6_write_176 : decode cX6_write 176 = .ok (.aload_n 0, 1) := by decide +kernel
theorem dX6_write_177 : decode cX6_write 177 = .ok (.getfield 28, 3) := by decide +kernel
theorem dX6_write_180 : decode cX6_write 180 = .ok (.ireturn, 1) := by decide +kernel
theorem dX6_pushByte_0 : decode cX6_pushByte 0 = .ok (.bipush 7, 2) := by decide +kernel
theorem dX6_pushByte_2 : decode cX6_pushByte 2 = .ok (.istore_n 2, 1) := by decide +kernel
theorem dX6_pushByte_3 : decode cX6_pushByte 3 = .ok (.iload_n 2, 1) := by decide +kernel
theorem dX6_pushByte_4 : decode cX6_pushByte 4 = .ok (.ifCond .lt 37, 3) := by decide +kernel
theorem dX6_pushByte_7 : decode cX6_pushByte 7 = .ok (.iload_n 1, 1) := by decide +kernel
theorem dX6_pushByte_8 : decode cX6_pushByte 8 = .ok (.iload_n 2, 1) := by decide +kernel
theorem dX6_pushByte_9 : decode cX6_pushByte 9 = .ok (.ishr, 1) := by decide +kernel
theorem dX6_pushByte_10 : decode cX6_pushByte 10 = .ok (.iconst 1, 1) := by decide +kernel
theorem dX6_pushByte_11 : decode cX6_pushByte 11 = .ok (.iand, 1) := by decide +kernel
theorem dX6_pushByte_12 : decode cX6_pushByte 12 = .ok (.istore_n 3, 1) := by decide +kernel
theorem dX6_pushByte_13 : decode cX6_pushByte 13 = .ok (.aload_n 0, 1) := by decide +kernel
theorem dX6_pushByte_14 : decode cX6_pushByte 14 = .ok (.aload_n 0, 1) := by decide +kernel
theorem dX6_pushByte_15 : decode cX6_pushByte 15 = .ok (.getfield 39, 3) := by decide +kernel
theorem dX6_pushByte_18 : decode cX6_pushByte 18 = .ok (.iload_n 3, 1) := by decide +kernel
theorem dX6_pushByte_19 : decode cX6_pushByte 19 = .ok (.invokestatic 57, 3) := by decide +kernel
theorem dX6_pushByte_22 : decode cX6_pushByte 22 = .ok (.invokevirtual 32, 3) := by decide +kernel
theorem dX6_pushByte_25 : decode cX6_pushByte 25 = .ok (.aload_n 0, 1) := by decide +kernel
theorem dX6_pushByte_26 : decode cX6_pushByte 26 = .ok (.iload_n 3, 1) := by decide +kernel
theorem dX6_pushByte_27 : decode cX6_pushByte 27 = .ok (.invokevirtual 32, 3) := by decide +kernel
theorem dX6_pushByte_30 : decode cX6_pushByte 30 = .ok (.aload_n 0, 1) := by decide +kernel
theorem dX6_pushByte_31 : decode cX6_pushByte 31 = .ok (.iload_n 3, 1) := by decide +kernel
theorem dX6_pushByte_32 : decode cX6_pushByte 32 = .ok (.putfield 39, 3) := by decide +kernel
theorem dX6_pushByte_35 : decode cX6_pushByte 35 = .ok (.iinc 2 (-1), 3) := by decide +kernel
theorem dX6_pushByte_38 : decode cX6_pushByte 38 = .ok (.goto (-35), 3) := by decide +kernel
theorem dX6_pushByte_41 : decode cX6_pushByte 41 = .ok (.return_, 1) := by decide +kernel
theorem dX6_pushBit_0 : decode cX6_pushBit 0 = .ok (.aload_n 0, 1) := by decide +kernel
theorem dX6_pushBit_1 : decode cX6_pushBit 1 = .ok (.getfield 19, 3) := by decide +kernel
theorem dX6_pushBit_4 : decode cX6_pushBit 4 = .ok (.iconst (-1), 1) := by decide +kernel
theorem dX6_pushBit_5 : decode cX6_pushBit 5 = .ok (.if_icmp .eq 13, 3) := by decide +kernel
theorem dX6_pushBit_8 : decode cX6_pushBit 8 = .ok (.aload_n 0, 1) := by decide +kernel
theorem dX6_pushBit_9 : decode cX6_pushBit 9 = .ok (.dup, 1) := by decide +kernel
theorem dX6_pushBit_10 : decode cX6_pushBit 10 = .ok (.getfield 19, 3) := by decide +kernel
theorem dX6_pushBit_13 : decode cX6_pushBit 13 = .ok (.iconst 1, 1) := by decide +kernel
theorem dX6_pushBit_14 : decode cX6_pushBit 14 = .ok (.iadd, 1) := by decide +kernel
theorem dX6_pushBit_15 : decode cX6_pushBit 15 = .ok (.putfield 19, 3) := by decide +kernel
theorem dX6_pushBit_18 : decode cX6_pushBit 18 = .ok (.iload_n 1, 1) := by decide +kernel
theorem dX6_pushBit_19 : decode cX6_pushBit 19 = .ok (.ifCond .ne 4, 3) := by decide +kernel
theorem dX6_pushBit_22 : decode cX6_pushBit 22 = .ok (.return_, 1) := by decide +kernel
theorem dX6_pushBit_23 : decode cX6_pushBit 23 = .ok (.aload_n 0, 1) := by decide +kernel
theorem dX6_pushBit_24 : decode cX6_pushBit 24 = .ok (.getfield 19, 3) := by decide +kernel
theorem dX6_pushBit_27 : decode cX6_pushBit 27 = .ok (.iconst (-1), 1) := by decide +kernel
theorem dX6_pushBit_28 : decode cX6_pushBit 28 = .ok (.if_icmp .eq 72, 3) := by decide +kernel
theorem dX6_pushBit_31 : decode cX6_pushBit 31 = .ok (.aload_n 0, 1) := by decide +kernel
theorem dX6_pushBit_32 : decode cX6_pushBit 32 = .ok (.getfield 15, 3) := by decide +kernel
theorem dX6_pushBit_35 : decode cX6_pushBit 35 = .ok (.sipush 225, 3) := by decide +kernel
theorem dX6_pushBit_38 : decode cX6_pushBit 38 = .ok (.if_icmp .ge 62, 3) := by decide +kernel
theorem dX6_pushBit_41 : decode cX6_pushBit 41 = .ok (.aload_n 0, 1) := by decide +kernel
theorem dX6_pushBit_42 : decode cX6_pushBit 42 = .ok (.aload_n 0, 1) := by decide +kernel
theorem dX6_pushBit_43 : decode cX6_pushBit 43 = .ok (.getfield 28, 3) := by decide +kernel
theorem dX6_pushBit_46 : decode cX6_pushBit 46 = .ok (.ifCond .eq 22, 3) := by decide +kernel
theorem dX6_pushBit_49 : decode cX6_pushBit 49 = .ok (.aload_n 0, 1) := by decide +kernel
theorem dX6_pushBit_50 : decode cX6_pushBit 50 = .ok (.getfield 27, 3) := by decide +kernel
theorem dX6_pushBit_53 : decode cX6_pushBit 53 = .ok (.aload_n 0, 1) := by decide +kernel
theorem dX6_pushBit_54 : decode cX6_pushBit 54 = .ok (.getfield 19, 3) := by decide +kernel
theorem dX6_pushBit_57 : decode cX6_pushBit 57 = .ok (.imul, 1) := by decide +kernel
theorem dX6_pushBit_58 : decode cX6_pushBit 58 = .ok (.sipush 255, 3) := by decide +kernel
theorem dX6_pushBit_61 : decode cX6_pushBit 61 = .ok (.if_icmp .gt 7, 3) := by decide +kernel
theorem dX6_pushBit_64 : decode cX6_pushBit 64 = .ok (.iconst 1, 1) := by decide +kernel
theorem dX6_pushBit_65 : decode cX6_pushBit 65 = .ok (.goto 4, 3) := by decide +kernel
theorem dX6_pushBit_68 : decode cX6_pushBit 68 = .ok (.iconst 0, 1) := by decide +kernel
theorem dX6_pushBit_69 : decode cX6_pushBit 69 = .ok (.putfield 28, 3) := by decide +kernel
theorem dX6_pushBit_72 : decode cX6_pushBit 72 = .ok (.aload_n 0, 1) := by decide +kernel
theorem dX6_pushBit_73 : decode cX6_pushBit 73 = .ok (.getfield 11, 3) := by decide +kernel
theorem dX6_pushBit_76 : decode cX6_pushBit 76 = .ok (.aload_n 0, 1) := by decide +kernel
theorem dX6_pushBit_77 : decode cX6_pushBit 77 = .ok (.getfield 15, 3) := by decide +kernel
theorem dX6_pushBit_80 : decode cX6_pushBit 80 = .ok (.aload_n 0, 1) := by decide +kernel
theorem dX6_pushBit_81 : decode cX6_pushBit 81 = .ok (.getfield 27, 3) := by decide +kernel
theorem dX6_pushBit_84 : decode cX6_pushBit 84 = .ok (.aload_n 0, 1) := by decide +kernel
theorem dX6_pushBit_85 : decode cX6_pushBit 85 = .ok (.getfield 19, 3) := by decide +kernel
theorem dX6_pushBit_88 : decode cX6_pushBit 88 = .ok (.imul, 1) := by decide +kernel
theorem dX6_pushBit_89 : decode cX6_pushBit 89 = .ok (.iastore, 1) := by decide +kernel
theorem dX6_pushBit_90 : decode cX6_pushBit 90 = .ok (.aload_n 0, 1) := by decide +kernel
theorem dX6_pushBit_91 : decode cX6_pushBit 91 = .ok (.dup, 1) := by decide +kernel
theorem dX6_pushBit_92 : decode cX6_pushBit 92 = .ok (.getfield 15, 3) := by decide +kernel
theorem dX6_pushBit_95 : decode cX6_pushBit 95 = .ok (.iconst 1, 1) := by decide +kernel
theorem dX6_pushBit_96 : decode cX6_pushBit 96 = .ok (.iadd, 1) := by decide +kernel
theorem dX6_pushBit_97 : decode cX6_pushBit 97 = .ok (.putfield 15, 3) := by decide +kernel
theorem dX6_pushBit_100 : decode cX6_pushBit 100 = .ok (.aload_n 0, 1) := by decide +kernel
theorem dX6_pushBit_101 : decode cX6_pushBit 101 = .ok (.iconst 0, 1) := by decide +kernel
theorem dX6_pushBit_102 : decode cX6_pushBit 102 = .ok (.putfield 19, 3) := by decide +kernel
theorem dX6_pushBit_105 : decode cX6_pushBit 105 = .ok (.return_, 1) := by decide +kernel
theorem dX7_init_0 : decode cX7_init 0 = .ok (.aload_n 0, 1) := by decide +kernel
theorem dX7_init_1 : decode cX7_init 1 = .ok (.invokespecial 3, 3) := by decide +kernel
theorem dX7_init_4 : decode cX7_init 4 = .ok (.aload_n 0, 1) := by decide +kernel
theorem dX7_init_5 : decode cX7_init 5 = .ok (.bipush 8, 2) := by decide +kernel
theorem dX7_init_7 : decode cX7_init 7 = .ok (.newarray .int, 2) := by decide +kernel
theorem dX7_init_9 : decode cX7_init 9 = .ok (.putfield 9, 3) := by decide +kernel
theorem dX7_init_12 : decode cX7_init 12 = .ok (.return_, 1) := by decide +kernel
theorem dX7_isRight_0 : decode cX7_isRight 0 = .ok (.aload_n 0, 1) := by decide +kernel
theorem dX7_isRight_1 : decode cX7_isRight 1 = .ok (.getfield 15, 3) := by decide +kernel
theorem dX7_isRight_4 : decode cX7_isRight 4 = .ok (.aload_n 0, 1) := by decide +kernel
theorem dX7_isRight_5 : decode cX7_isRight 5 = .ok (.getfield 19, 3) := by decide +kernel
theorem dX7_isRight_8 : decode cX7_isRight 8 = .ok (.if_icmp .ne 7, 3) := by decide +kernel
theorem dX7_isRight_11 : decode cX7_isRight 11 = .ok (.iconst 1, 1) := by decide +kernel
theorem dX7_isRight_12 : decode cX7_isRight 12 = .ok (.goto 4, 3) := by decide +kernel
theorem dX7_isRight_15 : decode cX7_isRight 15 = .ok (.iconst 0, 1) := by decide +kernel
theorem dX7_isRight_16 : decode cX7_isRight 16 = .ok (.ireturn, 1) := by decide +kernel
theorem dX7_take_0 : decode cX7_take 0 = .ok (.aload_n 0, 1) := by decide +kernel
theorem dX7_take_1 : decode cX7_take 1 = .ok (.iload_n 2, 1) := by decide +kernel
theorem dX7_take_2 : decode cX7_take 2 = .ok (.putfield 22, 3) := by decide +kernel
theorem dX7_take_5 : decode cX7_take 5 = .ok (.aload_n 0, 1) := by decide +kernel
theorem dX7_take_6 : decode cX7_take 6 = .ok (.aload_n 1, 1) := by decide +kernel
theorem dX7_take_7 : decode cX7_take 7 = .ok (.iconst 0, 1) := by decide +kernel
theorem dX7_take_8 : decode cX7_take 8 = .ok (.invokevirtual 25, 3) := by decide +kernel
theorem dX7_take_11 : decode cX7_take 11 = .ok (.istore 4, 2) := by decide +kernel
theorem dX7_take_13 : decode cX7_take 13 = .ok (.aload_n 0, 1) := by decide +kernel
theorem dX7_take_14 : decode cX7_take 14 = .ok (.aload_n 1, 1) := by decide +kernel
theorem dX7_take_15 : decode cX7_take 15 = .ok (.iconst 1, 1) := by decide +kernel
theorem dX7_take_16 : decode cX7_take 16 = .ok (.invokevirtual 25, 3) := by decide +kernel
theorem dX7_take_19 : decode cX7_take 19 = .ok (.istore 5, 2) := by decide +kernel
theorem dX7_take_21 : decode cX7_take 21 = .ok (.aload_n 0, 1) := by decide +kernel
theorem dX7_take_22 : decode cX7_take 22 = .ok (.aload_n 3, 1) := by decide +kernel
theorem dX7_take_23 : decode cX7_take 23 = .ok (.iload 4, 2) := by decide +kernel
theorem dX7_take_25 : decode cX7_take 25 = .ok (.iload 5, 2) := by decide +kernel
theorem dX7_take_27 : decode cX7_take 27 = .ok (.invokevirtual 29, 3) := by decide +kernel
theorem dX7_take_30 : decode cX7_take 30 = .ok (.putfield 35, 3) := by decide +kernel
theorem dX7_take_33 : decode cX7_take 33 = .ok (.aload_n 0, 1) := by decide +kernel
theorem dX7_take_34 : decode cX7_take 34 = .ok (.aload_n 3, 1) := by decide +kernel
theorem dX7_take_35 : decode cX7_take 35 = .ok (.iload 4, 2) := by decide +kernel
theorem dX7_take_37 : decode cX7_take 37 = .ok (.iload 5, 2) := by decide +kernel
theorem dX7_take_39 : decode cX7_take 39 = .ok (.invokevirtual 38, 3) := by decide +kernel
theorem dX7_take_42 : decode cX7_take 42 = .ok (.putfield 41, 3) := by decide +kernel
theorem dX7_take_45 : decode cX7_take 45 = .ok (.aload_n 3, 1) := by decide +kernel
theorem dX7_take_46 : decode cX7_take 46 = .ok (.getfield 44, 3) := by decide +kernel
theorem dX7_take_49 : decode cX7_take 49 = .ok (.bipush 8, 2) := by decide +kernel
theorem dX7_take_51 : decode cX7_take 51 = .ok (.invokestatic 47, 3) := by decide +kernel
theorem dX7_take_54 : decode cX7_take 54 = .ok (.istore 6, 2) := by decide +kernel
theorem dX7_take_56 : decode cX7_take 56 = .ok (.iconst 0, 1) := by decide +kernel
theorem dX7_take_57 : decode cX7_take 57 = .ok (.istore 7, 2) := by decide +kernel
theorem dX7_take_59 : decode cX7_take 59 = .ok (.iload 7, 2) := by decide +kernel
theorem dX7_take_61 : decode cX7_take 61 = .ok (.iload 6, 2) := by decide +kernel
theorem dX7_take_63 : decode cX7_take 63 = .ok (.if_icmp .ge 25, 3) := by decide +kernel
theorem dX7_take_66 : decode cX7_take 66 = .ok (.aload_n 0, 1) := by decide +kernel
theorem dX7_take_67 : decode cX7_take 67 = .ok (.getfield 9, 3) := by decide +kernel
theorem dX7_take_70 : decode cX7_take 70 = .ok (.iload 7, 2) := by decide +kernel
theorem dX7_take_72 : decode cX7_take 72 = .ok (.aload_n 0, 1) := by decide +kernel
theorem dX7_take_73 : decode cX7_take 73 = .ok (.aload_n 1, 1) := by decide +kernel
theorem dX7_take_74 : decode cX7_take 74 = .ok (.iconst 2, 1) := by decide +kernel
theorem dX7_take_75 : decode cX7_take 75 = .ok (.iload 7, 2) := by decide +kernel
theorem dX7_take_77 : decode cX7_take 77 = .ok (.iadd, 1) := by decide +kernel
theorem dX7_take_78 : decode cX7_take 78 = .ok (.invokevirtual 25, 3) := by decide +kernel
theorem dX7_take_81 : decode cX7_take 81 = .ok (.iastore, 1) := by decide +kernel
theorem dX7_take_82 : decode cX7_take 82 = .ok (.iinc 7 1, 3) := by decide +kernel
theorem dX7_take_85 : decode cX7_take 85 = .ok (.goto (-26), 3) := by decide +kernel
theorem dX7_take_88 : decode cX7_take 88 = .ok (.aload_n 0, 1) := by decide +kernel
theorem dX7_take_89 : decode cX7_take 89 = .ok (.aload_n 0, 1) := by decide +kernel
theorem dX7_take_90 : decode cX7_take 90 = .ok (.aload_n 1, 1) := by decide +kernel
theorem dX7_take_91 : decode cX7_take 91 = .ok (.iconst 2, 1) := by decide +kernel
theorem dX7_take_92 : decode cX7_take 92 = .ok (.iload 6, 2) := by decide +kernel
theorem dX7_take_94 : decode cX7_take 94 = .ok (.iadd, 1) := by decide +kernel
theorem dX7_take_95 : decode cX7_take 95 = .ok (.invokevirtual 25, 3) := by decide +kernel
theorem dX7_take_98 : decode cX7_take 98 = .ok (.bipush 8, 2) := by decide +kernel
theorem dX7_take_100 : decode cX7_take 100 = .ok (.ishl, 1) := by decide +kernel
theorem dX7_take_101 : decode cX7_take 101 = .ok (.aload_n 0, 1) := by decide +kernel
theorem dX7_take_102 : decode cX7_take 102 = .ok (.aload_n 1, 1) := by decide +kernel
theorem dX7_take_103 : decode cX7_take 103 = .ok (.iconst 3, 1) := by decide +kernel
theorem dX7_take_104 : decode cX7_take 104 = .ok (.iload 6, 2) := by decide +kernel
theorem dX7_take_106 : decode cX7_take 106 = .ok (.iadd, 1) := by decide +kernel
theorem dX7_take_107 : decode cX7_take 107 = .ok (.invokevirtual 25, 3) := by decide +kernel
theorem dX7_take_110 : decode cX7_take 110 = .ok (.ior, 1) := by decide +kernel
theorem dX7_take_111 : decode cX7_take 111 = .ok (.putfield 15, 3) := by decide +kernel
theorem dX7_take_114 : decode cX7_take 114 = .ok (.aload_n 0, 1) := by decide +kernel
theorem dX7_take_115 : decode cX7_take 115 = .ok (.aload_n 3, 1) := by decide +kernel
theorem dX7_take_116 : decode cX7_take 116 = .ok (.aload_n 0, 1) := by decide +kernel
theorem dX7_take_117 : decode cX7_take 117 = .ok (.getfield 35, 3) := by decide +kernel
theorem dX7_take_120 : decode cX7_take 120 = .ok (.aload_n 0, 1) := by decide +kernel
theorem dX7_take_121 : decode cX7_take 121 = .ok (.getfield 41, 3) := by decide +kernel
theorem dX7_take_124 : decode cX7_take 124 = .ok (.aload_n 0, 1) := by decide +kernel
theorem dX7_take_125 : decode cX7_take 125 = .ok (.getfield 9, 3) := by decide +kernel
theorem dX7_take_128 : decode cX7_take 128 = .ok (.invokevirtual 52, 3) := by decide +kernel
theorem dX7_take_131 : decode cX7_take 131 = .ok (.putfield 19, 3) := by decide +kernel
theorem dX7_take_134 : decode cX7_take 134 = .ok (.aload_n 0, 1) := by decide +kernel
theorem dX7_take_135 : decode cX7_take 135 = .ok (.aload_n 0, 1) := by decide +kernel
theorem dX7_take_136 : decode cX7_take 136 = .ok (.aload_n 1, 1) := by decide +kernel
theorem dX7_take_137 : decode cX7_take 137 = .ok (.aload_n 3, 1) := by decide +kernel
theorem dX7_take_138 : decode cX7_take 138 = .ok (.invokevirtual 56, 3) := by decide +kernel
theorem dX7_take_141 : decode cX7_take 141 = .ok (.putfield 60, 3) := by decide +kernel
theorem dX7_take_144 : decode cX7_take 144 = .ok (.return_, 1) := by decide +kernel
theorem dX7_hasData_0 : decode cX7_hasData 0 = .ok (.iconst 0, 1) := by decide +kernel
theorem dX7_hasData_1 : decode cX7_hasData 1 = .ok (.istore_n 3, 1) := by decide +kernel
theorem dX7_hasData_2 : decode cX7_hasData 2 = .ok (.iload_n 3, 1) := by decide +kernel
theorem dX7_hasData_3 : decode cX7_hasData 3 = .ok (.iload_n 2, 1) := by decide +kernel
theorem dX7_hasData_4 : decode cX7_hasData 4 = .ok (.if_icmp .ge 32, 3) := by decide +kernel
theorem dX7_hasData_7 : decode cX7_hasData 7 = .ok (.iload_n 3, 1) := by decide +kernel
theorem dX7_hasData_8 : decode cX7_hasData 8 = .ok (.bipush 8, 2) := by decide +kernel
theorem dX7_hasData_10 : decode cX7_hasData 10 = .ok (.if_icmp .ge 26, 3) := by decide +kernel
theorem dX7_hasData_13 : decode cX7_hasData 13 = .ok (.aload_n 0, 1) := by decide +kernel
theorem dX7_hasData_14 : decode cX7_hasData 14 = .ok (.getfield 9, 3) := by decide +kernel
theorem dX7_hasData_17 : decode cX7_hasData 17 = .ok (.iload_n 3, 1) := by decide +kernel
theorem dX7_hasData_18 : decode cX7_hasData 18 = .ok (.iaload, 1) := by decide +kernel
theorem dX7_hasData_19 : decode cX7_hasData 19 = .ok (.aload_n 1, 1) := by decide +kernel
theorem dX7_hasData_20 : decode cX7_hasData 20 = .ok (.getfield 9, 3) := by decide +kernel
theorem dX7_hasData_23 : decode cX7_hasData 23 = .ok (.iload_n 3, 1) := by decide +kernel
theorem dX7_hasData_24 : decode cX7_hasData 24 = .ok (.iaload, 1) := by decide +kernel
theorem dX7_hasData_25 : decode cX7_hasData 25 = .ok (.if_icmp .eq 5, 3) := by decide +kernel
theorem dX7_hasData_28 : decode cX7_hasData 28 = .ok (.iconst 0, 1) := by decide +kernel
theorem dX7_hasData_29 : decode cX7_hasData 29 = .ok (.ireturn, 1) := by decide +kernel
theorem dX7_hasData_30 : decode cX7_hasData 30 = .ok (.iinc 3 1, 3) := by decide +kernel
theorem dX7_hasData_33 : decode cX7_hasData 33 = .ok (.goto (-31), 3) := by decide +kernel
theorem dX7_hasData_36 : decode cX7_hasData 36 = .ok (.iconst 1, 1) := by decide +kernel
theorem dX7_hasData_37 : decode cX7_hasData 37 = .ok (.ireturn, 1) := by decide +kernel
theorem dX7_byteOrSum_0 : decode cX7_byteOrSum 0 = .ok (.iload_n 1, 1) := by decide +kernel
theorem dX7_byteOrSum_1 : decode cX7_byteOrSum 1 = .ok (.ifCond .lt 21, 3) := by decide +kernel
theorem dX7_byteOrSum_4 : decode cX7_byteOrSum 4 = .ok (.iload_n 1, 1) := by decide +kernel
theorem dX7_byteOrSum_5 : decode cX7_byteOrSum 5 = .ok (.iload_n 2, 1) := by decide +kernel
theorem dX7_byteOrSum_6 : decode cX7_byteOrSum 6 = .ok (.if_icmp .ge 16, 3) := by decide +kernel
theorem dX7_byteOrSum_9 : decode cX7_byteOrSum 9 = .ok (.iload_n 1, 1) := by decide +kernel
theorem dX7_byteOrSum_10 : decode cX7_byteOrSum 10 = .ok (.bipush 8, 2) := by decide +kernel
theorem dX7_byteOrSum_12 : decode cX7_byteOrSum 12 = .ok (.if_icmp .ge 10, 3) := by decide +kernel
theorem dX7_byteOrSum_15 : decode cX7_byteOrSum 15 = .ok (.aload_n 0, 1) := by decide +kernel
theorem dX7_byteOrSum_16 : decode cX7_byteOrSum 16 = .ok (.getfield 9, 3) := by decide +kernel
theorem dX7_byteOrSum_19 : decode cX7_byteOrSum 19 = .ok (.iload_n 1, 1) := by decide +kernel
theorem dX7_byteOrSum_20 : decode cX7_byteOrSum 20 = .ok (.iaload, 1) := by decide +kernel
theorem dX7_byteOrSum_21 : decode cX7_byteOrSum 21 = .ok (.ireturn, 1) := by decide +kernel
theorem dX7_byteOrSum_22 : decode cX7_byteOrSum 22 = .ok (.iload_n 1, 1) := by decide +kernel
theorem dX7_byteOrSum_23 : decode cX7_byteOrSum 23 = .ok (.iload_n 2, 1) := by decide +kernel
theorem dX7_byteOrSum_24 : decode cX7_byteOrSum 24 = .ok (.if_icmp .ne 13, 3) := by decide +kernel
theorem dX7_byteOrSum_27 : decode cX7_byteOrSum 27 = .ok (.aload_n 0, 1) := by decide +kernel
theorem dX7_byteOrSum_28 : decode cX7_byteOrSum 28 = .ok (.getfield 15, 3) := by decide +kernel
theorem dX7_byteOrSum_31 : decode cX7_byteOrSum 31 = .ok (.bipush 8, 2) := by decide +kernel
theorem dX7_byteOrSum_33 : decode cX7_byteOrSum 33 = .ok (.ishr, 1) := by decide +kernel
theorem dX7_byteOrSum_34 : decode cX7_byteOrSum 34 = .ok (.goto 11, 3) := by decide +kernel
theorem dX7_byteOrSum_37 : decode cX7_byteOrSum 37 = .ok (.aload_n 0, 1) := by decide +kernel
theorem dX7_byteOrSum_38 : decode cX7_byteOrSum 38 = .ok (.getfield 15, 3) := by decide +kernel
theorem dX7_byteOrSum_41 : decode cX7_byteOrSum 41 = .ok (.sipush 255, 3) := by decide +kernel
theorem dX7_byteOrSum_44 : decode cX7_byteOrSum 44 = .ok (.iand, 1) := by decide +kernel
theorem dX7_byteOrSum_45 : decode cX7_byteOrSum 45 = .ok (.ireturn, 1) := by decide +kernel
theorem dX7_byteAt_0 : decode cX7_byteAt 0 = .ok (.aload_n 0, 1) := by decide +kernel
theorem dX7_byteAt_1 : decode cX7_byteAt 1 = .ok (.getfield 22, 3) := by decide +kernel
theorem dX7_byteAt_4 : decode cX7_byteAt 4 = .ok (.iload_n 2, 1) := by decide +kernel
theorem dX7_byteAt_5 : decode cX7_byteAt 5 = .ok (.bipush 16, 2) := by decide +kernel
theorem dX7_byteAt_7 : decode cX7_byteAt 7 = .ok (.imul, 1) := by decide +kernel
theorem dX7_byteAt_8 : decode cX7_byteAt 8 = .ok (.iadd, 1) := by decide +kernel
theorem dX7_byteAt_9 : decode cX7_byteAt 9 = .ok (.istore_n 3, 1) := by decide +kernel
theorem dX7_byteAt_10 : decode cX7_byteAt 10 = .ok (.iconst 0, 1) := by decide +kernel
theorem dX7_byteAt_11 : decode cX7_byteAt 11 = .ok (.istore 4, 2) := by decide +kernel
theorem dX7_byteAt_13 : decode cX7_byteAt 13 = .ok (.iload_n 3, 1) := by decide +kernel
theorem dX7_byteAt_14 : decode cX7_byteAt 14 = .ok (.iconst 1, 1) := by decide +kernel
theorem dX7_byteAt_15 : decode cX7_byteAt 15 = .ok (.iadd, 1) := by decide +kernel
theorem dX7_byteAt_16 : decode cX7_byteAt 16 = .ok (.istore 5, 2) := by decide +kernel
theorem dX7_byteAt_18 : decode cX7_byteAt 18 = .ok (.iload 5, 2) := by decide +kernel
theorem dX7_byteAt_20 : decode cX7_byteAt 20 = .ok (.iload_n 3, 1) := by decide +kernel
theorem dX7_byteAt_21 : decode cX7_byteAt 21 = .ok (.bipush 16, 2) := by decide +kernel
theorem dX7_byteAt_23 : decode cX7_byteAt 23 = .ok (.iadd, 1) := by decide +kernel
theorem dX7_byteAt_24 : decode cX7_byteAt 24 = .ok (.if_icmp .ge 32, 3) := by decide +kernel
theorem dX7_byteAt_27 : decode cX7_byteAt 27 = .ok (.iload 5, 2) := by decide +kernel
theorem dX7_byteAt_29 : decode cX7_byteAt 29 = .ok (.aload_n 1, 1) := by decide +kernel
theorem dX7_byteAt_30 : decode cX7_byteAt 30 = .ok (.getfield 63, 3) := by decide +kernel
theorem dX7_byteAt_33 : decode cX7_byteAt 33 = .ok (.if_icmp .ge 23, 3) := by decide +kernel
theorem dX7_byteAt_36 : decode cX7_byteAt 36 = .ok (.iload 4, 2) := by decide +kernel
theorem dX7_byteAt_38 : decode cX7_byteAt 38 = .ok (.iconst 1, 1) := by decide +kernel
theorem dX7_byteAt_39 : decode cX7_byteAt 39 = .ok (.ishl, 1) := by decide +kernel
theorem dX7_byteAt_40 : decode cX7_byteAt 40 = .ok (.aload_n 1, 1) := by decide +kernel
theorem dX7_byteAt_41 : decode cX7_byteAt 41 = .ok (.getfield 66, 3) := by decide +kernel
theorem dX7_byteAt_44 : decode cX7_byteAt 44 = .ok (.iload 5, 2) := by decide +kernel
theorem dX7_byteAt_46 : decode cX7_byteAt 46 = .ok (.iaload, 1) := by decide +kernel
theorem dX7_byteAt_47 : decode cX7_byteAt 47 = .ok (.ior, 1) := by decide +kernel
theorem dX7_byteAt_48 : decode cX7_byteAt 48 = .ok (.istore 4, 2) := by decide +kernel
theorem dX7_byteAt_50 : decode cX7_byteAt 50 = .ok (.iinc 5 2, 3) := by decide +kernel
theorem dX7_byteAt_53 : decode cX7_byteAt 53 = .ok (.goto (-35), 3) := by decide +kernel
theorem dX7_byteAt_56 : decode cX7_byteAt 56 = .ok (.iload 4, 2) := by decide +kernel
theorem dX7_byteAt_58 : decode cX7_byteAt 58 = .ok (.ireturn, 1) := by decide +kernel
theorem dX7_slipsIn_0 : decode cX7_slipsIn 0 = .ok (.aload_n 0, 1) := by decide +kernel
theorem dX7_slipsIn_1 : decode cX7_slipsIn 1 = .ok (.getfield 22, 3) := by decide +kernel
theorem dX7_slipsIn_4 : decode cX7_slipsIn 4 = .ok (.iconst 4, 1) := by decide +kernel
theorem dX7_slipsIn_5 : decode cX7_slipsIn 5 = .ok (.aload_n 2, 1) := by decide +kernel
theorem dX7_slipsIn_6 : decode cX7_slipsIn 6 = .ok (.getfield 44, 3) := by decide +kernel
theorem dX7_slipsIn_9 : decode cX7_slipsIn 9 = .ok (.iadd, 1) := by decide +kernel
theorem dX7_slipsIn_10 : decode cX7_slipsIn 10 = .ok (.bipush 16, 2) := by decide +kernel
theorem dX7_slipsIn_12 : decode cX7_slipsIn 12 = .ok (.imul, 1) := by decide +kernel
theorem dX7_slipsIn_13 : decode cX7_slipsIn 13 = .ok (.iadd, 1) := by decide +kernel
theorem dX7_slipsIn_14 : decode cX7_slipsIn 14 = .ok (.istore_n 3, 1) := by decide +kernel
theorem dX7_slipsIn_15 : decode cX7_slipsIn 15 = .ok (.iconst 0, 1) := by decide +kernel
theorem dX7_slipsIn_16 : decode cX7_slipsIn 16 = .ok (.istore 4, 2) := by decide +kernel
theorem dX7_slipsIn_18 : decode cX7_slipsIn 18 = .ok (.aload_n 2, 1) := by decide +kernel
theorem dX7_slipsIn_19 : decode cX7_slipsIn 19 = .ok (.getfield 69, 3) := by decide +kernel
theorem dX7_slipsIn_22 : decode cX7_slipsIn 22 = .ok (.iconst 1, 1) := by decide +kernel
theorem dX7_slipsIn_23 : decode cX7_slipsIn 23 = .ok (.iand, 1) := by decide +kernel
theorem dX7_slipsIn_24 : decode cX7_slipsIn 24 = .ok (.istore 5, 2) := by decide +kernel
theorem dX7_slipsIn_26 : decode cX7_slipsIn 26 = .ok (.aload_n 0, 1) := by decide +kernel
theorem dX7_slipsIn_27 : decode cX7_slipsIn 27 = .ok (.getfield 22, 3) := by decide +kernel
theorem dX7_slipsIn_30 : decode cX7_slipsIn 30 = .ok (.istore 6, 2) := by decide +kernel
theorem dX7_slipsIn_32 : decode cX7_slipsIn 32 = .ok (.iload 6, 2) := by decide +kernel
theorem dX7_slipsIn_34 : decode cX7_slipsIn 34 = .ok (.iconst 1, 1) := by decide +kernel
theorem dX7_slipsIn_35 : decode cX7_slipsIn 35 = .ok (.iadd, 1) := by decide +kernel
theorem dX7_slipsIn_36 : decode cX7_slipsIn 36 = .ok (.iload_n 3, 1) := by decide +kernel
theorem dX7_slipsIn_37 : decode cX7_slipsIn 37 = .ok (.if_icmp .ge 55, 3) := by decide +kernel
theorem dX7_slipsIn_40 : decode cX7_slipsIn 40 = .ok (.iload 6, 2) := by decide +kernel
theorem dX7_slipsIn_42 : decode cX7_slipsIn 42 = .ok (.iconst 1, 1) := by decide +kernel
theorem dX7_slipsIn_43 : decode cX7_slipsIn 43 = .ok (.iadd, 1) := by decide +kernel
theorem dX7_slipsIn_44 : decode cX7_slipsIn 44 = .ok (.aload_n 1, 1) := by decide +kernel
theorem dX7_slipsIn_45 : decode cX7_slipsIn 45 = .ok (.getfield 63, 3) := by decide +kernel
theorem dX7_slipsIn_48 : decode cX7_slipsIn 48 = .ok (.if_icmp .ge 44, 3) := by decide +kernel
theorem dX7_slipsIn_51 : decode cX7_slipsIn 51 = .ok (.aload_n 1, 1) := by decide +kernel
theorem dX7_slipsIn_52 : decode cX7_slipsIn 52 = .ok (.getfield 66, 3) := by decide +kernel
theorem dX7_slipsIn_55 : decode cX7_slipsIn 55 = .ok (.iload 6, 2) := by decide +kernel
theorem dX7_slipsIn_57 : decode cX7_slipsIn 57 = .ok (.iconst 1, 1) := by decide +kernel
theorem dX7_slipsIn_58 : decode cX7_slipsIn 58 = .ok (.iadd, 1) := by decide +kernel
theorem dX7_slipsIn_59 : decode cX7_slipsIn 59 = .ok (.iaload, 1) := by decide +kernel
theorem dX7_slipsIn_60 : decode cX7_slipsIn 60 = .ok (.istore 7, 2) := by decide +kernel
theorem dX7_slipsIn_62 : decode cX7_slipsIn 62 = .ok (.aload_n 1, 1) := by decide +kernel
theorem dX7_slipsIn_63 : decode cX7_slipsIn 63 = .ok (.getfield 66, 3) := by decide +kernel
theorem dX7_slipsIn_66 : decode cX7_slipsIn 66 = .ok (.iload 6, 2) := by decide +kernel
theorem dX7_slipsIn_68 : decode cX7_slipsIn 68 = .ok (.iaload, 1) := by decide +kernel
theorem dX7_slipsIn_69 : decode cX7_slipsIn 69 = .ok (.iload 5, 2) := by decide +kernel
theorem dX7_slipsIn_71 : decode cX7_slipsIn 71 = .ok (.iload 7, 2) := by decide +kernel
theorem dX7_slipsIn_73 : decode cX7_slipsIn 73 = .ok (.invokestatic 72, 3) := by decide +kernel
theorem dX7_slipsIn_76 : decode cX7_slipsIn 76 = .ok (.if_icmp .eq 6, 3) := by decide +kernel
theorem dX7_slipsIn_79 : decode cX7_slipsIn 79 = .ok (.iinc 4 1, 3) := by decide +kernel
theorem dX7_slipsIn_82 : decode cX7_slipsIn 82 = .ok (.iload 7, 2) := by decide +kernel
theorem dX7_slipsIn_84 : decode cX7_slipsIn 84 = .ok (.istore 5, 2) := by decide +kernel
theorem dX7_slipsIn_86 : decode cX7_slipsIn 86 = .ok (.iinc 6 2, 3) := by decide +kernel
theorem dX7_slipsIn_89 : decode cX7_slipsIn 89 = .ok (.goto (-57), 3) := by decide +kernel
theorem dX7_slipsIn_92 : decode cX7_slipsIn 92 = .ok (.iload 4, 2) := by decide +kernel
theorem dX7_slipsIn_94 : decode cX7_slipsIn 94 = .ok (.ireturn, 1) := by decide +kernel
theorem dX8_init_0 : decode cX8_init 0 = .ok (.aload_n 0, 1) := by decide +kernel
theorem dX8_init_1 : decode cX8_init 1 = .ok (.invokespecial 3, 3) := by decide +kernel
theorem dX8_init_4 : decode cX8_init 4 = .ok (.aload_n 0, 1) := by decide +kernel
theorem dX8_init_5 : decode cX8_init 5 = .ok (.bipush 10, 2) := by decide +kernel
theorem dX8_init_7 : decode cX8_init 7 = .ok (.anewarray 9, 3) := by decide +kernel
theorem dX8_init_10 : decode cX8_init 10 = .ok (.putfield 11, 3) := by decide +kernel
theorem dX8_init_13 : decode cX8_init 13 = .ok (.aload_n 0, 1) := by decide +kernel
theorem dX8_init_14 : decode cX8_init 14 = .ok (.new 17, 3) := by decide +kernel
theorem dX8_init_17 : decode cX8_init 17 = .ok (.dup, 1) := by decide +kernel
theorem dX8_init_18 : decode cX8_init 18 = .ok (.invokespecial 19, 3) := by decide +kernel
theorem dX8_init_21 : decode cX8_init 21 = .ok (.putfield 20, 3) := by decide +kernel
theorem dX8_init_24 : decode cX8_init 24 = .ok (.iconst 0, 1) := by decide +kernel
theorem dX8_init_25 : decode cX8_init 25 = .ok (.istore_n 1, 1) := by decide +kernel
theorem dX8_init_26 : decode cX8_init 26 = .ok (.iload_n 1, 1) := by decide +kernel
theorem dX8_init_27 : decode cX8_init 27 = .ok (.bipush 10, 2) := by decide +kernel
theorem dX8_init_29 : decode cX8_init 29 = .ok (.if_icmp .ge 22, 3) := by decide +kernel
theorem dX8_init_32 : decode cX8_init 32 = .ok (.aload_n 0, 1) := by decide +kernel
theorem dX8_init_33 : decode cX8_init 33 = .ok (.getfield 11, 3) := by decide +kernel
theorem dX8_init_36 : decode cX8_init 36 = .ok (.iload_n 1, 1) := by decide +kernel
theorem dX8_init_37 : decode cX8_init 37 = .ok (.new 9, 3) := by decide +kernel
theorem dX8_init_40 : decode cX8_init 40 = .ok (.dup, 1) := by decide +kernel
theorem dX8_init_41 : decode cX8_init 41 = .ok (.invokespecial 24, 3) := by decide +kernel
theorem dX8_init_44 : decode cX8_init 44 = .ok (.aastore, 1) := by decide +kernel
theorem dX8_init_45 : decode cX8_init 45 = .ok (.iinc 1 1, 3) := by decide +kernel
theorem dX8_init_48 : decode cX8_init 48 = .ok (.goto (-22), 3) := by decide +kernel
theorem dX8_init_51 : decode cX8_init 51 = .ok (.return_, 1) := by decide +kernel
theorem dX8_holds_0 : decode cX8_holds 0 = .ok (.iload_n 1, 1) := by decide +kernel
theorem dX8_holds_1 : decode cX8_holds 1 = .ok (.ifCond .lt 15, 3) := by decide +kernel
theorem dX8_holds_4 : decode cX8_holds 4 = .ok (.iload_n 1, 1) := by decide +kernel
theorem dX8_holds_5 : decode cX8_holds 5 = .ok (.aload_n 0, 1) := by decide +kernel
theorem dX8_holds_6 : decode cX8_holds 6 = .ok (.getfield 25, 3) := by decide +kernel
theorem dX8_holds_9 : decode cX8_holds 9 = .ok (.if_icmp .ge 7, 3) := by decide +kernel
theorem dX8_holds_12 : decode cX8_holds 12 = .ok (.iconst 1, 1) := by decide +kernel
theorem dX8_holds_13 : decode cX8_holds 13 = .ok (.goto 4, 3) := by decide +kernel
theorem dX8_holds_16 : decode cX8_holds 16 = .ok (.iconst 0, 1) := by decide +kernel
theorem dX8_holds_17 : decode cX8_holds 17 = .ok (.ireturn, 1) := by decide +kernel
theorem dX8_put_0 : decode cX8_put 0 = .ok (.aload_n 0, 1) := by decide +kernel
theorem dX8_put_1 : decode cX8_put 1 = .ok (.getfield 25, 3) := by decide +kernel
theorem dX8_put_4 : decode cX8_put 4 = .ok (.bipush 10, 2) := by decide +kernel
theorem dX8_put_6 : decode cX8_put 6 = .ok (.if_icmp .lt 4, 3) := by decide +kernel
theorem dX8_put_9 : decode cX8_put 9 = .ok (.return_, 1) := by decide +kernel
theorem dX8_put_10 : decode cX8_put 10 = .ok (.aload_n 0, 1) := by decide +kernel
theorem dX8_put_11 : decode cX8_put 11 = .ok (.getfield 11, 3) := by decide +kernel
theorem dX8_put_14 : decode cX8_put 14 = .ok (.aload_n 0, 1) := by decide +kernel
theorem dX8_put_15 : decode cX8_put 15 = .ok (.getfield 25, 3) := by decide +kernel
theorem dX8_put_18 : decode cX8_put 18 = .ok (.aaload, 1) := by decide +kernel
theorem dX8_put_19 : decode cX8_put 19 = .ok (.astore 5, 2) := by decide +kernel
theorem dX8_put_21 : decode cX8_put 21 = .ok (.aload 5, 2) := by decide +kernel
theorem dX8_put_23 : decode cX8_put 23 = .ok (.getfield 29, 3) := by decide +kernel
theorem dX8_put_26 : decode cX8_put 26 = .ok (.aload_n 1, 1) := by decide +kernel
theorem dX8_put_27 : decode cX8_put 27 = .ok (.invokevirtual 33, 3) := by decide +kernel
theorem dX8_put_30 : decode cX8_put 30 = .ok (.aload 5, 2) := by decide +kernel
theorem dX8_put_32 : decode cX8_put 32 = .ok (.iload_n 2, 1) := by decide +kernel
theorem dX8_put_33 : decode cX8_put 33 = .ok (.putfield 39, 3) := by decide +kernel
theorem dX8_put_36 : decode cX8_put 36 = .ok (.aload 5, 2) := by decide +kernel
theorem dX8_put_38 : decode cX8_put 38 = .ok (.iconst 0, 1) := by decide +kernel
theorem dX8_put_39 : decode cX8_put 39 = .ok (.putfield 42, 3) := by decide +kernel
theorem dX8_put_42 : decode cX8_put 42 = .ok (.aload 4, 2) := by decide +kernel
theorem dX8_put_44 : decode cX8_put 44 = .ok (.aload_n 1, 1) := by decide +kernel
theorem dX8_put_45 : decode cX8_put 45 = .ok (.aload_n 3, 1) := by decide +kernel
theorem dX8_put_46 : decode cX8_put 46 = .ok (.getfield 46, 3) := by decide +kernel
theorem dX8_put_49 : decode cX8_put 49 = .ok (.aload_n 3, 1) := by decide +kernel
theorem dX8_put_50 : decode cX8_put 50 = .ok (.getfield 51, 3) := by decide +kernel
theorem dX8_put_53 : decode cX8_put 53 = .ok (.invokevirtual 54, 3) := by decide +kernel
theorem dX8_put_56 : decode cX8_put 56 = .ok (.aload 5, 2) := by decide +kernel
theorem dX8_put_58 : decode cX8_put 58 = .ok (.getfield 60, 3) := by decide +kernel
theorem dX8_put_61 : decode cX8_put 61 = .ok (.aload 4, 2) := by decide +kernel
theorem dX8_put_63 : decode cX8_put 63 = .ok (.aload_n 3, 1) := by decide +kernel
theorem dX8_put_64 : decode cX8_put 64 = .ok (.invokevirtual 63, 3) := by decide +kernel
theorem dX8_put_67 : decode cX8_put 67 = .ok (.aload_n 0, 1) := by decide +kernel
theorem dX8_put_68 : decode cX8_put 68 = .ok (.dup, 1) := by decide +kernel
theorem dX8_put_69 : decode cX8_put 69 = .ok (.getfield 25, 3) := by decide +kernel
theorem dX8_put_72 : decode cX8_put 72 = .ok (.iconst 1, 1) := by decide +kernel
theorem dX8_put_73 : decode cX8_put 73 = .ok (.iadd, 1) := by decide +kernel
theorem dX8_put_74 : decode cX8_put 74 = .ok (.putfield 25, 3) := by decide +kernel
theorem dX8_put_77 : decode cX8_put 77 = .ok (.return_, 1) := by decide +kernel
theorem dX8_tune_0 : decode cX8_tune 0 = .ok (.aload_n 0, 1) := by decide +kernel
theorem dX8_tune_1 : decode cX8_tune 1 = .ok (.iload_n 1, 1) := by decide +kernel
theorem dX8_tune_2 : decode cX8_tune 2 = .ok (.invokevirtual 67, 3) := by decide +kernel
theorem dX8_tune_5 : decode cX8_tune 5 = .ok (.ifCond .eq 15, 3) := by decide +kernel
theorem dX8_tune_8 : decode cX8_tune 8 = .ok (.aload_n 0, 1) := by decide +kernel
theorem dX8_tune_9 : decode cX8_tune 9 = .ok (.getfield 11, 3) := by decide +kernel
theorem dX8_tune_12 : decode cX8_tune 12 = .ok (.iload_n 1, 1) := by decide +kernel
theorem dX8_tune_13 : decode cX8_tune 13 = .ok (.aaload, 1) := by decide +kernel
theorem dX8_tune_14 : decode cX8_tune 14 = .ok (.getfield 42, 3) := by decide +kernel
theorem dX8_tune_17 : decode cX8_tune 17 = .ok (.ifCond .eq 4, 3) := by decide +kernel
theorem dX8_tune_20 : decode cX8_tune 20 = .ok (.return_, 1) := by decide +kernel
theorem dX8_tune_21 : decode cX8_tune 21 = .ok (.aload_n 0, 1) := by decide +kernel
theorem dX8_tune_22 : decode cX8_tune 22 = .ok (.getfield 11, 3) := by decide +kernel
theorem dX8_tune_25 : decode cX8_tune 25 = .ok (.iload_n 1, 1) := by decide +kernel
theorem dX8_tune_26 : decode cX8_tune 26 = .ok (.aaload, 1) := by decide +kernel
theorem dX8_tune_27 : decode cX8_tune 27 = .ok (.astore 4, 2) := by decide +kernel
theorem dX8_tune_29 : decode cX8_tune 29 = .ok (.aload 4, 2) := by decide +kernel
theorem dX8_tune_31 : decode cX8_tune 31 = .ok (.iconst 1, 1) := by decide +kernel
theorem dX8_tune_32 : decode cX8_tune 32 = .ok (.putfield 42, 3) := by decide +kernel
theorem dX8_tune_35 : decode cX8_tune 35 = .ok (.aload 4, 2) := by decide +kernel
theorem dX8_tune_37 : decode cX8_tune 37 = .ok (.iconst (-1), 1) := by decide +kernel
theorem dX8_tune_38 : decode cX8_tune 38 = .ok (.putfield 71, 3) := by decide +kernel
theorem dX8_tune_41 : decode cX8_tune 41 = .ok (.bipush 8, 2) := by decide +kernel
theorem dX8_tune_43 : decode cX8_tune 43 = .ok (.aload_n 2, 1) := by decide +kernel
theorem dX8_tune_44 : decode cX8_tune 44 = .ok (.getfield 46, 3) := by decide +kernel
theorem dX8_tune_47 : decode cX8_tune 47 = .ok (.bipush 6, 2) := by decide +kernel
theorem dX8_tune_49 : decode cX8_tune 49 = .ok (.isub, 1) := by decide +kernel
theorem dX8_tune_50 : decode cX8_tune 50 = .ok (.invokestatic 74, 3) := by decide +kernel
theorem dX8_tune_53 : decode cX8_tune 53 = .ok (.istore 5, 2) := by decide +kernel
theorem dX8_tune_55 : decode cX8_tune 55 = .ok (.bipush 60, 2) := by decide +kernel
theorem dX8_tune_57 : decode cX8_tune 57 = .ok (.aload_n 2, 1) := by decide +kernel
theorem dX8_tune_58 : decode cX8_tune 58 = .ok (.getfield 46, 3) := by decide +kernel
theorem dX8_tune_61 : decode cX8_tune 61 = .ok (.bipush 6, 2) := by decide +kernel
theorem dX8_tune_63 : decode cX8_tune 63 = .ok (.iadd, 1) := by decide +kernel
theorem dX8_tune_64 : decode cX8_tune 64 = .ok (.invokestatic 80, 3) := by decide +kernel
theorem dX8_tune_67 : decode cX8_tune 67 = .ok (.istore 6, 2) := by decide +kernel
theorem dX8_tune_69 : decode cX8_tune 69 = .ok (.iload 5, 2) := by decide +kernel
theorem dX8_tune_71 : decode cX8_tune 71 = .ok (.istore 7, 2) := by decide +kernel
theorem dX8_tune_73 : decode cX8_tune 73 = .ok (.iload 7, 2) := by decide +kernel
theorem dX8_tune_75 : decode cX8_tune 75 = .ok (.iload 6, 2) := by decide +kernel
theorem dX8_tune_77 : decode cX8_tune 77 = .ok (.if_icmp .gt 57, 3) := by decide +kernel
theorem dX8_tune_80 : decode cX8_tune 80 = .ok (.iconst 0, 1) := by decide +kernel
theorem dX8_tune_81 : decode cX8_tune 81 = .ok (.istore 8, 2) := by decide +kernel
theorem dX8_tune_83 : decode cX8_tune 83 = .ok (.iload 8, 2) := by decide +kernel
theorem dX8_tune_85 : decode cX8_tune 85 = .ok (.bipush 8, 2) := by decide +kernel
theorem dX8_tune_87 : decode cX8_tune 87 = .ok (.if_icmp .gt 41, 3) := by decide +kernel
theorem dX8_tune_90 : decode cX8_tune 90 = .ok (.aload_n 3, 1) := by decide +kernel
theorem dX8_tune_91 : decode cX8_tune 91 = .ok (.aload 4, 2) := by decide +kernel
theorem dX8_tune_93 : decode cX8_tune 93 = .ok (.getfield 29, 3) := by decide +kernel
theorem dX8_tune_96 : decode cX8_tune 96 = .ok (.iload 7, 2) := by decide +kernel
theorem dX8_tune_98 : decode cX8_tune 98 = .ok (.iload 8, 2) := by decide +kernel
theorem dX8_tune_100 : decode cX8_tune 100 = .ok (.invokevirtual 54, 3) := by decide +kernel
theorem dX8_tune_103 : decode cX8_tune 103 = .ok (.aload_n 0, 1) := by decide +kernel
theorem dX8_tune_104 : decode cX8_tune 104 = .ok (.getfield 20, 3) := by decide +kernel
theorem dX8_tune_107 : decode cX8_tune 107 = .ok (.aload_n 3, 1) := by decide +kernel
theorem dX8_tune_108 : decode cX8_tune 108 = .ok (.aload_n 2, 1) := by decide +kernel
theorem dX8_tune_109 : decode cX8_tune 109 = .ok (.invokevirtual 63, 3) := by decide +kernel
theorem dX8_tune_112 : decode cX8_tune 112 = .ok (.aload_n 0, 1) := by decide +kernel
theorem dX8_tune_113 : decode cX8_tune 113 = .ok (.aload 4, 2) := by decide +kernel
theorem dX8_tune_115 : decode cX8_tune 115 = .ok (.iload 7, 2) := by decide +kernel
theorem dX8_tune_117 : decode cX8_tune 117 = .ok (.iload 8, 2) := by decide +kernel
theorem dX8_tune_119 : decode cX8_tune 119 = .ok (.invokevirtual 83, 3) := by decide +kernel
theorem dX8_tune_122 : decode cX8_tune 122 = .ok (.iinc 8 1, 3) := by decide +kernel
theorem dX8_tune_125 : decode cX8_tune 125 = .ok (.goto (-42), 3) := by decide +kernel
theorem dX8_tune_128 : decode cX8_tune 128 = .ok (.iinc 7 1, 3) := by decide +kernel
theorem dX8_tune_131 : decode cX8_tune 131 = .ok (.goto (-58), 3) := by decide +kernel
theorem dX8_tune_134 : decode cX8_tune 134 = .ok (.return_, 1) := by decide +kernel
theorem dX8_keepBetter_0 : decode cX8_keepBetter 0 = .ok (.aload_n 0, 1) := by decide +kernel
theorem dX8_keepBetter_1 : decode cX8_keepBetter 1 = .ok (.getfield 20, 3) := by decide +kernel
theorem dX8_keepBetter_4 : decode cX8_keepBetter 4 = .ok (.invokevirtual 87, 3) := by decide +kernel
theorem dX8_keepBetter_7 : decode cX8_keepBetter 7 = .ok (.istore 4, 2) := by decide +kernel
theorem dX8_keepBetter_9 : decode cX8_keepBetter 9 = .ok (.aload_n 0, 1) := by decide +kernel
theorem dX8_keepBetter_10 : decode cX8_keepBetter 10 = .ok (.getfield 20, 3) := by decide +kernel
theorem dX8_keepBetter_13 : decode cX8_keepBetter 13 = .ok (.invokevirtual 91, 3) := by decide +kernel
theorem dX8_keepBetter_16 : decode cX8_keepBetter 16 = .ok (.istore 5, 2) := by decide +kernel
theorem dX8_keepBetter_18 : decode cX8_keepBetter 18 = .ok (.iload 4, 2) := by decide +kernel
theorem dX8_keepBetter_20 : decode cX8_keepBetter 20 = .ok (.aload_n 1, 1) := by decide +kernel
theorem dX8_keepBetter_21 : decode cX8_keepBetter 21 = .ok (.getfield 71, 3) := by decide +kernel
theorem dX8_keepBetter_24 : decode cX8_keepBetter 24 = .ok (.if_icmp .gt 21, 3) := by decide +kernel
theorem dX8_keepBetter_27 : decode cX8_keepBetter 27 = .ok (.iload 4, 2) := by decide +kernel
theorem dX8_keepBetter_29 : decode cX8_keepBetter 29 = .ok (.aload_n 1, 1) := by decide +kernel
theorem dX8_keepBetter_30 : decode cX8_keepBetter 30 = .ok (.getfield 71, 3) := by decide +kernel
theorem dX8_keepBetter_33 : decode cX8_keepBetter 33 = .ok (.if_icmp .ne 34, 3) := by decide +kernel
theorem dX8_keepBetter_36 : decode cX8_keepBetter 36 = .ok (.iload 5, 2) := by decide +kernel
theorem dX8_keepBetter_38 : decode cX8_keepBetter 38 = .ok (.aload_n 1, 1) := by decide +kernel
theorem dX8_keepBetter_39 : decode cX8_keepBetter 39 = .ok (.getfield 94, 3) := by decide +kernel
theorem dX8_keepBetter_42 : decode cX8_keepBetter 42 = .ok (.if_icmp .ge 25, 3) := by decide +kernel
theorem dX8_keepBetter_45 : decode cX8_keepBetter 45 = .ok (.aload_n 1, 1) := by decide +kernel

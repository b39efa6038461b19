theorem dX8_keepBetter_46 : decode cX8_keepBetter 46 = .ok (.iload_n 2, 1) := by decide +kernel
theorem dX8_keepBetter_47 : decode cX8_keepBetter 47 = .ok (.putfield 97, 3) := by decide +kernel
theorem dX8_keepBetter_50 : decode cX8_keepBetter 50 = .ok (.aload_n 1, 1) := by decide +kernel
theorem dX8_keepBetter_51 : decode cX8_keepBetter 51 = .ok (.iload_n 3, 1) := by decide +kernel
theorem dX8_keepBetter_52 : decode cX8_keepBetter 52 = .ok (.putfield 100, 3) := by decide +kernel
theorem dX8_keepBetter_55 : decode cX8_keepBetter 55 = .ok (.aload_n 1, 1) := by decide +kernel
theorem dX8_keepBetter_56 : decode cX8_keepBetter 56 = .ok (.iload 4, 2) := by decide +kernel
theorem dX8_keepBetter_58 : decode cX8_keepBetter 58 = .ok (.putfield 71, 3) := by decide +kernel
theorem dX8_keepBetter_61 : decode cX8_keepBetter 61 = .ok (.aload_n 1, 1) := by decide +kernel
theorem dX8_keepBetter_62 : decode cX8_keepBetter 62 = .ok (.iload 5, 2) := by decide +kernel
theorem dX8_keepBetter_64 : decode cX8_keepBetter 64 = .ok (.putfield 94, 3) := by decide +kernel
theorem dX8_keepBetter_67 : decode cX8_keepBetter 67 = .ok (.return_, 1) := by decide +kernel
theorem dX8_hopeOf_0 : decode cX8_hopeOf 0 = .ok (.iconst 0, 1) := by decide +kernel
theorem dX8_hopeOf_1 : decode cX8_hopeOf 1 = .ok (.istore_n 2, 1) := by decide +kernel
theorem dX8_hopeOf_2 : decode cX8_hopeOf 2 = .ok (.iconst 0, 1) := by decide +kernel
theorem dX8_hopeOf_3 : decode cX8_hopeOf 3 = .ok (.istore_n 3, 1) := by decide +kernel
theorem dX8_hopeOf_4 : decode cX8_hopeOf 4 = .ok (.iconst 0, 1) := by decide +kernel
theorem dX8_hopeOf_5 : decode cX8_hopeOf 5 = .ok (.istore 4, 2) := by decide +kernel
theorem dX8_hopeOf_7 : decode cX8_hopeOf 7 = .ok (.iconst 0, 1) := by decide +kernel
theorem dX8_hopeOf_8 : decode cX8_hopeOf 8 = .ok (.istore 5, 2) := by decide +kernel
theorem dX8_hopeOf_10 : decode cX8_hopeOf 10 = .ok (.iload 5, 2) := by decide +kernel
theorem dX8_hopeOf_12 : decode cX8_hopeOf 12 = .ok (.aload_n 0, 1) := by decide +kernel
theorem dX8_hopeOf_13 : decode cX8_hopeOf 13 = .ok (.getfield 25, 3) := by decide +kernel
theorem dX8_hopeOf_16 : decode cX8_hopeOf 16 = .ok (.if_icmp .ge 60, 3) := by decide +kernel
theorem dX8_hopeOf_19 : decode cX8_hopeOf 19 = .ok (.aload_n 0, 1) := by decide +kernel
theorem dX8_hopeOf_20 : decode cX8_hopeOf 20 = .ok (.getfield 11, 3) := by decide +kernel
theorem dX8_hopeOf_23 : decode cX8_hopeOf 23 = .ok (.iload 5, 2) := by decide +kernel
theorem dX8_hopeOf_25 : decode cX8_hopeOf 25 = .ok (.aaload, 1) := by decide +kernel
theorem dX8_hopeOf_26 : decode cX8_hopeOf 26 = .ok (.getfield 39, 3) := by decide +kernel
theorem dX8_hopeOf_29 : decode cX8_hopeOf 29 = .ok (.iload_n 1, 1) := by decide +kernel
theorem dX8_hopeOf_30 : decode cX8_hopeOf 30 = .ok (.if_icmp .ne 40, 3) := by decide +kernel
theorem dX8_hopeOf_33 : decode cX8_hopeOf 33 = .ok (.iinc 2 1, 3) := by decide +kernel
theorem dX8_hopeOf_36 : decode cX8_hopeOf 36 = .ok (.iload_n 3, 1) := by decide +kernel
theorem dX8_hopeOf_37 : decode cX8_hopeOf 37 = .ok (.aload_n 0, 1) := by decide +kernel
theorem dX8_hopeOf_38 : decode cX8_hopeOf 38 = .ok (.getfield 11, 3) := by decide +kernel
theorem dX8_hopeOf_41 : decode cX8_hopeOf 41 = .ok (.iload 5, 2) := by decide +kernel
theorem dX8_hopeOf_43 : decode cX8_hopeOf 43 = .ok (.aaload, 1) := by decide +kernel
theorem dX8_hopeOf_44 : decode cX8_hopeOf 44 = .ok (.getfield 60, 3) := by decide +kernel
theorem dX8_hopeOf_47 : decode cX8_hopeOf 47 = .ok (.getfield 103, 3) := by decide +kernel
theorem dX8_hopeOf_50 : decode cX8_hopeOf 50 = .ok (.iadd, 1) := by decide +kernel
theorem dX8_hopeOf_51 : decode cX8_hopeOf 51 = .ok (.istore_n 3, 1) := by decide +kernel
theorem dX8_hopeOf_52 : decode cX8_hopeOf 52 = .ok (.iload 4, 2) := by decide +kernel
theorem dX8_hopeOf_54 : decode cX8_hopeOf 54 = .ok (.aload_n 0, 1) := by decide +kernel
theorem dX8_hopeOf_55 : decode cX8_hopeOf 55 = .ok (.getfield 11, 3) := by decide +kernel
theorem dX8_hopeOf_58 : decode cX8_hopeOf 58 = .ok (.iload 5, 2) := by decide +kernel
theorem dX8_hopeOf_60 : decode cX8_hopeOf 60 = .ok (.aaload, 1) := by decide +kernel
theorem dX8_hopeOf_61 : decode cX8_hopeOf 61 = .ok (.getfield 60, 3) := by decide +kernel
theorem dX8_hopeOf_64 : decode cX8_hopeOf 64 = .ok (.invokevirtual 87, 3) := by decide +kernel
theorem dX8_hopeOf_67 : decode cX8_hopeOf 67 = .ok (.iadd, 1) := by decide +kernel
theorem dX8_hopeOf_68 : decode cX8_hopeOf 68 = .ok (.istore 4, 2) := by decide +kernel
theorem dX8_hopeOf_70 : decode cX8_hopeOf 70 = .ok (.iinc 5 1, 3) := by decide +kernel
theorem dX8_hopeOf_73 : decode cX8_hopeOf 73 = .ok (.goto (-63), 3) := by decide +kernel
theorem dX8_hopeOf_76 : decode cX8_hopeOf 76 = .ok (.iload_n 3, 1) := by decide +kernel
theorem dX8_hopeOf_77 : decode cX8_hopeOf 77 = .ok (.ifCond .le 13, 3) := by decide +kernel
theorem dX8_hopeOf_80 : decode cX8_hopeOf 80 = .ok (.bipush 100, 2) := by decide +kernel
theorem dX8_hopeOf_82 : decode cX8_hopeOf 82 = .ok (.iload 4, 2) := by decide +kernel
theorem dX8_hopeOf_84 : decode cX8_hopeOf 84 = .ok (.imul, 1) := by decide +kernel
theorem dX8_hopeOf_85 : decode cX8_hopeOf 85 = .ok (.iload_n 3, 1) := by decide +kernel
theorem dX8_hopeOf_86 : decode cX8_hopeOf 86 = .ok (.idiv, 1) := by decide +kernel
theorem dX8_hopeOf_87 : decode cX8_hopeOf 87 = .ok (.goto 5, 3) := by decide +kernel
theorem dX8_hopeOf_90 : decode cX8_hopeOf 90 = .ok (.bipush 50, 2) := by decide +kernel
theorem dX8_hopeOf_92 : decode cX8_hopeOf 92 = .ok (.istore 5, 2) := by decide +kernel
theorem dX8_hopeOf_94 : decode cX8_hopeOf 94 = .ok (.iload 5, 2) := by decide +kernel
theorem dX8_hopeOf_96 : decode cX8_hopeOf 96 = .ok (.bipush 10, 2) := by decide +kernel
theorem dX8_hopeOf_98 : decode cX8_hopeOf 98 = .ok (.iload_n 2, 1) := by decide +kernel
theorem dX8_hopeOf_99 : decode cX8_hopeOf 99 = .ok (.imul, 1) := by decide +kernel
theorem dX8_hopeOf_100 : decode cX8_hopeOf 100 = .ok (.isub, 1) := by decide +kernel
theorem dX8_hopeOf_101 : decode cX8_hopeOf 101 = .ok (.ireturn, 1) := by decide +kernel
theorem dX9_init_0 : decode cX9_init 0 = .ok (.aload_n 0, 1) := by decide +kernel
theorem dX9_init_1 : decode cX9_init 1 = .ok (.invokespecial 1, 3) := by decide +kernel
theorem dX9_init_4 : decode cX9_init 4 = .ok (.aload_n 0, 1) := by decide +kernel
theorem dX9_init_5 : decode cX9_init 5 = .ok (.new 7, 3) := by decide +kernel
theorem dX9_init_8 : decode cX9_init 8 = .ok (.dup, 1) := by decide +kernel
theorem dX9_init_9 : decode cX9_init 9 = .ok (.invokespecial 9, 3) := by decide +kernel
theorem dX9_init_12 : decode cX9_init 12 = .ok (.putfield 10, 3) := by decide +kernel
theorem dX9_init_15 : decode cX9_init 15 = .ok (.aload_n 0, 1) := by decide +kernel
theorem dX9_init_16 : decode cX9_init 16 = .ok (.new 16, 3) := by decide +kernel
theorem dX9_init_19 : decode cX9_init 19 = .ok (.dup, 1) := by decide +kernel
theorem dX9_init_20 : decode cX9_init 20 = .ok (.invokespecial 18, 3) := by decide +kernel
theorem dX9_init_23 : decode cX9_init 23 = .ok (.putfield 19, 3) := by decide +kernel
theorem dX9_init_26 : decode cX9_init 26 = .ok (.return_, 1) := by decide +kernel
theorem dX10_init_0 : decode cX10_init 0 = .ok (.aload_n 0, 1) := by decide +kernel
theorem dX10_init_1 : decode cX10_init 1 = .ok (.invokespecial 3, 3) := by decide +kernel
theorem dX10_init_4 : decode cX10_init 4 = .ok (.aload_n 0, 1) := by decide +kernel
theorem dX10_init_5 : decode cX10_init 5 = .ok (.sipush 320, 3) := by decide +kernel
theorem dX10_init_8 : decode cX10_init 8 = .ok (.newarray .int, 2) := by decide +kernel
theorem dX10_init_10 : decode cX10_init 10 = .ok (.putfield 9, 3) := by decide +kernel
theorem dX10_init_13 : decode cX10_init 13 = .ok (.return_, 1) := by decide +kernel
theorem dX10_push_0 : decode cX10_push 0 = .ok (.iconst 0, 1) := by decide +kernel
theorem dX10_push_1 : decode cX10_push 1 = .ok (.istore_n 2, 1) := by decide +kernel
theorem dX10_push_2 : decode cX10_push 2 = .ok (.iload_n 2, 1) := by decide +kernel
theorem dX10_push_3 : decode cX10_push 3 = .ok (.iconst 4, 1) := by decide +kernel
theorem dX10_push_4 : decode cX10_push 4 = .ok (.if_icmp .ge 49, 3) := by decide +kernel
theorem dX10_push_7 : decode cX10_push 7 = .ok (.iload_n 1, 1) := by decide +kernel
theorem dX10_push_8 : decode cX10_push 8 = .ok (.iload_n 2, 1) := by decide +kernel
theorem dX10_push_9 : decode cX10_push 9 = .ok (.invokestatic 15, 3) := by decide +kernel
theorem dX10_push_12 : decode cX10_push 12 = .ok (.istore_n 3, 1) := by decide +kernel
theorem dX10_push_13 : decode cX10_push 13 = .ok (.iload_n 3, 1) := by decide +kernel
theorem dX10_push_14 : decode cX10_push 14 = .ok (.ifCond .eq 33, 3) := by decide +kernel
theorem dX10_push_17 : decode cX10_push 17 = .ok (.aload_n 0, 1) := by decide +kernel
theorem dX10_push_18 : decode cX10_push 18 = .ok (.getfield 19, 3) := by decide +kernel
theorem dX10_push_21 : decode cX10_push 21 = .ok (.sipush 320, 3) := by decide +kernel
theorem dX10_push_24 : decode cX10_push 24 = .ok (.if_icmp .ge 23, 3) := by decide +kernel
theorem dX10_push_27 : decode cX10_push 27 = .ok (.aload_n 0, 1) := by decide +kernel
theorem dX10_push_28 : decode cX10_push 28 = .ok (.getfield 9, 3) := by decide +kernel
theorem dX10_push_31 : decode cX10_push 31 = .ok (.aload_n 0, 1) := by decide +kernel
theorem dX10_push_32 : decode cX10_push 32 = .ok (.getfield 19, 3) := by decide +kernel
theorem dX10_push_35 : decode cX10_push 35 = .ok (.iload_n 3, 1) := by decide +kernel
theorem dX10_push_36 : decode cX10_push 36 = .ok (.iastore, 1) := by decide +kernel
theorem dX10_push_37 : decode cX10_push 37 = .ok (.aload_n 0, 1) := by decide +kernel
theorem dX10_push_38 : decode cX10_push 38 = .ok (.dup, 1) := by decide +kernel
theorem dX10_push_39 : decode cX10_push 39 = .ok (.getfield 19, 3) := by decide +kernel
theorem dX10_push_42 : decode cX10_push 42 = .ok (.iconst 1, 1) := by decide +kernel
theorem dX10_push_43 : decode cX10_push 43 = .ok (.iadd, 1) := by decide +kernel
theorem dX10_push_44 : decode cX10_push 44 = .ok (.putfield 19, 3) := by decide +kernel
theorem dX10_push_47 : decode cX10_push 47 = .ok (.iinc 2 1, 3) := by decide +kernel
theorem dX10_push_50 : decode cX10_push 50 = .ok (.goto (-48), 3) := by decide +kernel
theorem dX10_push_53 : decode cX10_push 53 = .ok (.return_, 1) := by decide +kernel
theorem dX10_take_0 : decode cX10_take 0 = .ok (.aload_n 1, 1) := by decide +kernel
theorem dX10_take_1 : decode cX10_take 1 = .ok (.getfield 9, 3) := by decide +kernel
theorem dX10_take_4 : decode cX10_take 4 = .ok (.iconst 0, 1) := by decide +kernel
theorem dX10_take_5 : decode cX10_take 5 = .ok (.aload_n 0, 1) := by decide +kernel
theorem dX10_take_6 : decode cX10_take 6 = .ok (.getfield 9, 3) := by decide +kernel
theorem dX10_take_9 : decode cX10_take 9 = .ok (.iconst 0, 1) := by decide +kernel
theorem dX10_take_10 : decode cX10_take 10 = .ok (.aload_n 1, 1) := by decide +kernel
theorem dX10_take_11 : decode cX10_take 11 = .ok (.getfield 19, 3) := by decide +kernel
theorem dX10_take_14 : decode cX10_take 14 = .ok (.invokestatic 23, 3) := by decide +kernel
theorem dX10_take_17 : decode cX10_take 17 = .ok (.aload_n 0, 1) := by decide +kernel
theorem dX10_take_18 : decode cX10_take 18 = .ok (.aload_n 1, 1) := by decide +kernel
theorem dX10_take_19 : decode cX10_take 19 = .ok (.getfield 19, 3) := by decide +kernel
theorem dX10_take_22 : decode cX10_take 22 = .ok (.putfield 19, 3) := by decide +kernel
theorem dX10_take_25 : decode cX10_take 25 = .ok (.return_, 1) := by decide +kernel
theorem dX11_init_0 : decode cX11_init 0 = .ok (.aload_n 0, 1) := by decide +kernel
theorem dX11_init_1 : decode cX11_init 1 = .ok (.invokespecial 1, 3) := by decide +kernel
theorem dX11_init_4 : decode cX11_init 4 = .ok (.aload_n 0, 1) := by decide +kernel
theorem dX11_init_5 : decode cX11_init 5 = .ok (.new 7, 3) := by decide +kernel
theorem dX11_init_8 : decode cX11_init 8 = .ok (.dup, 1) := by decide +kernel
theorem dX11_init_9 : decode cX11_init 9 = .ok (.invokespecial 9, 3) := by decide +kernel
theorem dX11_init_12 : decode cX11_init 12 = .ok (.putfield 10, 3) := by decide +kernel
theorem dX11_init_15 : decode cX11_init 15 = .ok (.aload_n 0, 1) := by decide +kernel
theorem dX11_init_16 : decode cX11_init 16 = .ok (.new 16, 3) := by decide +kernel
theorem dX11_init_19 : decode cX11_init 19 = .ok (.dup, 1) := by decide +kernel
theorem dX11_init_20 : decode cX11_init 20 = .ok (.invokespecial 18, 3) := by decide +kernel
theorem dX11_init_23 : decode cX11_init 23 = .ok (.putfield 19, 3) := by decide +kernel
theorem dX11_init_26 : decode cX11_init 26 = .ok (.aload_n 0, 1) := by decide +kernel
theorem dX11_init_27 : decode cX11_init 27 = .ok (.new 16, 3) := by decide +kernel
theorem dX11_init_30 : decode cX11_init 30 = .ok (.dup, 1) := by decide +kernel
theorem dX11_init_31 : decode cX11_init 31 = .ok (.invokespecial 18, 3) := by decide +kernel
theorem dX11_init_34 : decode cX11_init 34 = .ok (.putfield 23, 3) := by decide +kernel
theorem dX11_init_37 : decode cX11_init 37 = .ok (.aload_n 0, 1) := by decide +kernel
theorem dX11_init_38 : decode cX11_init 38 = .ok (.new 26, 3) := by decide +kernel
theorem dX11_init_41 : decode cX11_init 41 = .ok (.dup, 1) := by decide +kernel
theorem dX11_init_42 : decode cX11_init 42 = .ok (.invokespecial 28, 3) := by decide +kernel
theorem dX11_init_45 : decode cX11_init 45 = .ok (.putfield 29, 3) := by decide +kernel
theorem dX11_init_48 : decode cX11_init 48 = .ok (.aload_n 0, 1) := by decide +kernel
theorem dX11_init_49 : decode cX11_init 49 = .ok (.new 33, 3) := by decide +kernel
theorem dX11_init_52 : decode cX11_init 52 = .ok (.dup, 1) := by decide +kernel
theorem dX11_init_53 : decode cX11_init 53 = .ok (.invokespecial 35, 3) := by decide +kernel
theorem dX11_init_56 : decode cX11_init 56 = .ok (.putfield 36, 3) := by decide +kernel
theorem dX11_init_59 : decode cX11_init 59 = .ok (.aload_n 0, 1) := by decide +kernel
theorem dX11_init_60 : decode cX11_init 60 = .ok (.new 40, 3) := by decide +kernel
theorem dX11_init_63 : decode cX11_init 63 = .ok (.dup, 1) := by decide +kernel
theorem dX11_init_64 : decode cX11_init 64 = .ok (.invokespecial 42, 3) := by decide +kernel
theorem dX11_init_67 : decode cX11_init 67 = .ok (.putfield 43, 3) := by decide +kernel
theorem dX11_init_70 : decode cX11_init 70 = .ok (.aload_n 0, 1) := by decide +kernel
theorem dX11_init_71 : decode cX11_init 71 = .ok (.new 47, 3) := by decide +kernel
theorem dX11_init_74 : decode cX11_init 74 = .ok (.dup, 1) := by decide +kernel
theorem dX11_init_75 : decode cX11_init 75 = .ok (.invokespecial 49, 3) := by decide +kernel
theorem dX11_init_78 : decode cX11_init 78 = .ok (.putfield 50, 3) := by decide +kernel
theorem dX11_init_81 : decode cX11_init 81 = .ok (.aload_n 0, 1) := by decide +kernel
theorem dX11_init_82 : decode cX11_init 82 = .ok (.new 54, 3) := by decide +kernel
theorem dX11_init_85 : decode cX11_init 85 = .ok (.dup, 1) := by decide +kernel
theorem dX11_init_86 : decode cX11_init 86 = .ok (.invokespecial 56, 3) := by decide +kernel
theorem dX11_init_89 : decode cX11_init 89 = .ok (.putfield 57, 3) := by decide +kernel
theorem dX11_init_92 : decode cX11_init 92 = .ok (.aload_n 0, 1) := by decide +kernel
theorem dX11_init_93 : decode cX11_init 93 = .ok (.new 61, 3) := by decide +kernel
theorem dX11_init_96 : decode cX11_init 96 = .ok (.dup, 1) := by decide +kernel
theorem dX11_init_97 : decode cX11_init 97 = .ok (.invokespecial 63, 3) := by decide +kernel
theorem dX11_init_100 : decode cX11_init 100 = .ok (.putfield 64, 3) := by decide +kernel
theorem dX11_init_103 : decode cX11_init 103 = .ok (.return_, 1) := by decide +kernel
theorem dX11_feed_0 : decode cX11_feed 0 = .ok (.aload_n 0, 1) := by decide +kernel
theorem dX11_feed_1 : decode cX11_feed 1 = .ok (.getfield 10, 3) := by decide +kernel
theorem dX11_feed_4 : decode cX11_feed 4 = .ok (.getfield 68, 3) := by decide +kernel
theorem dX11_feed_7 : decode cX11_feed 7 = .ok (.bipush 20, 2) := by decide +kernel
theorem dX11_feed_9 : decode cX11_feed 9 = .ok (.iadd, 1) := by decide +kernel
theorem dX11_feed_10 : decode cX11_feed 10 = .ok (.sipush 200, 3) := by decide +kernel
theorem dX11_feed_13 : decode cX11_feed 13 = .ok (.if_icmp .le 5, 3) := by decide +kernel
theorem dX11_feed_16 : decode cX11_feed 16 = .ok (.iconst (-1), 1) := by decide +kernel
theorem dX11_feed_17 : decode cX11_feed 17 = .ok (.ireturn, 1) := by decide +kernel
theorem dX11_feed_18 : decode cX11_feed 18 = .ok (.aload_n 0, 1) := by decide +kernel
theorem dX11_feed_19 : decode cX11_feed 19 = .ok (.getfield 10, 3) := by decide +kernel
theorem dX11_feed_22 : decode cX11_feed 22 = .ok (.iload_n 1, 1) := by decide +kernel
theorem dX11_feed_23 : decode cX11_feed 23 = .ok (.invokevirtual 72, 3) := by decide +kernel
theorem dX11_feed_26 : decode cX11_feed 26 = .ok (.aload_n 0, 1) := by decide +kernel
theorem dX11_feed_27 : decode cX11_feed 27 = .ok (.getfield 10, 3) := by decide +kernel
theorem dX11_feed_30 : decode cX11_feed 30 = .ok (.iload_n 2, 1) := by decide +kernel
theorem dX11_feed_31 : decode cX11_feed 31 = .ok (.invokevirtual 72, 3) := by decide +kernel
theorem dX11_feed_34 : decode cX11_feed 34 = .ok (.aload_n 0, 1) := by decide +kernel
theorem dX11_feed_35 : decode cX11_feed 35 = .ok (.getfield 10, 3) := by decide +kernel
theorem dX11_feed_38 : decode cX11_feed 38 = .ok (.iload_n 3, 1) := by decide +kernel
theorem dX11_feed_39 : decode cX11_feed 39 = .ok (.invokevirtual 72, 3) := by decide +kernel
theorem dX11_feed_42 : decode cX11_feed 42 = .ok (.aload_n 0, 1) := by decide +kernel
theorem dX11_feed_43 : decode cX11_feed 43 = .ok (.getfield 10, 3) := by decide +kernel
theorem dX11_feed_46 : decode cX11_feed 46 = .ok (.iload 4, 2) := by decide +kernel
theorem dX11_feed_48 : decode cX11_feed 48 = .ok (.invokevirtual 72, 3) := by decide +kernel
theorem dX11_feed_51 : decode cX11_feed 51 = .ok (.aload_n 0, 1) := by decide +kernel
theorem dX11_feed_52 : decode cX11_feed 52 = .ok (.getfield 10, 3) := by decide +kernel
theorem dX11_feed_55 : decode cX11_feed 55 = .ok (.iload 5, 2) := by decide +kernel
theorem dX11_feed_57 : decode cX11_feed 57 = .ok (.invokevirtual 72, 3) := by decide +kernel
theorem dX11_feed_60 : decode cX11_feed 60 = .ok (.aload_n 0, 1) := by decide +kernel
theorem dX11_feed_61 : decode cX11_feed 61 = .ok (.getfield 10, 3) := by decide +kernel
theorem dX11_feed_64 : decode cX11_feed 64 = .ok (.getfield 68, 3) := by decide +kernel
theorem dX11_feed_67 : decode cX11_feed 67 = .ok (.ireturn, 1) := by decide +kernel
theorem dX11_end_0 : decode cX11_end 0 = .ok (.iload_n 1, 1) := by decide +kernel
theorem dX11_end_1 : decode cX11_end 1 = .ok (.ifCond .lt 14, 3) := by decide +kernel
theorem dX11_end_4 : decode cX11_end 4 = .ok (.iload_n 1, 1) := by decide +kernel
theorem dX11_end_5 : decode cX11_end 5 = .ok (.aload_n 0, 1) := by decide +kernel
theorem dX11_end_6 : decode cX11_end 6 = .ok (.getfield 10, 3) := by decide +kernel
theorem dX11_end_9 : decode cX11_end 9 = .ok (.getfield 68, 3) := by decide +kernel
theorem dX11_end_12 : decode cX11_end 12 = .ok (.if_icmp .le 5, 3) := by decide +kernel
theorem dX11_end_15 : decode cX11_end 15 = .ok (.iconst 0, 1) := by decide +kernel
theorem dX11_end_16 : decode cX11_end 16 = .ok (.ireturn, 1) := by decide +kernel
theorem dX11_end_17 : decode cX11_end 17 = .ok (.aload_n 0, 1) := by decide +kernel
theorem dX11_end_18 : decode cX11_end 18 = .ok (.getfield 10, 3) := by decide +kernel
theorem dX11_end_21 : decode cX11_end 21 = .ok (.iload_n 1, 1) := by decide +kernel
theorem dX11_end_22 : decode cX11_end 22 = .ok (.putfield 68, 3) := by decide +kernel
theorem dX11_end_25 : decode cX11_end 25 = .ok (.iconst 1, 1) := by decide +kernel
theorem dX11_end_26 : decode cX11_end 26 = .ok (.ireturn, 1) := by decide +kernel
theorem dX11_fault_0 : decode cX11_fault 0 = .ok (.aload_n 0, 1) := by decide +kernel
theorem dX11_fault_1 : decode cX11_fault 1 = .ok (.getfield 10, 3) := by decide +kernel
theorem dX11_fault_4 : decode cX11_fault 4 = .ok (.aload_n 0, 1) := by decide +kernel
theorem dX11_fault_5 : decode cX11_fault 5 = .ok (.getfield 19, 3) := by decide +kernel
theorem dX11_fault_8 : decode cX11_fault 8 = .ok (.invokevirtual 76, 3) := by decide +kernel
theorem dX11_fault_11 : decode cX11_fault 11 = .ok (.ireturn, 1) := by decide +kernel
theorem dX11_format_0 : decode cX11_format 0 = .ok (.aload_n 0, 1) := by decide +kernel
theorem dX11_format_1 : decode cX11_format 1 = .ok (.getfield 10, 3) := by decide +kernel
theorem dX11_format_4 : decode cX11_format 4 = .ok (.aload_n 0, 1) := by decide +kernel
theorem dX11_format_5 : decode cX11_format 5 = .ok (.getfield 19, 3) := by decide +kernel
theorem dX11_format_8 : decode cX11_format 8 = .ok (.invokevirtual 76, 3) := by decide +kernel
theorem dX11_format_11 : decode cX11_format 11 = .ok (.iconst (-1), 1) := by decide +kernel
theorem dX11_format_12 : decode cX11_format 12 = .ok (.if_icmp .eq 5, 3) := by decide +kernel
theorem dX11_format_15 : decode cX11_format 15 = .ok (.iconst (-1), 1) := by decide +kernel
theorem dX11_format_16 : decode cX11_format 16 = .ok (.ireturn, 1) := by decide +kernel
theorem dX11_format_17 : decode cX11_format 17 = .ok (.aload_n 0, 1) := by decide +kernel
theorem dX11_format_18 : decode cX11_format 18 = .ok (.getfield 23, 3) := by decide +kernel
theorem dX11_format_21 : decode cX11_format 21 = .ok (.aload_n 0, 1) := by decide +kernel
theorem dX11_format_22 : decode cX11_format 22 = .ok (.getfield 19, 3) := by decide +kernel
theorem dX11_format_25 : decode cX11_format 25 = .ok (.invokevirtual 80, 3) := by decide +kernel
theorem dX11_format_28 : decode cX11_format 28 = .ok (.aload_n 0, 1) := by decide +kernel
theorem dX11_format_29 : decode cX11_format 29 = .ok (.getfield 10, 3) := by decide +kernel
theorem dX11_format_32 : decode cX11_format 32 = .ok (.iconst 0, 1) := by decide +kernel
theorem dX11_format_33 : decode cX11_format 33 = .ok (.putfield 68, 3) := by decide +kernel
theorem dX11_format_36 : decode cX11_format 36 = .ok (.aload_n 0, 1) := by decide +kernel
theorem dX11_format_37 : decode cX11_format 37 = .ok (.getfield 29, 3) := by decide +kernel
theorem dX11_format_40 : decode cX11_format 40 = .ok (.iconst 0, 1) := by decide +kernel
theorem dX11_format_41 : decode cX11_format 41 = .ok (.putfield 84, 3) := by decide +kernel
theorem dX11_format_44 : decode cX11_format 44 = .ok (.aload_n 0, 1) := by decide +kernel
theorem dX11_format_45 : decode cX11_format 45 = .ok (.getfield 43, 3) := by decide +kernel
theorem dX11_format_48 : decode cX11_format 48 = .ok (.iconst 0, 1) := by decide +kernel
theorem dX11_format_49 : decode cX11_format 49 = .ok (.putfield 85, 3) := by decide +kernel
theorem dX11_format_52 : decode cX11_format 52 = .ok (.aload_n 0, 1) := by decide +kernel
theorem dX11_format_53 : decode cX11_format 53 = .ok (.getfield 50, 3) := by decide +kernel
theorem dX11_format_56 : decode cX11_format 56 = .ok (.invokevirtual 86, 3) := by decide +kernel
theorem dX11_format_59 : decode cX11_format 59 = .ok (.aload_n 0, 1) := by decide +kernel
theorem dX11_format_60 : decode cX11_format 60 = .ok (.getfield 23, 3) := by decide +kernel
theorem dX11_format_63 : decode cX11_format 63 = .ok (.getfield 89, 3) := by decide +kernel
theorem dX11_format_66 : decode cX11_format 66 = .ok (.ireturn, 1) := by decide +kernel
theorem dX11_flux_0 : decode cX11_flux 0 = .ok (.iload_n 1, 1) := by decide +kernel
theorem dX11_flux_1 : decode cX11_flux 1 = .ok (.invokestatic 90, 3) := by decide +kernel
theorem dX11_flux_4 : decode cX11_flux 4 = .ok (.iload_n 2, 1) := by decide +kernel
theorem dX11_flux_5 : decode cX11_flux 5 = .ok (.invokestatic 90, 3) := by decide +kernel
theorem dX11_flux_8 : decode cX11_flux 8 = .ok (.iadd, 1) := by decide +kernel
theorem dX11_flux_9 : decode cX11_flux 9 = .ok (.iload_n 3, 1) := by decide +kernel
theorem dX11_flux_10 : decode cX11_flux 10 = .ok (.invokestatic 90, 3) := by decide +kernel
theorem dX11_flux_13 : decode cX11_flux 13 = .ok (.iadd, 1) := by decide +kernel
theorem dX11_flux_14 : decode cX11_flux 14 = .ok (.iload 4, 2) := by decide +kernel
theorem dX11_flux_16 : decode cX11_flux 16 = .ok (.invokestatic 90, 3) := by decide +kernel
theorem dX11_flux_19 : decode cX11_flux 19 = .ok (.iadd, 1) := by decide +kernel
theorem dX11_flux_20 : decode cX11_flux 20 = .ok (.iload 5, 2) := by decide +kernel
theorem dX11_flux_22 : decode cX11_flux 22 = .ok (.invokestatic 90, 3) := by decide +kernel
theorem dX11_flux_25 : decode cX11_flux 25 = .ok (.iadd, 1) := by decide +kernel
theorem dX11_flux_26 : decode cX11_flux 26 = .ok (.istore 6, 2) := by decide +kernel
theorem dX11_flux_28 : decode cX11_flux 28 = .ok (.aload_n 0, 1) := by decide +kernel
theorem dX11_flux_29 : decode cX11_flux 29 = .ok (.getfield 29, 3) := by decide +kernel
theorem dX11_flux_32 : decode cX11_flux 32 = .ok (.getfield 84, 3) := by decide +kernel
theorem dX11_flux_35 : decode cX11_flux 35 = .ok (.iload 6, 2) := by decide +kernel
theorem dX11_flux_37 : decode cX11_flux 37 = .ok (.iadd, 1) := by decide +kernel
theorem dX11_flux_38 : decode cX11_flux 38 = .ok (.sipush 320, 3) := by decide +kernel
theorem dX11_flux_41 : decode cX11_flux 41 = .ok (.if_icmp .le 5, 3) := by decide +kernel
theorem dX11_flux_44 : decode cX11_flux 44 = .ok (.iconst (-1), 1) := by decide +kernel
theorem dX11_flux_45 : decode cX11_flux 45 = .ok (.ireturn, 1) := by decide +kernel
theorem dX11_flux_46 : decode cX11_flux 46 = .ok (.aload_n 0, 1) := by decide +kernel
theorem dX11_flux_47 : decode cX11_flux 47 = .ok (.getfield 29, 3) := by decide +kernel
theorem dX11_flux_50 : decode cX11_flux 50 = .ok (.iload_n 1, 1) := by decide +kernel
theorem dX11_flux_51 : decode cX11_flux 51 = .ok (.invokevirtual 94, 3) := by decide +kernel
theorem dX11_flux_54 : decode cX11_flux 54 = .ok (.aload_n 0, 1) := by decide +kernel
theorem dX11_flux_55 : decode cX11_flux 55 = .ok (.getfield 29, 3) := by decide +kernel
theorem dX11_flux_58 : decode cX11_flux 58 = .ok (.iload_n 2, 1) := by decide +kernel
theorem dX11_flux_59 : decode cX11_flux 59 = .ok (.invokevirtual 94, 3) := by decide +kernel
theorem dX11_flux_62 : decode cX11_flux 62 = .ok (.aload_n 0, 1) := by decide +kernel
theorem dX11_flux_63 : decode cX11_flux 63 = .ok (.getfield 29, 3) := by decide +kernel
theorem dX11_flux_66 : decode cX11_flux 66 = .ok (.iload_n 3, 1) := by decide +kernel
theorem dX11_flux_67 : decode cX11_flux 67 = .ok (.invokevirtual 94, 3) := by decide +kernel
theorem dX11_flux_70 : decode cX11_flux 70 = .ok (.aload_n 0, 1) := by decide +kernel
theorem dX11_flux_71 : decode cX11_flux 71 = .ok (.getfield 29, 3) := by decide +kernel
theorem dX11_flux_74 : decode cX11_flux 74 = .ok (.iload 4, 2) := by decide +kernel
theorem dX11_flux_76 : decode cX11_flux 76 = .ok (.invokevirtual 94, 3) := by decide +kernel
theorem dX11_flux_79 : decode cX11_flux 79 = .ok (.aload_n 0, 1) := by decide +kernel
theorem dX11_flux_80 : decode cX11_flux 80 = .ok (.getfield 29, 3) := by decide +kernel
theorem dX11_flux_83 : decode cX11_flux 83 = .ok (.iload 5, 2) := by decide +kernel
theorem dX11_flux_85 : decode cX11_flux 85 = .ok (.invokevirtual 94, 3) := by decide +kernel
theorem dX11_flux_88 : decode cX11_flux 88 = .ok (.aload_n 0, 1) := by decide +kernel
theorem dX11_flux_89 : decode cX11_flux 89 = .ok (.getfield 29, 3) := by decide +kernel
theorem dX11_flux_92 : decode cX11_flux 92 = .ok (.getfield 84, 3) := by decide +kernel
theorem dX11_flux_95 : decode cX11_flux 95 = .ok (.ireturn, 1) := by decide +kernel
theorem dX11_wipe_0 : decode cX11_wipe 0 = .ok (.aload_n 0, 1) := by decide +kernel
theorem dX11_wipe_1 : decode cX11_wipe 1 = .ok (.getfield 29, 3) := by decide +kernel
theorem dX11_wipe_4 : decode cX11_wipe 4 = .ok (.getfield 84, 3) := by decide +kernel
theorem dX11_wipe_7 : decode cX11_wipe 7 = .ok (.istore_n 1, 1) := by decide +kernel
theorem dX11_wipe_8 : decode cX11_wipe 8 = .ok (.aload_n 0, 1) := by decide +kernel
theorem dX11_wipe_9 : decode cX11_wipe 9 = .ok (.getfield 29, 3) := by decide +kernel
theorem dX11_wipe_12 : decode cX11_wipe 12 = .ok (.iconst 0, 1) := by decide +kernel
theorem dX11_wipe_13 : decode cX11_wipe 13 = .ok (.putfield 84, 3) := by decide +kernel
theorem dX11_wipe_16 : decode cX11_wipe 16 = .ok (.iload_n 1, 1) := by decide +kernel
theorem dX11_wipe_17 : decode cX11_wipe 17 = .ok (.ireturn, 1) := by decide +kernel
theorem dX11_read_0 : decode cX11_read 0 = .ok (.aload_n 0, 1) := by decide +kernel
theorem dX11_read_1 : decode cX11_read 1 = .ok (.getfield 23, 3) := by decide +kernel
theorem dX11_read_4 : decode cX11_read 4 = .ok (.getfield 95, 3) := by decide +kernel
theorem dX11_read_7 : decode cX11_read 7 = .ok (.ifCond .eq 22, 3) := by decide +kernel
theorem dX11_read_10 : decode cX11_read 10 = .ok (.iload_n 1, 1) := by decide +kernel
theorem dX11_read_11 : decode cX11_read 11 = .ok (.invokestatic 99, 3) := by decide +kernel
theorem dX11_read_14 : decode cX11_read 14 = .ok (.ifCond .eq 15, 3) := by decide +kernel
theorem dX11_read_17 : decode cX11_read 17 = .ok (.aload_n 0, 1) := by decide +kernel
theorem dX11_read_18 : decode cX11_read 18 = .ok (.getfield 43, 3) := by decide +kernel
theorem dX11_read_21 : decode cX11_read 21 = .ok (.getfield 85, 3) := by decide +kernel
theorem dX11_read_24 : decode cX11_read 24 = .ok (.bipush 10, 2) := by decide +kernel
theorem dX11_read_26 : decode cX11_read 26 = .ok (.if_icmp .lt 5, 3) := by decide +kernel
theorem dX11_read_29 : decode cX11_read 29 = .ok (.iconst (-1), 1) := by decide +kernel
theorem dX11_read_30 : decode cX11_read 30 = .ok (.ireturn, 1) := by decide +kernel
theorem dX11_read_31 : decode cX11_read 31 = .ok (.aload_n 0, 1) := by decide +kernel
theorem dX11_read_32 : decode cX11_read 32 = .ok (.getfield 43, 3) := by decide +kernel
theorem dX11_read_35 : decode cX11_read 35 = .ok (.aload_n 0, 1) := by decide +kernel
theorem dX11_read_36 : decode cX11_read 36 = .ok (.getfield 29, 3) := by decide +kernel
theorem dX11_read_39 : decode cX11_read 39 = .ok (.iload_n 1, 1) := by decide +kernel
theorem dX11_read_40 : decode cX11_read 40 = .ok (.aload_n 0, 1) := by decide +kernel
theorem dX11_read_41 : decode cX11_read 41 = .ok (.getfield 23, 3) := by decide +kernel
theorem dX11_read_44 : decode cX11_read 44 = .ok (.aload_n 0, 1) := by decide +kernel
theorem dX11_read_45 : decode cX11_read 45 = .ok (.getfield 36, 3) := by decide +kernel
theorem dX11_read_48 : decode cX11_read 48 = .ok (.invokevirtual 103, 3) := by decide +kernel
theorem dX11_read_51 : decode cX11_read 51 = .ok (.aload_n 0, 1) := by decide +kernel
theorem dX11_read_52 : decode cX11_read 52 = .ok (.getfield 29, 3) := by decide +kernel
theorem dX11_read_55 : decode cX11_read 55 = .ok (.iconst 0, 1) := by decide +kernel
theorem dX11_read_56 : decode cX11_read 56 = .ok (.putfield 84, 3) := by decide +kernel
theorem dX11_read_59 : decode cX11_read 59 = .ok (.aload_n 0, 1) := by decide +kernel
theorem dX11_read_60 : decode cX11_read 60 = .ok (.getfield 50, 3) := by decide +kernel
theorem dX11_read_63 : decode cX11_read 63 = .ok (.invokevirtual 86, 3) := by decide +kernel
theorem dX11_read_66 : decode cX11_read 66 = .ok (.aload_n 0, 1) := by decide +kernel
theorem dX11_read_67 : decode cX11_read 67 = .ok (.getfield 43, 3) := by decide +kernel
theorem dX11_read_70 : decode cX11_read 70 = .ok (.getfield 85, 3) := by decide +kernel
theorem dX11_read_73 : decode cX11_read 73 = .ok (.iconst 1, 1) := by decide +kernel
theorem dX11_read_74 : decode cX11_read 74 = .ok (.isub, 1) := by decide +kernel
theorem dX11_read_75 : decode cX11_read 75 = .ok (.ireturn, 1) := by decide +kernel
theorem dX11_raw_0 : decode cX11_raw 0 = .ok (.iload_n 1, 1) := by decide +kernel
theorem dX11_raw_1 : decode cX11_raw 1 = .ok (.bipush 8, 2) := by decide +kernel
theorem dX11_raw_3 : decode cX11_raw 3 = .ok (.if_icmp .lt 19, 3) := by decide +kernel
theorem dX11_raw_6 : decode cX11_raw 6 = .ok (.iload_n 1, 1) := by decide +kernel
theorem dX11_raw_7 : decode cX11_raw 7 = .ok (.bipush 60, 2) := by decide +kernel
theorem dX11_raw_9 : decode cX11_raw 9 = .ok (.if_icmp .gt 13, 3) := by decide +kernel
theorem dX11_raw_12 : decode cX11_raw 12 = .ok (.iload_n 2, 1) := by decide +kernel
theorem dX11_raw_13 : decode cX11_raw 13 = .ok (.ifCond .lt 9, 3) := by decide +kernel
theorem dX11_raw_16 : decode cX11_raw 16 = .ok (.iload_n 2, 1) := by decide +kernel
theorem dX11_raw_17 : decode cX11_raw 17 = .ok (.bipush 8, 2) := by decide +kernel
theorem dX11_raw_19 : decode cX11_raw 19 = .ok (.if_icmp .le 5, 3) := by decide +kernel
theorem dX11_raw_22 : decode cX11_raw 22 = .ok (.iconst (-1), 1) := by decide +kernel
theorem dX11_raw_23 : decode cX11_raw 23 = .ok (.ireturn, 1) := by decide +kernel
theorem dX11_raw_24 : decode cX11_raw 24 = .ok (.aload_n 0, 1) := by decide +kernel
theorem dX11_raw_25 : decode cX11_raw 25 = .ok (.getfield 36, 3) := by decide +kernel
theorem dX11_raw_28 : decode cX11_raw 28 = .ok (.aload_n 0, 1) := by decide +kernel
theorem dX11_raw_29 : decode cX11_raw 29 = .ok (.getfield 29, 3) := by decide +kernel
theorem dX11_raw_32 : decode cX11_raw 32 = .ok (.iload_n 1, 1) := by decide +kernel
theorem dX11_raw_33 : decode cX11_raw 33 = .ok (.iload_n 2, 1) := by decide +kernel
theorem dX11_raw_34 : decode cX11_raw 34 = .ok (.invokevirtual 107, 3) := by decide +kernel
theorem dX11_raw_37 : decode cX11_raw 37 = .ok (.iload_n 3, 1) := by decide +kernel
theorem dX11_raw_38 : decode cX11_raw 38 = .ok (.iconst (-1), 1) := by decide +kernel
theorem dX11_raw_39 : decode cX11_raw 39 = .ok (.if_icmp .ne 11, 3) := by decide +kernel
theorem dX11_raw_42 : decode cX11_raw 42 = .ok (.aload_n 0, 1) := by decide +kernel
theorem dX11_raw_43 : decode cX11_raw 43 = .ok (.getfield 36, 3) := by decide +kernel
theorem dX11_raw_46 : decode cX11_raw 46 = .ok (.getfield 111, 3) := by decide +kernel
theorem dX11_raw_49 : decode cX11_raw 49 = .ok (.ireturn, 1) := by decide +kernel
theorem dX11_raw_50 : decode cX11_raw 50 = .ok (.iload_n 3, 1) := by decide +kernel
theorem dX11_raw_51 : decode cX11_raw 51 = .ok (.ifCond .lt 26, 3) := by decide +kernel
theorem dX11_raw_54 : decode cX11_raw 54 = .ok (.iload_n 3, 1) := by decide +kernel
theorem dX11_raw_55 : decode cX11_raw 55 = .ok (.aload_n 0, 1) := by decide +kernel
theorem dX11_raw_56 : decode cX11_raw 56 = .ok (.getfield 36, 3) := by decide +kernel
theorem dX11_raw_59 : decode cX11_raw 59 = .ok (.getfield 111, 3) := by decide +kernel
theorem dX11_raw_62 : decode cX11_raw 62 = .ok (.if_icmp .ge 15, 3) := by decide +kernel
theorem dX11_raw_65 : decode cX11_raw 65 = .ok (.aload_n 0, 1) := by decide +kernel
theorem dX11_raw_66 : decode cX11_raw 66 = .ok (.getfield 36, 3) := by decide +kernel
theorem dX11_raw_69 : decode cX11_raw 69 = .ok (.getfield 112, 3) := by decide +kernel
theorem dX11_raw_72 : decode cX11_raw 72 = .ok (.iload_n 3, 1) := by decide +kernel
theorem dX11_raw_73 : decode cX11_raw 73 = .ok (.iaload, 1) := by decide +kernel
theorem dX11_raw_74 : decode cX11_raw 74 = .ok (.goto 4, 3) := by decide +kernel
theorem dX11_raw_77 : decode cX11_raw 77 = .ok (.iconst (-1), 1) := by decide +kernel
theorem dX11_raw_78 : decode cX11_raw 78 = .ok (.ireturn, 1) := by decide +kernel
theorem dX11_found_0 : decode cX11_found 0 = .ok (.aload_n 0, 1) := by decide +kernel
theorem dX11_found_1 : decode cX11_found 1 = .ok (.getfield 43, 3) := by decide +kernel
theorem dX11_found_4 : decode cX11_found 4 = .ok (.iload_n 1, 1) := by decide +kernel
theorem dX11_found_5 : decode cX11_found 5 = .ok (.invokevirtual 116, 3) := by decide +kernel
theorem dX11_found_8 : decode cX11_found 8 = .ok (.ifCond .ne 5, 3) := by decide +kernel
theorem dX11_found_11 : decode cX11_found 11 = .ok (.iconst (-1), 1) := by decide +kernel
theorem dX11_found_12 : decode cX11_found 12 = .ok (.ireturn, 1) := by decide +kernel
theorem dX11_found_13 : decode cX11_found 13 = .ok (.aload_n 0, 1) := by decide +kernel
theorem dX11_found_14 : decode cX11_found 14 = .ok (.getfield 43, 3) := by decide +kernel
theorem dX11_found_17 : decode cX11_found 17 = .ok (.getfield 119, 3) := by decide +kernel
theorem dX11_found_20 : decode cX11_found 20 = .ok (.iload_n 1, 1) := by decide +kernel
theorem dX11_found_21 : decode cX11_found 21 = .ok (.aaload, 1) := by decide +kernel
theorem dX11_found_22 : decode cX11_found 22 = .ok (.getfield 123, 3) := by decide +kernel
theorem dX11_found_25 : decode cX11_found 25 = .ok (.astore 4, 2) := by decide +kernel
theorem dX11_found_27 : decode cX11_found 27 = .ok (.iload_n 2, 1) := by decide +kernel
theorem dX11_found_28 : decode cX11_found 28 = .ok (.iconst (-1), 1) := by decide +kernel
theorem dX11_found_29 : decode cX11_found 29 = .ok (.if_icmp .ne 9, 3) := by decide +kernel
theorem dX11_found_32 : decode cX11_found 32 = .ok (.aload 4, 2) := by decide +kernel
theorem dX11_found_34 : decode cX11_found 34 = .ok (.getfield 129, 3) := by decide +kernel
theorem dX11_found_37 : decode cX11_found 37 = .ok (.ireturn, 1) := by decide +kernel
theorem dX11_found_38 : decode cX11_found 38 = .ok (.iload_n 2, 1) := by decide +kernel
theorem dX11_found_39 : decode cX11_found 39 = .ok (.ifCond .lt 12, 3) := by decide +kernel
theorem dX11_found_42 : decode cX11_found 42 = .ok (.iload_n 2, 1) := by decide +kernel
theorem dX11_found_43 : decode cX11_found 43 = .ok (.aload 4, 2) := by decide +kernel
theorem dX11_found_45 : decode cX11_found 45 = .ok (.getfield 129, 3) := by decide +kernel
theorem dX11_found_48 : decode cX11_found 48 = .ok (.if_icmp .lt 5, 3) := by decide +kernel
theorem dX11_found_51 : decode cX11_found 51 = .ok (.iconst (-1), 1) := by decide +kernel
theorem dX11_found_52 : decode cX11_found 52 = .ok (.ireturn, 1) := by decide +kernel
theorem dX11_found_53 : decode cX11_found 53 = .ok (.aload_n 0, 1) := by decide +kernel
theorem dX11_found_54 : decode cX11_found 54 = .ok (.aload 4, 2) := by decide +kernel
theorem dX11_found_56 : decode cX11_found 56 = .ok (.getfield 132, 3) := by decide +kernel
theorem dX11_found_59 : decode cX11_found 59 = .ok (.iload_n 2, 1) := by decide +kernel
theorem dX11_found_60 : decode cX11_found 60 = .ok (.aaload, 1) := by decide +kernel
theorem dX11_found_61 : decode cX11_found 61 = .ok (.iload_n 3, 1) := by decide +kernel
theorem dX11_found_62 : decode cX11_found 62 = .ok (.invokevirtual 136, 3) := by decide +kernel
theorem dX11_found_65 : decode cX11_found 65 = .ok (.ireturn, 1) := by decide +kernel
theorem dX11_tuned_0 : decode cX11_tuned 0 = .ok (.aload_n 0, 1) := by decide +kernel
theorem dX11_tuned_1 : decode cX11_tuned 1 = .ok (.getfield 43, 3) := by decide +kernel
theorem dX11_tuned_4 : decode cX11_tuned 4 = .ok (.iload_n 1, 1) := by decide +kernel
theorem dX11_tuned_5 : decode cX11_tuned 5 = .ok (.invokevirtual 116, 3) := by decide +kernel
theorem dX11_tuned_8 : decode cX11_tuned 8 = .ok (.ifCond .eq 12, 3) := by decide +kernel
theorem dX11_tuned_11 : decode cX11_tuned 11 = .ok (.iload_n 2, 1) := by decide +kernel
theorem dX11_tuned_12 : decode cX11_tuned 12 = .ok (.ifCond .lt 8, 3) := by decide +kernel
theorem dX11_tuned_15 : decode cX11_tuned 15 = .ok (.iload_n 2, 1) := by decide +kernel
theorem dX11_tuned_16 : decode cX11_tuned 16 = .ok (.iconst 3, 1) := by decide +kernel
theorem dX11_tuned_17 : decode cX11_tuned 17 = .ok (.if_icmp .le 5, 3) := by decide +kernel
theorem dX11_tuned_20 : decode cX11_tuned 20 = .ok (.iconst (-1), 1) := by decide +kernel
theorem dX11_tuned_21 : decode cX11_tuned 21 = .ok (.ireturn, 1) := by decide +kernel
theorem dX11_tuned_22 : decode cX11_tuned 22 = .ok (.aload_n 0, 1) := by decide +kernel
theorem dX11_tuned_23 : decode cX11_tuned 23 = .ok (.getfield 43, 3) := by decide +kernel
theorem dX11_tuned_26 : decode cX11_tuned 26 = .ok (.iload_n 1, 1) := by decide +kernel
theorem dX11_tuned_27 : decode cX11_tuned 27 = .ok (.aload_n 0, 1) := by decide +kernel
theorem dX11_tuned_28 : decode cX11_tuned 28 = .ok (.getfield 23, 3) := by decide +kernel
theorem dX11_tuned_31 : decode cX11_tuned 31 = .ok (.aload_n 0, 1) := by decide +kernel
theorem dX11_tuned_32 : decode cX11_tuned 32 = .ok (.getfield 36, 3) := by decide +kernel
theorem dX11_tuned_35 : decode cX11_tuned 35 = .ok (.invokevirtual 140, 3) := by decide +kernel
theorem dX11_tuned_38 : decode cX11_tuned 38 = .ok (.aload_n 0, 1) := by decide +kernel
theorem dX11_tuned_39 : decode cX11_tuned 39 = .ok (.getfield 43, 3) := by decide +kernel
theorem dX11_tuned_42 : decode cX11_tuned 42 = .ok (.getfield 119, 3) := by decide +kernel
theorem dX11_tuned_45 : decode cX11_tuned 45 = .ok (.iload_n 1, 1) := by decide +kernel
theorem dX11_tuned_46 : decode cX11_tuned 46 = .ok (.aaload, 1) := by decide +kernel
theorem dX11_tuned_47 : decode cX11_tuned 47 = .ok (.astore_n 3, 1) := by decide +kernel
theorem dX11_tuned_48 : decode cX11_tuned 48 = .ok (.iload_n 2, 1) := by decide +kernel
theorem dX11_tuned_49 : decode cX11_tuned 49 = .ok (.tableswitch 42 0 2 #[27, 32, 37], 27) := by decide +kernel
theorem dX11_tuned_76 : decode cX11_tuned 76 = .ok (.aload_n 3, 1) := by decide +kernel
theorem dX11_tuned_77 : decode cX11_tuned 77 = .ok (.getfield 144, 3) := by decide +kernel
theorem dX11_tuned_80 : decode cX11_tuned 80 = .ok (.ireturn, 1) := by decide +kernel
theorem dX11_tuned_81 : decode cX11_tuned 81 = .ok (.aload_n 3, 1) := by decide +kernel
theorem dX11_tuned_82 : decode cX11_tuned 82 = .ok (.getfield 147, 3) := by decide +kernel
theorem dX11_tuned_85 : decode cX11_tuned 85 = .ok (.ireturn, 1) := by decide +kernel
theorem dX11_tuned_86 : decode cX11_tuned 86 = .ok (.aload_n 3, 1) := by decide +kernel
theorem dX11_tuned_87 : decode cX11_tuned 87 = .ok (.getfield 150, 3) := by decide +kernel
theorem dX11_tuned_90 : decode cX11_tuned 90 = .ok (.ireturn, 1) := by decide +kernel
theorem dX11_tuned_91 : decode cX11_tuned 91 = .ok (.aload_n 3, 1) := by decide +kernel
theorem dX11_tuned_92 : decode cX11_tuned 92 = .ok (.getfield 153, 3) := by decide +kernel
theorem dX11_tuned_95 : decode cX11_tuned 95 = .ok (.ireturn, 1) := by decide +kernel
theorem dX11_status_0 : decode cX11_status 0 = .ok (.iload_n 3, 1) := by decide +kernel
theorem dX11_status_1 : decode cX11_status 1 = .ok (.ifCond .lt 17, 3) := by decide +kernel
theorem dX11_status_4 : decode cX11_status 4 = .ok (.iload_n 3, 1) := by decide +kernel
theorem dX11_status_5 : decode cX11_status 5 = .ok (.iconst 2, 1) := by decide +kernel
theorem dX11_status_6 : decode cX11_status 6 = .ok (.if_icmp .gt 12, 3) := by decide +kernel
theorem dX11_status_9 : decode cX11_status 9 = .ok (.aload_n 0, 1) := by decide +kernel
theorem dX11_status_10 : decode cX11_status 10 = .ok (.iload_n 1, 1) := by decide +kernel
theorem dX11_status_11 : decode cX11_status 11 = .ok (.iload_n 2, 1) := by decide +kernel
theorem dX11_status_12 : decode cX11_status 12 = .ok (.invokevirtual 156, 3) := by decide +kernel
theorem dX11_status_15 : decode cX11_status 15 = .ok (.ifCond .ne 5, 3) := by decide +kernel
theorem dX11_status_18 : decode cX11_status 18 = .ok (.iconst (-1), 1) := by decide +kernel
theorem dX11_status_19 : decode cX11_status 19 = .ok (.ireturn, 1) := by decide +kernel
theorem dX11_status_20 : decode cX11_status 20 = .ok (.aload_n 0, 1) := by decide +kernel
theorem dX11_status_21 : decode cX11_status 21 = .ok (.getfield 50, 3) := by decide +kernel
theorem dX11_status_24 : decode cX11_status 24 = .ok (.iload_n 1, 1) := by decide +kernel
theorem dX11_status_25 : decode cX11_status 25 = .ok (.iload_n 2, 1) := by decide +kernel
theorem dX11_status_26 : decode cX11_status 26 = .ok (.aload_n 0, 1) := by decide +kernel
theorem dX11_status_27 : decode cX11_status 27 = .ok (.getfield 43, 3) := by decide +kernel
theorem dX11_status_30 : decode cX11_status 30 = .ok (.aload_n 0, 1) := by decide +kernel
theorem dX11_status_31 : decode cX11_status 31 = .ok (.getfield 23, 3) := by decide +kernel
theorem dX11_status_34 : decode cX11_status 34 = .ok (.invokevirtual 160, 3) := by decide +kernel
theorem dX11_status_37 : decode cX11_status 37 = .ok (.iload_n 3, 1) := by decide +kernel
theorem dX11_status_38 : decode cX11_status 38 = .ok (.lookupswitch 42 #[(0, 26), (1, 34)], 26) := by decide +kernel
theorem dX11_status_64 : decode cX11_status 64 = .ok (.aload_n 0, 1) := by decide +kernel
theorem dX11_status_65 : decode cX11_status 65 = .ok (.getfield 50, 3) := by decide +kernel
theorem dX11_status_68 : decode cX11_status 68 = .ok (.getfield 164, 3) := by decide +kernel
theorem dX11_status_71 : decode cX11_status 71 = .ok (.ireturn, 1) := by decide +kernel
theorem dX11_status_72 : decode cX11_status 72 = .ok (.aload_n 0, 1) := by decide +kernel
theorem dX11_status_73 : decode cX11_status 73 = .ok (.getfield 50, 3) := by decide +kernel
theorem dX11_status_76 : decode cX11_status 76 = .ok (.getfield 167, 3) := by decide +kernel
theorem dX11_status_79 : decode cX11_status 79 = .ok (.ireturn, 1) := by decide +kernel
theorem dX11_status_80 : decode cX11_status 80 = .ok (.aload_n 0, 1) := by decide +kernel
theorem dX11_status_81 : decode cX11_status 81 = .ok (.getfield 50, 3) := by decide +kernel
theorem dX11_status_84 : decode cX11_status 84 = .ok (.getfield 168, 3) := by decide +kernel
theorem dX11_status_87 : decode cX11_status 87 = .ok (.ireturn, 1) := by decide +kernel
theorem dX11_value_0 : decode cX11_value 0 = .ok (.aload_n 0, 1) := by decide +kernel
theorem dX11_value_1 : decode cX11_value 1 = .ok (.iload_n 1, 1) := by decide +kernel
theorem dX11_value_2 : decode cX11_value 2 = .ok (.iload_n 2, 1) := by decide +kernel
theorem dX11_value_3 : decode cX11_value 3 = .ok (.invokevirtual 156, 3) := by decide +kernel
theorem dX11_value_6 : decode cX11_value 6 = .ok (.ifCond .eq 18, 3) := by decide +kernel
theorem dX11_value_9 : decode cX11_value 9 = .ok (.iload_n 3, 1) := by decide +kernel
theorem dX11_value_10 : decode cX11_value 10 = .ok (.ifCond .lt 14, 3) := by decide +kernel
theorem dX11_value_13 : decode cX11_value 13 = .ok (.iload_n 3, 1) := by decide +kernel
theorem dX11_value_14 : decode cX11_value 14 = .ok (.aload_n 0, 1) := by decide +kernel
theorem dX11_value_15 : decode cX11_value 15 = .ok (.getfield 23, 3) := by decide +kernel
theorem dX11_value_18 : decode cX11_value 18 = .ok (.getfield 89, 3) := by decide +kernel
theorem dX11_value_21 : decode cX11_value 21 = .ok (.if_icmp .lt 5, 3) := by decide +kernel
theorem dX11_value_24 : decode cX11_value 24 = .ok (.iconst (-1), 1) := by decide +kernel
theorem dX11_value_25 : decode cX11_value 25 = .ok (.ireturn, 1) := by decide +kernel
theorem dX11_value_26 : decode cX11_value 26 = .ok (.aload_n 0, 1) := by decide +kernel
theorem dX11_value_27 : decode cX11_value 27 = .ok (.getfield 50, 3) := by decide +kernel
theorem dX11_value_30 : decode cX11_value 30 = .ok (.iload_n 1, 1) := by decide +kernel
theorem dX11_value_31 : decode cX11_value 31 = .ok (.iload_n 2, 1) := by decide +kernel
theorem dX11_value_32 : decode cX11_value 32 = .ok (.aload_n 0, 1) := by decide +kernel
theorem dX11_value_33 : decode cX11_value 33 = .ok (.getfield 43, 3) := by decide +kernel
theorem dX11_value_36 : decode cX11_value 36 = .ok (.aload_n 0, 1) := by decide +kernel
theorem dX11_value_37 : decode cX11_value 37 = .ok (.getfield 23, 3) := by decide +kernel
theorem dX11_value_40 : decode cX11_value 40 = .ok (.invokevirtual 160, 3) := by decide +kernel
theorem dX11_value_43 : decode cX11_value 43 = .ok (.aload_n 0, 1) := by decide +kernel
theorem dX11_value_44 : decode cX11_value 44 = .ok (.getfield 50, 3) := by decide +kernel
theorem dX11_value_47 : decode cX11_value 47 = .ok (.iload_n 3, 1) := by decide +kernel
theorem dX11_value_48 : decode cX11_value 48 = .ok (.invokevirtual 171, 3) := by decide +kernel
theorem dX11_value_51 : decode cX11_value 51 = .ok (.ireturn, 1) := by decide +kernel
theorem dX11_tell_0 : decode cX11_tell 0 = .ok (.iload_n 1, 1) := by decide +kernel
theorem dX11_tell_1 : decode cX11_tell 1 = .ok (.ifCond .lt 25, 3) := by decide +kernel
theorem dX11_tell_4 : decode cX11_tell 4 = .ok (.iload_n 1, 1) := by decide +kernel
theorem dX11_tell_5 : decode cX11_tell 5 = .ok (.iconst 2, 1) := by decide +kernel
theorem dX11_tell_6 : decode cX11_tell 6 = .ok (.if_icmp .ge 20, 3) := by decide +kernel
theorem dX11_tell_9 : decode cX11_tell 9 = .ok (.iload_n 2, 1) := by decide +kernel
theorem dX11_tell_10 : decode cX11_tell 10 = .ok (.invokestatic 174, 3) := by decide +kernel
theorem dX11_tell_13 : decode cX11_tell 13 = .ok (.ifCond .eq 13, 3) := by decide +kernel
theorem dX11_tell_16 : decode cX11_tell 16 = .ok (.iload_n 3, 1) := by decide +kernel
theorem dX11_tell_17 : decode cX11_tell 17 = .ok (.ifCond .lt 9, 3) := by decide +kernel
theorem dX11_tell_20 : decode cX11_tell 20 = .ok (.iload_n 3, 1) := by decide +kernel
theorem dX11_tell_21 : decode cX11_tell 21 = .ok (.bipush 26, 2) := by decide +kernel
theorem dX11_tell_23 : decode cX11_tell 23 = .ok (.if_icmp .le 5, 3) := by decide +kernel
theorem dX11_tell_26 : decode cX11_tell 26 = .ok (.iconst 0, 1) := by decide +kernel
theorem dX11_tell_27 : decode cX11_tell 27 = .ok (.ireturn, 1) := by decide +kernel
theorem dX11_tell_28 : decode cX11_tell 28 = .ok (.aload_n 0, 1) := by decide +kernel
theorem dX11_tell_29 : decode cX11_tell 29 = .ok (.getfield 57, 3) := by decide +kernel
theorem dX11_tell_32 : decode cX11_tell 32 = .ok (.iload_n 1, 1) := by decide +kernel
theorem dX11_tell_33 : decode cX11_tell 33 = .ok (.iload_n 2, 1) := by decide +kernel
theorem dX11_tell_34 : decode cX11_tell 34 = .ok (.iload_n 3, 1) := by decide +kernel
theorem dX11_tell_35 : decode cX11_tell 35 = .ok (.invokevirtual 177, 3) := by decide +kernel
theorem dX11_tell_38 : decode cX11_tell 38 = .ok (.iconst 1, 1) := by decide +kernel
theorem dX11_tell_39 : decode cX11_tell 39 = .ok (.ireturn, 1) := by decide +kernel
theorem dX11_file_0 : decode cX11_file 0 = .ok (.iload_n 1, 1) := by decide +kernel
theorem dX11_file_1 : decode cX11_file 1 = .ok (.invokestatic 174, 3) := by decide +kernel
theorem dX11_file_4 : decode cX11_file 4 = .ok (.ifCond .eq 26, 3) := by decide +kernel
theorem dX11_file_7 : decode cX11_file 7 = .ok (.iload_n 2, 1) := by decide +kernel
theorem dX11_file_8 : decode cX11_file 8 = .ok (.iconst 1, 1) := by decide +kernel
theorem dX11_file_9 : decode cX11_file 9 = .ok (.if_icmp .lt 21, 3) := by decide +kernel
theorem dX11_file_12 : decode cX11_file 12 = .ok (.iload_n 2, 1) := by decide +kernel
theorem dX11_file_13 : decode cX11_file 13 = .ok (.bipush 24, 2) := by decide +kernel
theorem dX11_file_15 : decode cX11_file 15 = .ok (.if_icmp .gt 15, 3) := by decide +kernel
theorem dX11_file_18 : decode cX11_file 18 = .ok (.aload_n 0, 1) := by decide +kernel
theorem dX11_file_19 : decode cX11_file 19 = .ok (.getfield 57, 3) := by decide +kernel
theorem dX11_file_22 : decode cX11_file 22 = .ok (.getfield 181, 3) := by decide +kernel
theorem dX11_file_25 : decode cX11_file 25 = .ok (.bipush 6, 2) := by decide +kernel
theorem dX11_file_27 : decode cX11_file 27 = .ok (.if_icmp .lt 5, 3) := by decide +kernel
theorem dX11_file_30 : decode cX11_file 30 = .ok (.iconst (-1), 1) := by decide +kernel
theorem dX11_file_31 : decode cX11_file 31 = .ok (.ireturn, 1) := by decide +kernel
theorem dX11_file_32 : decode cX11_file 32 = .ok (.aload_n 0, 1) := by decide +kernel
theorem dX11_file_33 : decode cX11_file 33 = .ok (.getfield 57, 3) := by decide +kernel
theorem dX11_file_36 : decode cX11_file 36 = .ok (.iload_n 1, 1) := by decide +kernel
theorem dX11_file_37 : decode cX11_file 37 = .ok (.iload_n 2, 1) := by decide +kernel
theorem dX11_file_38 : decode cX11_file 38 = .ok (.invokevirtual 184, 3) := by decide +kernel
theorem dX11_file_41 : decode cX11_file 41 = .ok (.aload_n 0, 1) := by decide +kernel
theorem dX11_file_42 : decode cX11_file 42 = .ok (.getfield 57, 3) := by decide +kernel
theorem dX11_file_45 : decode cX11_file 45 = .ok (.getfield 181, 3) := by decide +kernel
theorem dX11_file_48 : decode cX11_file 48 = .ok (.iconst 1, 1) := by decide +kernel
theorem dX11_file_49 : decode cX11_file 49 = .ok (.isub, 1) := by decide +kernel
theorem dX11_file_50 : decode cX11_file 50 = .ok (.ireturn, 1) := by decide +kernel
theorem dX11_mishaps_0 : decode cX11_mishaps 0 = .ok (.aload_n 0, 1) := by decide +kernel
theorem dX11_mishaps_1 : decode cX11_mishaps 1 = .ok (.getfield 57, 3) := by decide +kernel
theorem dX11_mishaps_4 : decode cX11_mishaps 4 = .ok (.iload_n 1, 1) := by decide +kernel
theorem dX11_mishaps_5 : decode cX11_mishaps 5 = .ok (.invokevirtual 188, 3) := by decide +kernel
theorem dX11_mishaps_8 : decode cX11_mishaps 8 = .ok (.astore_n 2, 1) := by decide +kernel
theorem dX11_mishaps_9 : decode cX11_mishaps 9 = .ok (.aload_n 2, 1) := by decide +kernel
theorem dX11_mishaps_10 : decode cX11_mishaps 10 = .ok (.ifnonnull 7, 3) := by decide +kernel
theorem dX11_mishaps_13 : decode cX11_mishaps 13 = .ok (.iconst (-1), 1) := by decide +kernel
theorem dX11_mishaps_14 : decode cX11_mishaps 14 = .ok (.goto 11, 3) := by decide +kernel
theorem dX11_mishaps_17 : decode cX11_mishaps 17 = .ok (.aload_n 0, 1) := by decide +kernel
theorem dX11_mishaps_18 : decode cX11_mishaps 18 = .ok (.getfield 57, 3) := by decide +kernel
theorem dX11_mishaps_21 : decode cX11_mishaps 21 = .ok (.aload_n 2, 1) := by decide +kernel
theorem dX11_mishaps_22 : decode cX11_mishaps 22 = .ok (.invokevirtual 192, 3) := by decide +kernel
theorem dX11_mishaps_25 : decode cX11_mishaps 25 = .ok (.ireturn, 1) := by decide +kernel
theorem dX11_next_0 : decode cX11_next 0 = .ok (.aload_n 0, 1) := by decide +kernel
theorem dX11_next_1 : decode cX11_next 1 = .ok (.getfield 57, 3) := by decide +kernel
theorem dX11_next_4 : decode cX11_next 4 = .ok (.iload_n 1, 1) := by decide +kernel
theorem dX11_next_5 : decode cX11_next 5 = .ok (.invokevirtual 188, 3) := by decide +kernel
theorem dX11_next_8 : decode cX11_next 8 = .ok (.astore_n 3, 1) := by decide +kernel
theorem dX11_next_9 : decode cX11_next 9 = .ok (.aload_n 3, 1) := by decide +kernel
theorem dX11_next_10 : decode cX11_next 10 = .ok (.ifnull 10, 3) := by decide +kernel
theorem dX11_next_13 : decode cX11_next 13 = .ok (.iload_n 2, 1) := by decide +kernel
theorem dX11_next_14 : decode cX11_next 14 = .ok (.invokestatic 174, 3) := by decide +kernel
theorem dX11_next_17 : decode cX11_next 17 = .ok (.ifCond .ne 7, 3) := by decide +kernel
theorem dX11_next_20 : decode cX11_next 20 = .ok (.iconst (-1), 1) := by decide +kernel
theorem dX11_next_21 : decode cX11_next 21 = .ok (.goto 6, 3) := by decide +kernel
theorem dX11_next_24 : decode cX11_next 24 = .ok (.aload_n 3, 1) := by decide +kernel
theorem dX11_next_25 : decode cX11_next 25 = .ok (.iload_n 2, 1) := by decide +kernel
theorem dX11_next_26 : decode cX11_next 26 = .ok (.iaload, 1) := by decide +kernel
theorem dX11_next_27 : decode cX11_next 27 = .ok (.ireturn, 1) := by decide +kernel
theorem dX11_chain_0 : decode cX11_chain 0 = .ok (.aload_n 0, 1) := by decide +kernel
theorem dX11_chain_1 : decode cX11_chain 1 = .ok (.getfield 57, 3) := by decide +kernel
theorem dX11_chain_4 : decode cX11_chain 4 = .ok (.iload_n 1, 1) := by decide +kernel
theorem dX11_chain_5 : decode cX11_chain 5 = .ok (.invokevirtual 188, 3) := by decide +kernel
theorem dX11_chain_8 : decode cX11_chain 8 = .ok (.astore 4, 2) := by decide +kernel
theorem dX11_chain_10 : decode cX11_chain 10 = .ok (.aload 4, 2) := by decide +kernel
theorem dX11_chain_12 : decode cX11_chain 12 = .ok (.ifnull 14, 3) := by decide +kernel
theorem dX11_chain_15 : decode cX11_chain 15 = .ok (.aload_n 0, 1) := by decide +kernel
theorem dX11_chain_16 : decode cX11_chain 16 = .ok (.getfield 57, 3) := by decide +kernel
theorem dX11_chain_19 : decode cX11_chain 19 = .ok (.iload_n 2, 1) := by decide +kernel
theorem dX11_chain_20 : decode cX11_chain 20 = .ok (.invokevirtual 196, 3) := by decide +kernel
theorem dX11_chain_23 : decode cX11_chain 23 = .ok (.ifCond .ne 5, 3) := by decide +kernel
theorem dX11_chain_26 : decode cX11_chain 26 = .ok (.iconst (-1), 1) := by decide +kernel
theorem dX11_chain_27 : decode cX11_chain 27 = .ok (.ireturn, 1) := by decide +kernel
theorem dX11_chain_28 : decode cX11_chain 28 = .ok (.aload_n 0, 1) := by decide +kernel
theorem dX11_chain_29 : decode cX11_chain 29 = .ok (.getfield 57, 3) := by decide +kernel
theorem dX11_chain_32 : decode cX11_chain 32 = .ok (.aload 4, 2) := by decide +kernel
theorem dX11_chain_34 : decode cX11_chain 34 = .ok (.iload_n 2, 1) := by decide +kernel
theorem dX11_chain_35 : decode cX11_chain 35 = .ok (.invokevirtual 197, 3) := by decide +kernel
theorem dX11_chain_38 : decode cX11_chain 38 = .ok (.iload_n 3, 1) := by decide +kernel
theorem dX11_chain_39 : decode cX11_chain 39 = .ok (.iconst (-1), 1) := by decide +kernel
theorem dX11_chain_40 : decode cX11_chain 40 = .ok (.if_icmp .ne 11, 3) := by decide +kernel
theorem dX11_chain_43 : decode cX11_chain 43 = .ok (.aload_n 0, 1) := by decide +kernel
theorem dX11_chain_44 : decode cX11_chain 44 = .ok (.getfield 57, 3) := by decide +kernel
theorem dX11_chain_47 : decode cX11_chain 47 = .ok (.getfield 201, 3) := by decide +kernel
theorem dX11_chain_50 : decode cX11_chain 50 = .ok (.ireturn, 1) := by decide +kernel
theorem dX11_chain_51 : decode cX11_chain 51 = .ok (.iload_n 3, 1) := by decide +kernel
theorem dX11_chain_52 : decode cX11_chain 52 = .ok (.ifCond .lt 26, 3) := by decide +kernel
theorem dX11_chain_55 : decode cX11_chain 55 = .ok (.iload_n 3, 1) := by decide +kernel
theorem dX11_chain_56 : decode cX11_chain 56 = .ok (.aload_n 0, 1) := by decide +kernel
theorem dX11_chain_57 : decode cX11_chain 57 = .ok (.getfield 57, 3) := by decide +kernel
theorem dX11_chain_60 : decode cX11_chain 60 = .ok (.getfield 201, 3) := by decide +kernel
theorem dX11_chain_63 : decode cX11_chain 63 = .ok (.if_icmp .ge 15, 3) := by decide +kernel
theorem dX11_chain_66 : decode cX11_chain 66 = .ok (.aload_n 0, 1) := by decide +kernel
theorem dX11_chain_67 : decode cX11_chain 67 = .ok (.getfield 57, 3) := by decide +kernel
theorem dX11_chain_70 : decode cX11_chain 70 = .ok (.getfield 204, 3) := by decide +kernel
theorem dX11_chain_73 : decode cX11_chain 73 = .ok (.iload_n 3, 1) := by decide +kernel
theorem dX11_chain_74 : decode cX11_chain 74 = .ok (.iaload, 1) := by decide +kernel
theorem dX11_chain_75 : decode cX11_chain 75 = .ok (.goto 4, 3) := by decide +kernel
theorem dX11_chain_78 : decode cX11_chain 78 = .ok (.iconst (-1), 1) := by decide +kernel
theorem dX11_chain_79 : decode cX11_chain 79 = .ok (.ireturn, 1) := by decide +kernel
theorem dX11_gaps_0 : decode cX11_gaps 0 = .ok (.aload_n 0, 1) := by decide +kernel
theorem dX11_gaps_1 : decode cX11_gaps 1 = .ok (.getfield 57, 3) := by decide +kernel
theorem dX11_gaps_4 : decode cX11_gaps 4 = .ok (.iconst 2, 1) := by decide +kernel
theorem dX11_gaps_5 : decode cX11_gaps 5 = .ok (.invokevirtual 188, 3) := by decide +kernel
theorem dX11_gaps_8 : decode cX11_gaps 8 = .ok (.astore_n 2, 1) := by decide +kernel
theorem dX11_gaps_9 : decode cX11_gaps 9 = .ok (.aload_n 0, 1) := by decide +kernel
theorem dX11_gaps_10 : decode cX11_gaps 10 = .ok (.getfield 23, 3) := by decide +kernel
theorem dX11_gaps_13 : decode cX11_gaps 13 = .ok (.getfield 95, 3) := by decide +kernel
theorem dX11_gaps_16 : decode cX11_gaps 16 = .ok (.ifCond .eq 18, 3) := by decide +kernel
theorem dX11_gaps_19 : decode cX11_gaps 19 = .ok (.aload_n 2, 1) := by decide +kernel
theorem dX11_gaps_20 : decode cX11_gaps 20 = .ok (.ifnull 14, 3) := by decide +kernel
theorem dX11_gaps_23 : decode cX11_gaps 23 = .ok (.aload_n 0, 1) := by decide +kernel
theorem dX11_gaps_24 : decode cX11_gaps 24 = .ok (.getfield 57, 3) := by decide +kernel
theorem dX11_gaps_27 : decode cX11_gaps 27 = .ok (.iload_n 1, 1) := by decide +kernel
theorem dX11_gaps_28 : decode cX11_gaps 28 = .ok (.invokevirtual 196, 3) := by decide +kernel
theorem dX11_gaps_31 : decode cX11_gaps 31 = .ok (.ifCond .ne 5, 3) := by decide +kernel
theorem dX11_gaps_34 : decode cX11_gaps 34 = .ok (.iconst (-1), 1) := by decide +kernel
theorem dX11_gaps_35 : decode cX11_gaps 35 = .ok (.ireturn, 1) := by decide +kernel
theorem dX11_gaps_36 : decode cX11_gaps 36 = .ok (.aload_n 0, 1) := by decide +kernel
theorem dX11_gaps_37 : decode cX11_gaps 37 = .ok (.getfield 57, 3) := by decide +kernel
theorem dX11_gaps_40 : decode cX11_gaps 40 = .ok (.aload_n 2, 1) := by decide +kernel
theorem dX11_gaps_41 : decode cX11_gaps 41 = .ok (.iload_n 1, 1) := by decide +kernel
theorem dX11_gaps_42 : decode cX11_gaps 42 = .ok (.invokevirtual 197, 3) := by decide +kernel
theorem dX11_gaps_45 : decode cX11_gaps 45 = .ok (.iconst 0, 1) := by decide +kernel
theorem dX11_gaps_46 : decode cX11_gaps 46 = .ok (.istore_n 3, 1) := by decide +kernel
theorem dX11_gaps_47 : decode cX11_gaps 47 = .ok (.iconst 0, 1) := by decide +kernel
theorem dX11_gaps_48 : decode cX11_gaps 48 = .ok (.istore 4, 2) := by decide +kernel
theorem dX11_gaps_50 : decode cX11_gaps 50 = .ok (.iload 4, 2) := by decide +kernel
theorem dX11_gaps_52 : decode cX11_gaps 52 = .ok (.aload_n 0, 1) := by decide +kernel
theorem dX11_gaps_53 : decode cX11_gaps 53 = .ok (.getfield 57, 3) := by decide +kernel
theorem dX11_gaps_56 : decode cX11_gaps 56 = .ok (.getfield 201, 3) := by decide +kernel
theorem dX11_gaps_59 : decode cX11_gaps 59 = .ok (.if_icmp .ge 43, 3) := by decide +kernel
theorem dX11_gaps_62 : decode cX11_gaps 62 = .ok (.aload_n 0, 1) := by decide +kernel
theorem dX11_gaps_63 : decode cX11_gaps 63 = .ok (.getfield 50, 3) := by decide +kernel
theorem dX11_gaps_66 : decode cX11_gaps 66 = .ok (.aload_n 0, 1) := by decide +kernel
theorem dX11_gaps_67 : decode cX11_gaps 67 = .ok (.getfield 57, 3) := by decide +kernel
theorem dX11_gaps_70 : decode cX11_gaps 70 = .ok (.getfield 204, 3) := by decide +kernel
theorem dX11_gaps_73 : decode cX11_gaps 73 = .ok (.iload 4, 2) := by decide +kernel
theorem dX11_gaps_75 : decode cX11_gaps 75 = .ok (.iaload, 1) := by decide +kernel
theorem dX11_gaps_76 : decode cX11_gaps 76 = .ok (.aload_n 0, 1) := by decide +kernel
theorem dX11_gaps_77 : decode cX11_gaps 77 = .ok (.getfield 43, 3) := by decide +kernel
theorem dX11_gaps_80 : decode cX11_gaps 80 = .ok (.aload_n 0, 1) := by decide +kernel
theorem dX11_gaps_81 : decode cX11_gaps 81 = .ok (.getfield 23, 3) := by decide +kernel
theorem dX11_gaps_84 : decode cX11_gaps 84 = .ok (.invokevirtual 207, 3) := by decide +kernel
theorem dX11_gaps_87 : decode cX11_gaps 87 = .ok (.invokestatic 211, 3) := by decide +kernel
theorem dX11_gaps_90 : decode cX11_gaps 90 = .ok (.ifCond .ne 6, 3) := by decide +kernel
theorem dX11_gaps_93 : decode cX11_gaps 93 = .ok (.iinc 3 1, 3) := by decide +kernel
theorem dX11_gaps_96 : decode cX11_gaps 96 = .ok (.iinc 4 1, 3) := by decide +kernel
theorem dX11_gaps_99 : decode cX11_gaps 99 = .ok (.goto (-49), 3) := by decide +kernel
theorem dX11_gaps_102 : decode cX11_gaps 102 = .ok (.iload_n 3, 1) := by decide +kernel
theorem dX11_gaps_103 : decode cX11_gaps 103 = .ok (.ireturn, 1) := by decide +kernel
theorem dX11_hope_0 : decode cX11_hope 0 = .ok (.aload_n 0, 1) := by decide +kernel
theorem dX11_hope_1 : decode cX11_hope 1 = .ok (.getfield 23, 3) := by decide +kernel
theorem dX11_hope_4 : decode cX11_hope 4 = .ok (.getfield 95, 3) := by decide +kernel
theorem dX11_hope_7 : decode cX11_hope 7 = .ok (.ifCond .eq 10, 3) := by decide +kernel
theorem dX11_hope_10 : decode cX11_hope 10 = .ok (.iload_n 1, 1) := by decide +kernel
theorem dX11_hope_11 : decode cX11_hope 11 = .ok (.invokestatic 99, 3) := by decide +kernel
theorem dX11_hope_14 : decode cX11_hope 14 = .ok (.ifCond .ne 7, 3) := by decide +kernel
theorem dX11_hope_17 : decode cX11_hope 17 = .ok (.sipush (-999), 3) := by decide +kernel
theorem dX11_hope_20 : decode cX11_hope 20 = .ok (.ireturn, 1) := by decide +kernel
theorem dX11_hope_21 : decode cX11_hope 21 = .ok (.aload_n 0, 1) := by decide +kernel
theorem dX11_hope_22 : decode cX11_hope 22 = .ok (.getfield 43, 3) := by decide +kernel
theorem dX11_hope_25 : decode cX11_hope 25 = .ok (.iload_n 1, 1) := by decide +kernel
theorem dX11_hope_26 : decode cX11_hope 26 = .ok (.invokevirtual 214, 3) := by decide +kernel
theorem dX11_hope_29 : decode cX11_hope 29 = .ok (.ireturn, 1) := by decide +kernel
theorem dX11_ask_0 : decode cX11_ask 0 = .ok (.aload_n 0, 1) := by decide +kernel
theorem dX11_ask_1 : decode cX11_ask 1 = .ok (.getfield 23, 3) := by decide +kernel
theorem dX11_ask_4 : decode cX11_ask 4 = .ok (.getfield 95, 3) := by decide +kernel
theorem dX11_ask_7 : decode cX11_ask 7 = .ok (.ifCond .eq 12, 3) := by decide +kernel
theorem dX11_ask_10 : decode cX11_ask 10 = .ok (.iload_n 1, 1) := by decide +kernel
theorem dX11_ask_11 : decode cX11_ask 11 = .ok (.ifCond .lt 8, 3) := by decide +kernel
theorem dX11_ask_14 : decode cX11_ask 14 = .ok (.iload_n 1, 1) := by decide +kernel
theorem dX11_ask_15 : decode cX11_ask 15 = .ok (.iconst 1, 1) := by decide +kernel
theorem dX11_ask_16 : decode cX11_ask 16 = .ok (.if_icmp .le 5, 3) := by decide +kernel
theorem dX11_ask_19 : decode cX11_ask 19 = .ok (.iconst (-1), 1) := by decide +kernel
theorem dX11_ask_20 : decode cX11_ask 20 = .ok (.ireturn, 1) := by decide +kernel
theorem dX11_ask_21 : decode cX11_ask 21 = .ok (.iload_n 1, 1) := by decide +kernel
theorem dX11_ask_22 : decode cX11_ask 22 = .ok (.ifCond .ne 10, 3) := by decide +kernel
theorem dX11_ask_25 : decode cX11_ask 25 = .ok (.aload_n 0, 1) := by decide +kernel
theorem dX11_ask_26 : decode cX11_ask 26 = .ok (.invokevirtual 217, 3) := by decide +kernel
theorem dX11_ask_29 : decode cX11_ask 29 = .ok (.goto 7, 3) := by decide +kernel
theorem dX11_ask_32 : decode cX11_ask 32 = .ok (.aload_n 0, 1) := by decide +kernel
theorem dX11_ask_33 : decode cX11_ask 33 = .ok (.invokevirtual 221, 3) := by decide +kernel
theorem dX11_ask_36 : decode cX11_ask 36 = .ok (.ireturn, 1) := by decide +kernel
theorem dX11_written_0 : decode cX11_written 0 = .ok (.aload_n 0, 1) := by decide +kernel
theorem dX11_written_1 : decode cX11_written 1 = .ok (.iload_n 1, 1) := by decide +kernel
theorem dX11_written_2 : decode cX11_written 2 = .ok (.iload_n 2, 1) := by decide +kernel
theorem dX11_written_3 : decode cX11_written 3 = .ok (.invokevirtual 156, 3) := by decide +kernel
theorem dX11_written_6 : decode cX11_written 6 = .ok (.ifCond .ne 5, 3) := by decide +kernel
theorem dX11_written_9 : decode cX11_written 9 = .ok (.iconst (-1), 1) := by decide +kernel
theorem dX11_written_10 : decode cX11_written 10 = .ok (.ireturn, 1) := by decide +kernel
theorem dX11_written_11 : decode cX11_written 11 = .ok (.aload_n 0, 1) := by decide +kernel
theorem dX11_written_12 : decode cX11_written 12 = .ok (.getfield 50, 3) := by decide +kernel
theorem dX11_written_15 : decode cX11_written 15 = .ok (.iload_n 1, 1) := by decide +kernel
theorem dX11_written_16 : decode cX11_written 16 = .ok (.iload_n 2, 1) := by decide +kernel
theorem dX11_written_17 : decode cX11_written 17 = .ok (.aload_n 0, 1) := by decide +kernel
theorem dX11_written_18 : decode cX11_written 18 = .ok (.getfield 43, 3) := by decide +kernel
theorem dX11_written_21 : decode cX11_written 21 = .ok (.aload_n 0, 1) := by decide +kernel
theorem dX11_written_22 : decode cX11_written 22 = .ok (.getfield 23, 3) := by decide +kernel
theorem dX11_written_25 : decode cX11_written 25 = .ok (.invokevirtual 160, 3) := by decide +kernel
theorem dX11_written_28 : decode cX11_written 28 = .ok (.aload_n 0, 1) := by decide +kernel
theorem dX11_written_29 : decode cX11_written 29 = .ok (.getfield 50, 3) := by decide +kernel
theorem dX11_written_32 : decode cX11_written 32 = .ok (.getfield 164, 3) := by decide +kernel
theorem dX11_written_35 : decode cX11_written 35 = .ok (.invokestatic 211, 3) := by decide +kernel
theorem dX11_written_38 : decode cX11_written 38 = .ok (.ifCond .eq 26, 3) := by decide +kernel
theorem dX11_written_41 : decode cX11_written 41 = .ok (.aload_n 0, 1) := by decide +kernel
theorem dX11_written_42 : decode cX11_written 42 = .ok (.getfield 64, 3) := by decide +kernel
theorem dX11_written_45 : decode cX11_written 45 = .ok (.aload_n 0, 1) := by decide +kernel
theorem dX11_written_46 : decode cX11_written 46 = .ok (.getfield 23, 3) := by decide +kernel
theorem dX11_written_49 : decode cX11_written 49 = .ok (.iload_n 1, 1) := by decide +kernel
theorem dX11_written_50 : decode cX11_written 50 = .ok (.iload_n 2, 1) := by decide +kernel
theorem dX11_written_51 : decode cX11_written 51 = .ok (.aload_n 0, 1) := by decide +kernel
theorem dX11_written_52 : decode cX11_written 52 = .ok (.getfield 50, 3) := by decide +kernel
theorem dX11_written_55 : decode cX11_written 55 = .ok (.getfield 224, 3) := by decide +kernel
theorem dX11_written_58 : decode cX11_written 58 = .ok (.invokevirtual 227, 3) := by decide +kernel
theorem dX11_written_61 : decode cX11_written 61 = .ok (.ifCond .ne 5, 3) := by decide +kernel
theorem dX11_written_64 : decode cX11_written 64 = .ok (.iconst (-1), 1) := by decide +kernel
theorem dX11_written_65 : decode cX11_written 65 = .ok (.ireturn, 1) := by decide +kernel
theorem dX11_written_66 : decode cX11_written 66 = .ok (.iload_n 3, 1) := by decide +kernel
theorem dX11_written_67 : decode cX11_written 67 = .ok (.iconst (-1), 1) := by decide +kernel
theorem dX11_written_68 : decode cX11_written 68 = .ok (.if_icmp .ne 11, 3) := by decide +kernel
theorem dX11_written_71 : decode cX11_written 71 = .ok (.aload_n 0, 1) := by decide +kernel
theorem dX11_written_72 : decode cX11_written 72 = .ok (.getfield 64, 3) := by decide +kernel
theorem dX11_written_75 : decode cX11_written 75 = .ok (.getfield 230, 3) := by decide +kernel
theorem dX11_written_78 : decode cX11_written 78 = .ok (.ireturn, 1) := by decide +kernel
theorem dX11_written_79 : decode cX11_written 79 = .ok (.iload_n 3, 1) := by decide +kernel
theorem dX11_written_80 : decode cX11_written 80 = .ok (.ifCond .lt 26, 3) := by decide +kernel
theorem dX11_written_83 : decode cX11_written 83 = .ok (.iload_n 3, 1) := by decide +kernel
theorem dX11_written_84 : decode cX11_written 84 = .ok (.aload_n 0, 1) := by decide +kernel
theorem dX11_written_85 : decode cX11_written 85 = .ok (.getfield 64, 3) := by decide +kernel
theorem dX11_written_88 : decode cX11_written 88 = .ok (.getfield 230, 3) := by decide +kernel
theorem dX11_written_91 : decode cX11_written 91 = .ok (.if_icmp .ge 15, 3) := by decide +kernel
theorem dX11_written_94 : decode cX11_written 94 = .ok (.aload_n 0, 1) := by decide +kernel
theorem dX11_written_95 : decode cX11_written 95 = .ok (.getfield 64, 3) := by decide +kernel
theorem dX11_written_98 : decode cX11_written 98 = .ok (.getfield 231, 3) := by decide +kernel
theorem dX11_written_101 : decode cX11_written 101 = .ok (.iload_n 3, 1) := by decide +kernel
theorem dX11_written_102 : decode cX11_written 102 = .ok (.iaload, 1) := by decide +kernel
theorem dX11_written_103 : decode cX11_written 103 = .ok (.goto 4, 3) := by decide +kernel
theorem dX11_written_106 : decode cX11_written 106 = .ok (.iconst (-1), 1) := by decide +kernel
theorem dX11_written_107 : decode cX11_written 107 = .ok (.ireturn, 1) := by decide +kernel
theorem dX11_count_0 : decode cX11_count 0 = .ok (.iload_n 1, 1) := by decide +kernel
theorem dX11_count_1 : decode cX11_count 1 = .ok (.tableswitch 99 0 6 #[43, 51, 59, 67, 75, 83, 91], 43) := by decide +kernel
theorem dX11_count_44 : decode cX11_count 44 = .ok (.aload_n 0, 1) := by decide +kernel
theorem dX11_count_45 : decode cX11_count 45 = .ok (.getfield 23, 3) := by decide +kernel
theorem dX11_count_48 : decode cX11_count 48 = .ok (.getfield 89, 3) := by decide +kernel
theorem dX11_count_51 : decode cX11_count 51 = .ok (.ireturn, 1) := by decide +kernel
theorem dX11_count_52 : decode cX11_count 52 = .ok (.aload_n 0, 1) := by decide +kernel
theorem dX11_count_53 : decode cX11_count 53 = .ok (.getfield 23, 3) := by decide +kernel
theorem dX11_count_56 : decode cX11_count 56 = .ok (.getfield 234, 3) := by decide +kernel
theorem dX11_count_59 : decode cX11_count 59 = .ok (.ireturn, 1) := by decide +kernel
theorem dX11_count_60 : decode cX11_count 60 = .ok (.aload_n 0, 1) := by decide +kernel
theorem dX11_count_61 : decode cX11_count 61 = .ok (.getfield 23, 3) := by decide +kernel
theorem dX11_count_64 : decode cX11_count 64 = .ok (.getfield 237, 3) := by decide +kernel
theorem dX11_count_67 : decode cX11_count 67 = .ok (.ireturn, 1) := by decide +kernel
theorem dX11_count_68 : decode cX11_count 68 = .ok (.aload_n 0, 1) := by decide +kernel
theorem dX11_count_69 : decode cX11_count 69 = .ok (.getfield 43, 3) := by decide +kernel
theorem dX11_count_72 : decode cX11_count 72 = .ok (.getfield 85, 3) := by decide +kernel
theorem dX11_count_75 : decode cX11_count 75 = .ok (.ireturn, 1) := by decide +kernel
theorem dX11_count_76 : decode cX11_count 76 = .ok (.aload_n 0, 1) := by decide +kernel
theorem dX11_count_77 : decode cX11_count 77 = .ok (.getfield 29, 3) := by decide +kernel
theorem dX11_count_80 : decode cX11_count 80 = .ok (.getfield 84, 3) := by decide +kernel
theorem dX11_count_83 : decode cX11_count 83 = .ok (.ireturn, 1) := by decide +kernel
theorem dX11_count_84 : decode cX11_count 84 = .ok (.aload_n 0, 1) := by decide +kernel
theorem dX11_count_85 : decode cX11_count 85 = .ok (.getfield 57, 3) := by decide +kernel
theorem dX11_count_88 : decode cX11_count 88 = .ok (.getfield 181, 3) := by decide +kernel
theorem dX11_count_91 : decode cX11_count 91 = .ok (.ireturn, 1) := by decide +kernel
theorem dX11_count_92 : decode cX11_count 92 = .ok (.aload_n 0, 1) := by decide +kernel
theorem dX11_count_93 : decode cX11_count 93 = .ok (.getfield 10, 3) := by decide +kernel
theorem dX11_count_96 : decode cX11_count 96 = .ok (.getfield 68, 3) := by decide +kernel
theorem dX11_count_99 : decode cX11_count 99 = .ok (.ireturn, 1) := by decide +kernel
theorem dX11_count_100 : decode cX11_count 100 = .ok (.iconst (-1), 1) := by decide +kernel
theorem dX11_count_101 : decode cX11_count 101 = .ok (.ireturn, 1) := by decide +kernel
theorem dX11_ofSector_0 : decode cX11_ofSector 0 = .ok (.iload_n 2, 1) := by decide +kernel
theorem dX11_ofSector_1 : decode cX11_ofSector 1 = .ok (.tableswitch 69 0 5 #[39, 44, 49, 54, 59, 64], 39) := by decide +kernel
theorem dX11_ofSector_40 : decode cX11_ofSector 40 = .ok (.aload_n 1, 1) := by decide +kernel
theorem dX11_ofSector_41 : decode cX11_ofSector 41 = .ok (.getfield 240, 3) := by decide +kernel
theorem dX11_ofSector_44 : decode cX11_ofSector 44 = .ok (.ireturn, 1) := by decide +kernel
theorem dX11_ofSector_45 : decode cX11_ofSector 45 = .ok (.aload_n 1, 1) := by decide +kernel
theorem dX11_ofSector_46 : decode cX11_ofSector 46 = .ok (.getfield 245, 3) := by decide +kernel
theorem dX11_ofSector_49 : decode cX11_ofSector 49 = .ok (.ireturn, 1) := by decide +kernel
theorem dX11_ofSector_50 : decode cX11_ofSector 50 = .ok (.aload_n 1, 1) := by decide +kernel
theorem dX11_ofSector_51 : decode cX11_ofSector 51 = .ok (.getfield 248, 3) := by decide +kernel
theorem dX11_ofSector_54 : decode cX11_ofSector 54 = .ok (.ireturn, 1) := by decide +kernel
theorem dX11_ofSector_55 : decode cX11_ofSector 55 = .ok (.aload_n 1, 1) := by decide +kernel
theorem dX11_ofSector_56 : decode cX11_ofSector 56 = .ok (.getfield 251, 3) := by decide +kernel
theorem dX11_ofSector_59 : decode cX11_ofSector 59 = .ok (.ireturn, 1) := by decide +kernel
theorem dX11_ofSector_60 : decode cX11_ofSector 60 = .ok (.aload_n 1, 1) := by decide +kernel
theorem dX11_ofSector_61 : decode cX11_ofSector 61 = .ok (.getfield 254, 3) := by decide +kernel
theorem dX11_ofSector_64 : decode cX11_ofSector 64 = .ok (.ireturn, 1) := by decide +kernel
theorem dX11_ofSector_65 : decode cX11_ofSector 65 = .ok (.aload_n 1, 1) := by decide +kernel
theorem dX11_ofSector_66 : decode cX11_ofSector 66 = .ok (.getfield 257, 3) := by decide +kernel
theorem dX11_ofSector_69 : decode cX11_ofSector 69 = .ok (.ireturn, 1) := by decide +kernel
theorem dX11_ofSector_70 : decode cX11_ofSector 70 = .ok (.iload_n 2, 1) := by decide +kernel
theorem dX11_ofSector_71 : decode cX11_ofSector 71 = .ok (.bipush 10, 2) := by decide +kernel
theorem dX11_ofSector_73 : decode cX11_ofSector 73 = .ok (.if_icmp .lt 29, 3) := by decide +kernel
theorem dX11_ofSector_76 : decode cX11_ofSector 76 = .ok (.iload_n 2, 1) := by decide +kernel
theorem dX11_ofSector_77 : decode cX11_ofSector 77 = .ok (.bipush 10, 2) := by decide +kernel
theorem dX11_ofSector_79 : decode cX11_ofSector 79 = .ok (.aload_n 0, 1) := by decide +kernel
theorem dX11_ofSector_80 : decode cX11_ofSector 80 = .ok (.getfield 23, 3) := by decide +kernel
theorem dX11_ofSector_83 : decode cX11_ofSector 83 = .ok (.getfield 89, 3) := by decide +kernel
theorem dX11_ofSector_86 : decode cX11_ofSector 86 = .ok (.iadd, 1) := by decide +kernel
theorem dX11_ofSector_87 : decode cX11_ofSector 87 = .ok (.if_icmp .ge 15, 3) := by decide +kernel
theorem dX11_ofSector_90 : decode cX11_ofSector 90 = .ok (.aload_n 1, 1) := by decide +kernel
theorem dX11_ofSector_91 : decode cX11_ofSector 91 = .ok (.getfield 260, 3) := by decide +kernel
theorem dX11_ofSector_94 : decode cX11_ofSector 94 = .ok (.iload_n 2, 1) := by decide +kernel
theorem dX11_ofSector_95 : decode cX11_ofSector 95 = .ok (.bipush 10, 2) := by decide +kernel
theorem dX11_ofSector_97 : decode cX11_ofSector 97 = .ok (.isub, 1) := by decide +kernel
theorem dX11_ofSector_98 : decode cX11_ofSector 98 = .ok (.iaload, 1) := by decide +kernel
theorem dX11_ofSector_99 : decode cX11_ofSector 99 = .ok (.goto 4, 3) := by decide +kernel
theorem dX11_ofSector_102 : decode cX11_ofSector 102 = .ok (.iconst (-1), 1) := by decide +kernel
theorem dX11_ofSector_103 : decode cX11_ofSector 103 = .ok (.ireturn, 1) := by decide +kernel
theorem dX11_canJudge_0 : decode cX11_canJudge 0 = .ok (.aload_n 0, 1) := by decide +kernel
theorem dX11_canJudge_1 : decode cX11_canJudge 1 = .ok (.getfield 23, 3) := by decide +kernel
theorem dX11_canJudge_4 : decode cX11_canJudge 4 = .ok (.getfield 95, 3) := by decide +kernel
theorem dX11_canJudge_7 : decode cX11_canJudge 7 = .ok (.ifCond .eq 29, 3) := by decide +kernel
theorem dX11_canJudge_10 : decode cX11_canJudge 10 = .ok (.iload_n 1, 1) := by decide +kernel
theorem dX11_canJudge_11 : decode cX11_canJudge 11 = .ok (.ifCond .lt 25, 3) := by decide +kernel
theorem dX11_canJudge_14 : decode cX11_canJudge 14 = .ok (.iload_n 1, 1) := by decide +kernel
theorem dX11_canJudge_15 : decode cX11_canJudge 15 = .ok (.sipush 255, 3) := by decide +kernel
theorem dX11_canJudge_18 : decode cX11_canJudge 18 = .ok (.if_icmp .gt 18, 3) := by decide +kernel
theorem dX11_canJudge_21 : decode cX11_canJudge 21 = .ok (.iload_n 2, 1) := by decide +kernel
theorem dX11_canJudge_22 : decode cX11_canJudge 22 = .ok (.ifCond .lt 14, 3) := by decide +kernel
theorem dX11_canJudge_25 : decode cX11_canJudge 25 = .ok (.iload_n 2, 1) := by decide +kernel
theorem dX11_canJudge_26 : decode cX11_canJudge 26 = .ok (.sipush 255, 3) := by decide +kernel
theorem dX11_canJudge_29 : decode cX11_canJudge 29 = .ok (.if_icmp .gt 7, 3) := by decide +kernel
theorem dX11_canJudge_32 : decode cX11_canJudge 32 = .ok (.iconst 1, 1) := by decide +kernel
theorem dX11_canJudge_33 : decode cX11_canJudge 33 = .ok (.goto 4, 3) := by decide +kernel
theorem dX11_canJudge_36 : decode cX11_canJudge 36 = .ok (.iconst 0, 1) := by decide +kernel
theorem dX11_canJudge_37 : decode cX11_canJudge 37 = .ok (.ireturn, 1) := by decide +kernel
theorem dX11_bestDrive_0 : decode cX11_bestDrive 0 = .ok (.iconst 0, 1) := by decide +kernel
theorem dX11_bestDrive_1 : decode cX11_bestDrive 1 = .ok (.istore_n 1, 1) := by decide +kernel
theorem dX11_bestDrive_2 : decode cX11_bestDrive 2 = .ok (.aload_n 0, 1) := by decide +kernel
theorem dX11_bestDrive_3 : decode cX11_bestDrive 3 = .ok (.getfield 43, 3) := by decide +kernel
theorem dX11_bestDrive_6 : decode cX11_bestDrive 6 = .ok (.iconst 0, 1) := by decide +kernel
theorem dX11_bestDrive_7 : decode cX11_bestDrive 7 = .ok (.invokevirtual 214, 3) := by decide +kernel
theorem dX11_bestDrive_10 : decode cX11_bestDrive 10 = .ok (.istore_n 2, 1) := by decide +kernel
theorem dX11_bestDrive_11 : decode cX11_bestDrive 11 = .ok (.iconst 1, 1) := by decide +kernel
theorem dX11_bestDrive_12 : decode cX11_bestDrive 12 = .ok (.istore_n 3, 1) := by decide +kernel
theorem dX11_bestDrive_13 : decode cX11_bestDrive 13 = .ok (.iload_n 3, 1) := by decide +kernel
theorem dX11_bestDrive_14 : decode cX11_bestDrive 14 = .ok (.iconst 4, 1) := by decide +kernel
theorem dX11_bestDrive_15 : decode cX11_bestDrive 15 = .ok (.if_icmp .ge 30, 3) := by decide +kernel
theorem dX11_bestDrive_18 : decode cX11_bestDrive 18 = .ok (.aload_n 0, 1) := by decide +kernel
theorem dX11_bestDrive_19 : decode cX11_bestDrive 19 = .ok (.getfield 43, 3) := by decide +kernel
theorem dX11_bestDrive_22 : decode cX11_bestDrive 22 = .ok (.iload_n 3, 1) := by decide +kernel
theorem dX11_bestDrive_23 : decode cX11_bestDrive 23 = .ok (.invokevirtual 214, 3) := by decide +kernel
theorem dX11_bestDrive_26 : decode cX11_bestDrive 26 = .ok (.istore 4, 2) := by decide +kernel
theorem dX11_bestDrive_28 : decode cX11_bestDrive 28 = .ok (.iload 4, 2) := by decide +kernel
theorem dX11_bestDrive_30 : decode cX11_bestDrive 30 = .ok (.iload_n 2, 1) := by decide +kernel
theorem dX11_bestDrive_31 : decode cX11_bestDrive 31 = .ok (.if_icmp .le 8, 3) := by decide +kernel
theorem dX11_bestDrive_34 : decode cX11_bestDrive 34 = .ok (.iload_n 3, 1) := by decide +kernel
theorem dX11_bestDrive_35 : decode cX11_bestDrive 35 = .ok (.istore_n 1, 1) := by decide +kernel
theorem dX11_bestDrive_36 : decode cX11_bestDrive 36 = .ok (.iload 4, 2) := by decide +kernel
theorem dX11_bestDrive_38 : decode cX11_bestDrive 38 = .ok (.istore_n 2, 1) := by decide +kernel
theorem dX11_bestDrive_39 : decode cX11_bestDrive 39 = .ok (.iinc 3 1, 3) := by decide +kernel
theorem dX11_bestDrive_42 : decode cX11_bestDrive 42 = .ok (.goto (-29), 3) := by decide +kernel
theorem dX11_bestDrive_45 : decode cX11_bestDrive 45 = .ok (.iload_n 1, 1) := by decide +kernel
theorem dX11_bestDrive_46 : decode cX11_bestDrive 46 = .ok (.ireturn, 1) := by decide +kernel
theorem dX11_worstTrack_0 : decode cX11_worstTrack 0 = .ok (.aload_n 0, 1) := by decide +kernel
theorem dX11_worstTrack_1 : decode cX11_worstTrack 1 = .ok (.getfield 57, 3) := by decide +kernel
theorem dX11_worstTrack_4 : decode cX11_worstTrack 4 = .ok (.invokevirtual 261, 3) := by decide +kernel
theorem dX11_worstTrack_7 : decode cX11_worstTrack 7 = .ok (.istore_n 1, 1) := by decide +kernel
theorem dX11_worstTrack_8 : decode cX11_worstTrack 8 = .ok (.iconst 0, 1) := by decide +kernel
theorem dX11_worstTrack_9 : decode cX11_worstTrack 9 = .ok (.istore_n 2, 1) := by decide +kernel
theorem dX11_worstTrack_10 : decode cX11_worstTrack 10 = .ok (.iconst 0, 1) := by decide +kernel
theorem dX11_worstTrack_11 : decode cX11_worstTrack 11 = .ok (.istore_n 3, 1) := by decide +kernel
theorem dX11_worstTrack_12 : decode cX11_worstTrack 12 = .ok (.iconst 0, 1) := by decide +kernel
theorem dX11_worstTrack_13 : decode cX11_worstTrack 13 = .ok (.istore 4, 2) := by decide +kernel
theorem dX11_worstTrack_15 : decode cX11_worstTrack 15 = .ok (.iload 4, 2) := by decide +kernel
theorem dX11_worstTrack_17 : decode cX11_worstTrack 17 = .ok (.bipush 6, 2) := by decide +kernel
theorem dX11_worstTrack_19 : decode cX11_worstTrack 19 = .ok (.if_icmp .ge 95, 3) := by decide +kernel
theorem dX11_worstTrack_22 : decode cX11_worstTrack 22 = .ok (.iconst 0, 1) := by decide +kernel
theorem dX11_worstTrack_23 : decode cX11_worstTrack 23 = .ok (.istore 5, 2) := by decide +kernel
theorem dX11_worstTrack_25 : decode cX11_worstTrack 25 = .ok (.iconst 0, 1) := by decide +kernel
theorem dX11_worstTrack_26 : decode cX11_worstTrack 26 = .ok (.istore 6, 2) := by decide +kernel
theorem dX11_worstTrack_28 : decode cX11_worstTrack 28 = .ok (.iload 6, 2) := by decide +kernel
theorem dX11_worstTrack_30 : decode cX11_worstTrack 30 = .ok (.iconst 4, 1) := by decide +kernel
theorem dX11_worstTrack_31 : decode cX11_worstTrack 31 = .ok (.if_icmp .ge 65, 3) := by decide +kernel
theorem dX11_worstTrack_34 : decode cX11_worstTrack 34 = .ok (.iload 4, 2) := by decide +kernel
theorem dX11_worstTrack_36 : decode cX11_worstTrack 36 = .ok (.iconst 4, 1) := by decide +kernel
theorem dX11_worstTrack_37 : decode cX11_worstTrack 37 = .ok (.imul, 1) := by decide +kernel
theorem dX11_worstTrack_38 : decode cX11_worstTrack 38 = .ok (.iload 6, 2) := by decide +kernel
theorem dX11_worstTrack_40 : decode cX11_worstTrack 40 = .ok (.iadd, 1) := by decide +kernel
theorem dX11_worstTrack_41 : decode cX11_worstTrack 41 = .ok (.istore 7, 2) := by decide +kernel
theorem dX11_worstTrack_43 : decode cX11_worstTrack 43 = .ok (.iload_n 1, 1) := by decide +kernel
theorem dX11_worstTrack_44 : decode cX11_worstTrack 44 = .ok (.iload 7, 2) := by decide +kernel
theorem dX11_worstTrack_46 : decode cX11_worstTrack 46 = .ok (.ishr, 1) := by decide +kernel
theorem dX11_worstTrack_47 : decode cX11_worstTrack 47 = .ok (.iconst 1, 1) := by decide +kernel
theorem dX11_worstTrack_48 : decode cX11_worstTrack 48 = .ok (.iand, 1) := by decide +kernel
theorem dX11_worstTrack_49 : decode cX11_worstTrack 49 = .ok (.ifCond .eq 7, 3) := by decide +kernel
theorem dX11_worstTrack_52 : decode cX11_worstTrack 52 = .ok (.iconst 1, 1) := by decide +kernel
theorem dX11_worstTrack_53 : decode cX11_worstTrack 53 = .ok (.goto 4, 3) := by decide +kernel
theorem dX11_worstTrack_56 : decode cX11_worstTrack 56 = .ok (.iconst 0, 1) := by decide +kernel
theorem dX11_worstTrack_57 : decode cX11_worstTrack 57 = .ok (.istore 8, 2) := by decide +kernel
theorem dX11_worstTrack_59 : decode cX11_worstTrack 59 = .ok (.iload 8, 2) := by decide +kernel
theorem dX11_worstTrack_61 : decode cX11_worstTrack 61 = .ok (.ifCond .eq 29, 3) := by decide +kernel
theorem dX11_worstTrack_64 : decode cX11_worstTrack 64 = .ok (.aload_n 0, 1) := by decide +kernel
theorem dX11_worstTrack_65 : decode cX11_worstTrack 65 = .ok (.getfield 50, 3) := by decide +kernel
theorem dX11_worstTrack_68 : decode cX11_worstTrack 68 = .ok (.iload 7, 2) := by decide +kernel
theorem dX11_worstTrack_70 : decode cX11_worstTrack 70 = .ok (.aload_n 0, 1) := by decide +kernel
theorem dX11_worstTrack_71 : decode cX11_worstTrack 71 = .ok (.getfield 43, 3) := by decide +kernel
theorem dX11_worstTrack_74 : decode cX11_worstTrack 74 = .ok (.aload_n 0, 1) := by decide +kernel
theorem dX11_worstTrack_75 : decode cX11_worstTrack 75 = .ok (.getfield 23, 3) := by decide +kernel
theorem dX11_worstTrack_78 : decode cX11_worstTrack 78 = .ok (.invokevirtual 207, 3) := by decide +kernel
theorem dX11_worstTrack_81 : decode cX11_worstTrack 81 = .ok (.invokestatic 211, 3) := by decide +kernel
theorem dX11_worstTrack_84 : decode cX11_worstTrack 84 = .ok (.ifCond .ne 6, 3) := by decide +kernel
theorem dX11_worstTrack_87 : decode cX11_worstTrack 87 = .ok (.iinc 5 1, 3) := by decide +kernel
theorem dX11_worstTrack_90 : decode cX11_worstTrack 90 = .ok (.iinc 6 1, 3) := by decide +kernel
theorem dX11_worstTrack_93 : decode cX11_worstTrack 93 = .ok (.goto (-65), 3) := by decide +kernel
theorem dX11_worstTrack_96 : decode cX11_worstTrack 96 = .ok (.iload 5, 2) := by decide +kernel
theorem dX11_worstTrack_98 : decode cX11_worstTrack 98 = .ok (.iload_n 3, 1) := by decide +kernel
theorem dX11_worstTrack_99 : decode cX11_worstTrack 99 = .ok (.if_icmp .le 9, 3) := by decide +kernel
theorem dX11_worstTrack_102 : decode cX11_worstTrack 102 = .ok (.iload 4, 2) := by decide +kernel
theorem dX11_worstTrack_104 : decode cX11_worstTrack 104 = .ok (.istore_n 2, 1) := by decide +kernel
theorem dX11_worstTrack_105 : decode cX11_worstTrack 105 = .ok (.iload 5, 2) := by decide +kernel
theorem dX11_worstTrack_107 : decode cX11_worstTrack 107 = .ok (.istore_n 3, 1) := by decide +kernel
theorem dX11_worstTrack_108 : decode cX11_worstTrack 108 = .ok (.iinc 4 1, 3) := by decide +kernel
theorem dX11_worstTrack_111 : decode cX11_worstTrack 111 = .ok (.goto (-96), 3) := by decide +kernel
theorem dX11_worstTrack_114 : decode cX11_worstTrack 114 = .ok (.iload_n 2, 1) := by decide +kernel
theorem dX11_worstTrack_115 : decode cX11_worstTrack 115 = .ok (.ireturn, 1) := by decide +kernel
theorem dX11_isDrive_0 : decode cX11_isDrive 0 = .ok (.iload_n 0, 1) := by decide +kernel
theorem dX11_isDrive_1 : decode cX11_isDrive 1 = .ok (.ifCond .lt 12, 3) := by decide +kernel
theorem dX11_isDrive_4 : decode cX11_isDrive 4 = .ok (.iload_n 0, 1) := by decide +kernel
theorem dX11_isDrive_5 : decode cX11_isDrive 5 = .ok (.iconst 4, 1) := by decide +kernel
theorem dX11_isDrive_6 : decode cX11_isDrive 6 = .ok (.if_icmp .ge 7, 3) := by decide +kernel
theorem dX11_isDrive_9 : decode cX11_isDrive 9 = .ok (.iconst 1, 1) := by decide +kernel
theorem dX11_isDrive_10 : decode cX11_isDrive 10 = .ok (.goto 4, 3) := by decide +kernel
theorem dX11_isDrive_13 : decode cX11_isDrive 13 = .ok (.iconst 0, 1) := by decide +kernel
theorem dX11_isDrive_14 : decode cX11_isDrive 14 = .ok (.ireturn, 1) := by decide +kernel
theorem dX11_isCluster_0 : decode cX11_isCluster 0 = .ok (.iload_n 0, 1) := by decide +kernel
theorem dX11_isCluster_1 : decode cX11_isCluster 1 = .ok (.ifCond .lt 13, 3) := by decide +kernel
theorem dX11_isCluster_4 : decode cX11_isCluster 4 = .ok (.iload_n 0, 1) := by decide +kernel
theorem dX11_isCluster_5 : decode cX11_isCluster 5 = .ok (.bipush 24, 2) := by decide +kernel
theorem dX11_isCluster_7 : decode cX11_isCluster 7 = .ok (.if_icmp .ge 7, 3) := by decide +kernel
theorem dX11_isCluster_10 : decode cX11_isCluster 10 = .ok (.iconst 1, 1) := by decide +kernel
theorem dX11_isCluster_11 : decode cX11_isCluster 11 = .ok (.goto 4, 3) := by decide +kernel
theorem dX11_isCluster_14 : decode cX11_isCluster 14 = .ok (.iconst 0, 1) := by decide +kernel
theorem dX11_isCluster_15 : decode cX11_isCluster 15 = .ok (.ireturn, 1) := by decide +kernel
theorem dX11_soundStatus_0 : decode cX11_soundStatus 0 = .ok (.iload_n 0, 1) := by decide +kernel
theorem dX11_soundStatus_1 : decode cX11_soundStatus 1 = .ok (.iconst 1, 1) := by decide +kernel
theorem dX11_soundStatus_2 : decode cX11_soundStatus 2 = .ok (.if_icmp .eq 8, 3) := by decide +kernel
theorem dX11_soundStatus_5 : decode cX11_soundStatus 5 = .ok (.iload_n 0, 1) := by decide +kernel
theorem dX11_soundStatus_6 : decode cX11_soundStatus 6 = .ok (.iconst 3, 1) := by decide +kernel
theorem dX11_soundStatus_7 : decode cX11_soundStatus 7 = .ok (.if_icmp .ne 7, 3) := by decide +kernel
theorem dX11_soundStatus_10 : decode cX11_soundStatus 10 = .ok (.iconst 1, 1) := by decide +kernel
theorem dX11_soundStatus_11 : decode cX11_soundStatus 11 = .ok (.goto 4, 3) := by decide +kernel
theorem dX11_soundStatus_14 : decode cX11_soundStatus 14 = .ok (.iconst 0, 1) := by decide +kernel
theorem dX11_soundStatus_15 : decode cX11_soundStatus 15 = .ok (.ireturn, 1) := by decide +kernel
theorem dX11_byteOf_0 : decode cX11_byteOf 0 = .ok (.iload_n 0, 1) := by decide +kernel
theorem dX11_byteOf_1 : decode cX11_byteOf 1 = .ok (.bipush 24, 2) := by decide +kernel
theorem dX11_byteOf_3 : decode cX11_byteOf 3 = .ok (.bipush 8, 2) := by decide +kernel
theorem dX11_byteOf_5 : decode cX11_byteOf 5 = .ok (.iload_n 1, 1) := by decide +kernel
theorem dX11_byteOf_6 : decode cX11_byteOf 6 = .ok (.imul, 1) := by decide +kernel
theorem dX11_byteOf_7 : decode cX11_byteOf 7 = .ok (.isub, 1) := by decide +kernel
theorem dX11_byteOf_8 : decode cX11_byteOf 8 = .ok (.iushr, 1) := by decide +kernel
theorem dX11_byteOf_9 : decode cX11_byteOf 9 = .ok (.sipush 255, 3) := by decide +kernel
theorem dX11_byteOf_12 : decode cX11_byteOf 12 = .ok (.iand, 1) := by decide +kernel
theorem dX11_byteOf_13 : decode cX11_byteOf 13 = .ok (.ireturn, 1) := by decide +kernel
theorem dX11_stepsIn_0 : decode cX11_stepsIn 0 = .ok (.iconst 0, 1) := by decide +kernel
theorem dX11_stepsIn_1 : decode cX11_stepsIn 1 = .ok (.istore_n 1, 1) := by decide +kernel
theorem dX11_stepsIn_2 : decode cX11_stepsIn 2 = .ok (.iconst 0, 1) := by decide +kernel
theorem dX11_stepsIn_3 : decode cX11_stepsIn 3 = .ok (.istore_n 2, 1) := by decide +kernel
theorem dX11_stepsIn_4 : decode cX11_stepsIn 4 = .ok (.iload_n 2, 1) := by decide +kernel
theorem dX11_stepsIn_5 : decode cX11_stepsIn 5 = .ok (.iconst 4, 1) := by decide +kernel
theorem dX11_stepsIn_6 : decode cX11_stepsIn 6 = .ok (.if_icmp .ge 20, 3) := by decide +kernel
theorem dX11_stepsIn_9 : decode cX11_stepsIn 9 = .ok (.iload_n 0, 1) := by decide +kernel
theorem dX11_stepsIn_10 : decode cX11_stepsIn 10 = .ok (.iload_n 2, 1) := by decide +kernel
theorem dX11_stepsIn_11 : decode cX11_stepsIn 11 = .ok (.invokestatic 264, 3) := by decide +kernel
theorem dX11_stepsIn_14 : decode cX11_stepsIn 14 = .ok (.ifCond .eq 6, 3) := by decide +kernel
theorem dX11_stepsIn_17 : decode cX11_stepsIn 17 = .ok (.iinc 1 1, 3) := by decide +kernel
theorem dX11_stepsIn_20 : decode cX11_stepsIn 20 = .ok (.iinc 2 1, 3) := by decide +kernel
theorem dX11_stepsIn_23 : decode cX11_stepsIn 23 = .ok (.goto (-19), 3) := by decide +kernel
theorem dX11_stepsIn_26 : decode cX11_stepsIn 26 = .ok (.iload_n 1, 1) := by decide +kernel
theorem dX11_stepsIn_27 : decode cX11_stepsIn 27 = .ok (.ireturn, 1) := by decide +kernel
theorem dX11_clockDue_0 : decode cX11_clockDue 0 = .ok (.iload_n 0, 1) := by decide +kernel
theorem dX11_clockDue_1 : decode cX11_clockDue 1 = .ok (.ifCond .ne 11, 3) := by decide +kernel
theorem dX11_clockDue_4 : decode cX11_clockDue 4 = .ok (.iload_n 1, 1) := by decide +kernel
theorem dX11_clockDue_5 : decode cX11_clockDue 5 = .ok (.ifCond .ne 7, 3) := by decide +kernel
theorem dX11_clockDue_8 : decode cX11_clockDue 8 = .ok (.iconst 1, 1) := by decide +kernel
theorem dX11_clockDue_9 : decode cX11_clockDue 9 = .ok (.goto 4, 3) := by decide +kernel
theorem dX11_clockDue_12 : decode cX11_clockDue 12 = .ok (.iconst 0, 1) := by decide +kernel
theorem dX11_clockDue_13 : decode cX11_clockDue 13 = .ok (.ireturn, 1) := by decide +kernel
theorem dX12_init_0 : decode cX12_init 0 = .ok (.aload_n 0, 1) := by decide +kernel
theorem dX12_init_1 : decode cX12_init 1 = .ok (.invokespecial 3, 3) := by decide +kernel
theorem dX12_init_4 : decode cX12_init 4 = .ok (.aload_n 0, 1) := by decide +kernel
theorem dX12_init_5 : decode cX12_init 5 = .ok (.sipush 200, 3) := by decide +kernel
theorem dX12_init_8 : decode cX12_init 8 = .ok (.newarray .byte, 2) := by decide +kernel
theorem dX12_init_10 : decode cX12_init 10 = .ok (.putfield 9, 3) := by decide +kernel
theorem dX12_init_13 : decode cX12_init 13 = .ok (.aload_n 0, 1) := by decide +kernel
theorem dX12_init_14 : decode cX12_init 14 = .ok (.bipush 9, 2) := by decide +kernel
theorem dX12_init_16 : decode cX12_init 16 = .ok (.newarray .int, 2) := by decide +kernel
theorem dX12_init_18 : decode cX12_init 18 = .ok (.putfield 13, 3) := by decide +kernel
theorem dX12_init_21 : decode cX12_init 21 = .ok (.aload_n 0, 1) := by decide +kernel
theorem dX12_init_22 : decode cX12_init 22 = .ok (.bipush 9, 2) := by decide +kernel
theorem dX12_init_24 : decode cX12_init 24 = .ok (.newarray .int, 2) := by decide +kernel
theorem dX12_init_26 : decode cX12_init 26 = .ok (.putfield 17, 3) := by decide +kernel
theorem dX12_init_29 : decode cX12_init 29 = .ok (.aload_n 0, 1) := by decide +kernel
theorem dX12_init_30 : decode cX12_init 30 = .ok (.sipush 320, 3) := by decide +kernel
theorem dX12_init_33 : decode cX12_init 33 = .ok (.newarray .int, 2) := by decide +kernel
theorem dX12_init_35 : decode cX12_init 35 = .ok (.putfield 20, 3) := by decide +kernel
theorem dX12_init_38 : decode cX12_init 38 = .ok (.aload_n 0, 1) := by decide +kernel
theorem dX12_init_39 : decode cX12_init 39 = .ok (.bipush 10, 2) := by decide +kernel
theorem dX12_init_41 : decode cX12_init 41 = .ok (.newarray .int, 2) := by decide +kernel
theorem dX12_init_43 : decode cX12_init 43 = .ok (.putfield 23, 3) := by decide +kernel
theorem dX12_init_46 : decode cX12_init 46 = .ok (.aload_n 0, 1) := by decide +kernel
theorem dX12_init_47 : decode cX12_init 47 = .ok (.bipush 10, 2) := by decide +kernel
theorem dX12_init_49 : decode cX12_init 49 = .ok (.newarray .int, 2) := by decide +kernel
theorem dX12_init_51 : decode cX12_init 51 = .ok (.putfield 26, 3) := by decide +kernel
theorem dX12_init_54 : decode cX12_init 54 = .ok (.aload_n 0, 1) := by decide +kernel
theorem dX12_init_55 : decode cX12_init 55 = .ok (.sipush 3200, 3) := by decide +kernel
theorem dX12_init_58 : decode cX12_init 58 = .ok (.newarray .int, 2) := by decide +kernel
theorem dX12_init_60 : decode cX12_init 60 = .ok (.putfield 29, 3) := by decide +kernel
theorem dX12_init_63 : decode cX12_init 63 = .ok (.aload_n 0, 1) := by decide +kernel
theorem dX12_init_64 : decode cX12_init 64 = .ok (.bipush 48, 2) := by decide +kernel
theorem dX12_init_66 : decode cX12_init 66 = .ok (.newarray .int, 2) := by decide +kernel
theorem dX12_init_68 : decode cX12_init 68 = .ok (.putfield 32, 3) := by decide +kernel
theorem dX12_init_71 : decode cX12_init 71 = .ok (.aload_n 0, 1) := by decide +kernel
theorem dX12_init_72 : decode cX12_init 72 = .ok (.bipush 6, 2) := by decide +kernel
theorem dX12_init_74 : decode cX12_init 74 = .ok (.newarray .int, 2) := by decide +kernel
theorem dX12_init_76 : decode cX12_init 76 = .ok (.putfield 35, 3) := by decide +kernel
theorem dX12_init_79 : decode cX12_init 79 = .ok (.aload_n 0, 1) := by decide +kernel
theorem dX12_init_80 : decode cX12_init 80 = .ok (.bipush 6, 2) := by decide +kernel
theorem dX12_init_82 : decode cX12_init 82 = .ok (.newarray .int, 2) := by decide +kernel
theorem dX12_init_84 : decode cX12_init 84 = .ok (.putfield 38, 3) := by decide +kernel
theorem dX12_init_87 : decode cX12_init 87 = .ok (.aload_n 0, 1) := by decide +kernel
theorem dX12_init_88 : decode cX12_init 88 = .ok (.sipush 2700, 3) := by decide +kernel
theorem dX12_init_91 : decode cX12_init 91 = .ok (.newarray .boolean, 2) := by decide +kernel
theorem dX12_init_93 : decode cX12_init 93 = .ok (.putfield 41, 3) := by decide +kernel
theorem dX12_init_96 : decode cX12_init 96 = .ok (.aload_n 0, 1) := by decide +kernel
theorem dX12_init_97 : decode cX12_init 97 = .ok (.bipush 8, 2) := by decide +kernel
theorem dX12_init_99 : decode cX12_init 99 = .ok (.newarray .int, 2) := by decide +kernel
theorem dX12_init_101 : decode cX12_init 101 = .ok (.putfield 45, 3) := by decide +kernel
theorem dX12_init_104 : decode cX12_init 104 = .ok (.aload_n 0, 1) := by decide +kernel
theorem dX12_init_105 : decode cX12_init 105 = .ok (.bipush 96, 2) := by decide +kernel
theorem dX12_init_107 : decode cX12_init 107 = .ok (.newarray .int, 2) := by decide +kernel
theorem dX12_init_109 : decode cX12_init 109 = .ok (.putfield 48, 3) := by decide +kernel
theorem dX12_init_112 : decode cX12_init 112 = .ok (.aload_n 0, 1) := by decide +kernel
theorem dX12_init_113 : decode cX12_init 113 = .ok (.bipush 8, 2) := by decide +kernel
theorem dX12_init_115 : decode cX12_init 115 = .ok (.newarray .int, 2) := by decide +kernel
theorem dX12_init_117 : decode cX12_init 117 = .ok (.putfield 51, 3) := by decide +kernel
theorem dX12_init_120 : decode cX12_init 120 = .ok (.aload_n 0, 1) := by decide +kernel
theorem dX12_init_121 : decode cX12_init 121 = .ok (.bipush 12, 2) := by decide +kernel
theorem dX12_init_123 : decode cX12_init 123 = .ok (.newarray .int, 2) := by decide +kernel
theorem dX12_init_125 : decode cX12_init 125 = .ok (.putfield 54, 3) := by decide +kernel
theorem dX12_init_128 : decode cX12_init 128 = .ok (.aload_n 0, 1) := by decide +kernel
theorem dX12_init_129 : decode cX12_init 129 = .ok (.sipush 960, 3) := by decide +kernel
theorem dX12_init_132 : decode cX12_init 132 = .ok (.newarray .int, 2) := by decide +kernel
theorem dX12_init_134 : decode cX12_init 134 = .ok (.putfield 57, 3) := by decide +kernel
theorem dX12_init_137 : decode cX12_init 137 = .ok (.aload_n 0, 1) := by decide +kernel
theorem dX12_init_138 : decode cX12_init 138 = .ok (.bipush 80, 2) := by decide +kernel
theorem dX12_init_140 : decode cX12_init 140 = .ok (.newarray .boolean, 2) := by decide +kernel
theorem dX12_init_142 : decode cX12_init 142 = .ok (.putfield 60, 3) := by decide +kernel
theorem dX12_init_145 : decode cX12_init 145 = .ok (.aload_n 0, 1) := by decide +kernel
theorem dX12_init_146 : decode cX12_init 146 = .ok (.bipush 12, 2) := by decide +kernel
theorem dX12_init_148 : decode cX12_init 148 = .ok (.newarray .int, 2) := by decide +kernel
theorem dX12_init_150 : decode cX12_init 150 = .ok (.putfield 63, 3) := by decide +kernel
theorem dX12_init_153 : decode cX12_init 153 = .ok (.aload_n 0, 1) := by decide +kernel
theorem dX12_init_154 : decode cX12_init 154 = .ok (.sipush 960, 3) := by decide +kernel
theorem dX12_init_157 : decode cX12_init 157 = .ok (.newarray .int, 2) := by decide +kernel
theorem dX12_init_159 : decode cX12_init 159 = .ok (.putfield 66, 3) := by decide +kernel
theorem dX12_init_162 : decode cX12_init 162 = .ok (.aload_n 0, 1) := by decide +kernel
theorem dX12_init_163 : decode cX12_init 163 = .ok (.bipush 12, 2) := by decide +kernel
theorem dX12_init_165 : decode cX12_init 165 = .ok (.newarray .int, 2) := by decide +kernel
theorem dX12_init_167 : decode cX12_init 167 = .ok (.putfield 69, 3) := by decide +kernel
theorem dX12_init_170 : decode cX12_init 170 = .ok (.aload_n 0, 1) := by decide +kernel
theorem dX12_init_171 : decode cX12_init 171 = .ok (.bipush 24, 2) := by decide +kernel
theorem dX12_init_173 : decode cX12_init 173 = .ok (.newarray .int, 2) := by decide +kernel
theorem dX12_init_175 : decode cX12_init 175 = .ok (.putfield 72, 3) := by decide +kernel
theorem dX12_init_178 : decode cX12_init 178 = .ok (.aload_n 0, 1) := by decide +kernel
theorem dX12_init_179 : decode cX12_init 179 = .ok (.bipush 24, 2) := by decide +kernel
theorem dX12_init_181 : decode cX12_init 181 = .ok (.newarray .int, 2) := by decide +kernel
theorem dX12_init_183 : decode cX12_init 183 = .ok (.putfield 75, 3) := by decide +kernel
theorem dX12_init_186 : decode cX12_init 186 = .ok (.aload_n 0, 1) := by decide +kernel
theorem dX12_init_187 : decode cX12_init 187 = .ok (.sipush 400, 3) := by decide +kernel
theorem dX12_init_190 : decode cX12_init 190 = .ok (.newarray .int, 2) := by decide +kernel
theorem dX12_init_192 : decode cX12_init 192 = .ok (.putfield 78, 3) := by decide +kernel
theorem dX12_init_195 : decode cX12_init 195 = .ok (.iconst 0, 1) := by decide +kernel
theorem dX12_init_196 : decode cX12_init 196 = .ok (.istore_n 1, 1) := by decide +kernel
theorem dX12_init_197 : decode cX12_init 197 = .ok (.iload_n 1, 1) := by decide +kernel
theorem dX12_init_198 : decode cX12_init 198 = .ok (.bipush 48, 2) := by decide +kernel
theorem dX12_init_200 : decode cX12_init 200 = .ok (.if_icmp .ge 17, 3) := by decide +kernel
theorem dX12_init_203 : decode cX12_init 203 = .ok (.aload_n 0, 1) := by decide +kernel
theorem dX12_init_204 : decode cX12_init 204 = .ok (.getfield 32, 3) := by decide +kernel
theorem dX12_init_207 : decode cX12_init 207 = .ok (.iload_n 1, 1) := by decide +kernel
theorem dX12_init_208 : decode cX12_init 208 = .ok (.bipush 25, 2) := by decide +kernel
theorem dX12_init_210 : decode cX12_init 210 = .ok (.iastore, 1) := by decide +kernel
theorem dX12_init_211 : decode cX12_init 211 = .ok (.iinc 1 1, 3) := by decide +kernel
theorem dX12_init_214 : decode cX12_init 214 = .ok (.goto (-17), 3) := by decide +kernel
theorem dX12_init_217 : decode cX12_init 217 = .ok (.return_, 1) := by decide +kernel
theorem dX12_in_0 : decode cX12_in 0 = .ok (.iload_n 0, 1) := by decide +kernel
theorem dX12_in_1 : decode cX12_in 1 = .ok (.iload_n 1, 1) := by decide +kernel
theorem dX12_in_2 : decode cX12_in 2 = .ok (.if_icmp .lt 12, 3) := by decide +kernel
theorem dX12_in_5 : decode cX12_in 5 = .ok (.iload_n 0, 1) := by decide +kernel
theorem dX12_in_6 : decode cX12_in 6 = .ok (.iload_n 2, 1) := by decide +kernel
theorem dX12_in_7 : decode cX12_in 7 = .ok (.if_icmp .gt 7, 3) := by decide +kernel
theorem dX12_in_10 : decode cX12_in 10 = .ok (.iconst 1, 1) := by decide +kernel
theorem dX12_in_11 : decode cX12_in 11 = .ok (.goto 4, 3) := by decide +kernel
theorem dX12_in_14 : decode cX12_in 14 = .ok (.iconst 0, 1) := by decide +kernel
theorem dX12_in_15 : decode cX12_in 15 = .ok (.ireturn, 1) := by decide +kernel
theorem dX12_feed_0 : decode cX12_feed 0 = .ok (.aload_n 0, 1) := by decide +kernel
theorem dX12_feed_1 : decode cX12_feed 1 = .ok (.getfield 81, 3) := by decide +kernel
theorem dX12_feed_4 : decode cX12_feed 4 = .ok (.bipush 20, 2) := by decide +kernel
theorem dX12_feed_6 : decode cX12_feed 6 = .ok (.iadd, 1) := by decide +kernel
theorem dX12_feed_7 : decode cX12_feed 7 = .ok (.sipush 200, 3) := by decide +kernel
theorem dX12_feed_10 : decode cX12_feed 10 = .ok (.if_icmp .le 5, 3) := by decide +kernel
theorem dX12_feed_13 : decode cX12_feed 13 = .ok (.iconst (-1), 1) := by decide +kernel
theorem dX12_feed_14 : decode cX12_feed 14 = .ok (.ireturn, 1) := by decide +kernel
theorem dX12_feed_15 : decode cX12_feed 15 = .ok (.iconst 0, 1) := by decide +kernel
theorem dX12_feed_16 : decode cX12_feed 16 = .ok (.istore 6, 2) := by decide +kernel
theorem dX12_feed_18 : decode cX12_feed 18 = .ok (.iload 6, 2) := by decide +kernel
theorem dX12_feed_20 : decode cX12_feed 20 = .ok (.bipush 20, 2) := by decide +kernel
theorem dX12_feed_22 : decode cX12_feed 22 = .ok (.if_icmp .ge 90, 3) := by decide +kernel
theorem dX12_feed_25 : decode cX12_feed 25 = .ok (.iload 6, 2) := by decide +kernel
theorem dX12_feed_27 : decode cX12_feed 27 = .ok (.iconst 4, 1) := by decide +kernel
theorem dX12_feed_28 : decode cX12_feed 28 = .ok (.if_icmp .ge 7, 3) := by decide +kernel
theorem dX12_feed_31 : decode cX12_feed 31 = .ok (.iload_n 1, 1) := by decide +kernel
theorem dX12_feed_32 : decode cX12_feed 32 = .ok (.goto 39, 3) := by decide +kernel
theorem dX12_feed_35 : decode cX12_feed 35 = .ok (.iload 6, 2) := by decide +kernel
theorem dX12_feed_37 : decode cX12_feed 37 = .ok (.bipush 8, 2) := by decide +kernel
theorem dX12_feed_39 : decode cX12_feed 39 = .ok (.if_icmp .ge 7, 3) := by decide +kernel
theorem dX12_feed_42 : decode cX12_feed 42 = .ok (.iload_n 2, 1) := by decide +kernel
theorem dX12_feed_43 : decode cX12_feed 43 = .ok (.goto 28, 3) := by decide +kernel
theorem dX12_feed_46 : decode cX12_feed 46 = .ok (.iload 6, 2) := by decide +kernel
theorem dX12_feed_48 : decode cX12_feed 48 = .ok (.bipush 12, 2) := by decide +kernel
theorem dX12_feed_50 : decode cX12_feed 50 = .ok (.if_icmp .ge 7, 3) := by decide +kernel
theorem dX12_feed_53 : decode cX12_feed 53 = .ok (.iload_n 3, 1) := by decide +kernel
theorem dX12_feed_54 : decode cX12_feed 54 = .ok (.goto 17, 3) := by decide +kernel
theorem dX12_feed_57 : decode cX12_feed 57 = .ok (.iload 6, 2) := by decide +kernel
theorem dX12_feed_59 : decode cX12_feed 59 = .ok (.bipush 16, 2) := by decide +kernel
theorem dX12_feed_61 : decode cX12_feed 61 = .ok (.if_icmp .ge 8, 3) := by decide +kernel
theorem dX12_feed_64 : decode cX12_feed 64 = .ok (.iload 4, 2) := by decide +kernel
theorem dX12_feed_66 : decode cX12_feed 66 = .ok (.goto 5, 3) := by decide +kernel
theorem dX12_feed_69 : decode cX12_feed 69 = .ok (.iload 5, 2) := by decide +kernel
theorem dX12_feed_71 : decode cX12_feed 71 = .ok (.istore 7, 2) := by decide +kernel
theorem dX12_feed_73 : decode cX12_feed 73 = .ok (.aload_n 0, 1) := by decide +kernel
theorem dX12_feed_74 : decode cX12_feed 74 = .ok (.getfield 9, 3) := by decide +kernel
theorem dX12_feed_77 : decode cX12_feed 77 = .ok (.aload_n 0, 1) := by decide +kernel
theorem dX12_feed_78 : decode cX12_feed 78 = .ok (.getfield 81, 3) := by decide +kernel
theorem dX12_feed_81 : decode cX12_feed 81 = .ok (.iload 7, 2) := by decide +kernel
theorem dX12_feed_83 : decode cX12_feed 83 = .ok (.bipush 24, 2) := by decide +kernel
theorem dX12_feed_85 : decode cX12_feed 85 = .ok (.bipush 8, 2) := by decide +kernel
theorem dX12_feed_87 : decode cX12_feed 87 = .ok (.iload 6, 2) := by decide +kernel
theorem dX12_feed_89 : decode cX12_feed 89 = .ok (.iconst 4, 1) := by decide +kernel
theorem dX12_feed_90 : decode cX12_feed 90 = .ok (.irem, 1) := by decide +kernel
theorem dX12_feed_91 : decode cX12_feed 91 = .ok (.imul, 1) := by decide +kernel
theorem dX12_feed_92 : decode cX12_feed 92 = .ok (.isub, 1) := by decide +kernel
theorem dX12_feed_93 : decode cX12_feed 93 = .ok (.ishr, 1) := by decide +kernel
theorem dX12_feed_94 : decode cX12_feed 94 = .ok (.i2b, 1) := by decide +kernel
theorem dX12_feed_95 : decode cX12_feed 95 = .ok (.bastore, 1) := by decide +kernel
theorem dX12_feed_96 : decode cX12_feed 96 = .ok (.aload_n 0, 1) := by decide +kernel
theorem dX12_feed_97 : decode cX12_feed 97 = .ok (.dup, 1) := by decide +kernel
theorem dX12_feed_98 : decode cX12_feed 98 = .ok (.getfield 81, 3) := by decide +kernel
theorem dX12_feed_101 : decode cX12_feed 101 = .ok (.iconst 1, 1) := by decide +kernel
theorem dX12_feed_102 : decode cX12_feed 102 = .ok (.iadd, 1) := by decide +kernel
theorem dX12_feed_103 : decode cX12_feed 103 = .ok (.putfield 81, 3) := by decide +kernel
theorem dX12_feed_106 : decode cX12_feed 106 = .ok (.iinc 6 1, 3) := by decide +kernel
theorem dX12_feed_109 : decode cX12_feed 109 = .ok (.goto (-91), 3) := by decide +kernel
theorem dX12_feed_112 : decode cX12_feed 112 = .ok (.aload_n 0, 1) := by decide +kernel
theorem dX12_feed_113 : decode cX12_feed 113 = .ok (.getfield 81, 3) := by decide +kernel
theorem dX12_feed_116 : decode cX12_feed 116 = .ok (.ireturn, 1) := by decide +kernel
theorem dX12_end_0 : decode cX12_end 0 = .ok (.iload_n 1, 1) := by decide +kernel
theorem dX12_end_1 : decode cX12_end 1 = .ok (.iconst 0, 1) := by decide +kernel
theorem dX12_end_2 : decode cX12_end 2 = .ok (.aload_n 0, 1) := by decide +kernel
theorem dX12_end_3 : decode cX12_end 3 = .ok (.getfield 81, 3) := by decide +kernel
theorem dX12_end_6 : decode cX12_end 6 = .ok (.invokestatic 85, 3) := by decide +kernel
theorem dX12_end_9 : decode cX12_end 9 = .ok (.ifCond .ne 5, 3) := by decide +kernel
theorem dX12_end_12 : decode cX12_end 12 = .ok (.iconst 0, 1) := by decide +kernel
theorem dX12_end_13 : decode cX12_end 13 = .ok (.ireturn, 1) := by decide +kernel
theorem dX12_end_14 : decode cX12_end 14 = .ok (.aload_n 0, 1) := by decide +kernel
theorem dX12_end_15 : decode cX12_end 15 = .ok (.iload_n 1, 1) := by decide +kernel
theorem dX12_end_16 : decode cX12_end 16 = .ok (.putfield 81, 3) := by decide +kernel
theorem dX12_end_19 : decode cX12_end 19 = .ok (.iconst 1, 1) := by decide +kernel
theorem dX12_end_20 : decode cX12_end 20 = .ok (.ireturn, 1) := by decide +kernel
theorem dX12_isLetter_0 : decode cX12_isLetter 0 = .ok (.iload_n 0, 1) := by decide +kernel
theorem dX12_isLetter_1 : decode cX12_isLetter 1 = .ok (.bipush 97, 2) := by decide +kernel
theorem dX12_isLetter_3 : decode cX12_isLetter 3 = .ok (.if_icmp .lt 13, 3) := by decide +kernel
theorem dX12_isLetter_6 : decode cX12_isLetter 6 = .ok (.iload_n 0, 1) := by decide +kernel
theorem dX12_isLetter_7 : decode cX12_isLetter 7 = .ok (.bipush 122, 2) := by decide +kernel
theorem dX12_isLetter_9 : decode cX12_isLetter 9 = .ok (.if_icmp .gt 7, 3) := by decide +kernel
theorem dX12_isLetter_12 : decode cX12_isLetter 12 = .ok (.iconst 1, 1) := by decide +kernel
theorem dX12_isLetter_13 : decode cX12_isLetter 13 = .ok (.goto 4, 3) := by decide +kernel
theorem dX12_isLetter_16 : decode cX12_isLetter 16 = .ok (.iconst 0, 1) := by decide +kernel
theorem dX12_isLetter_17 : decode cX12_isLetter 17 = .ok (.ireturn, 1) := by decide +kernel
theorem dX12_isDigit_0 : decode cX12_isDigit 0 = .ok (.iload_n 0, 1) := by decide +kernel
theorem dX12_isDigit_1 : decode cX12_isDigit 1 = .ok (.bipush 48, 2) := by decide +kernel
theorem dX12_isDigit_3 : decode cX12_isDigit 3 = .ok (.if_icmp .lt 13, 3) := by decide +kernel
theorem dX12_isDigit_6 : decode cX12_isDigit 6 = .ok (.iload_n 0, 1) := by decide +kernel
theorem dX12_isDigit_7 : decode cX12_isDigit 7 = .ok (.bipush 57, 2) := by decide +kernel
theorem dX12_isDigit_9 : decode cX12_isDigit 9 = .ok (.if_icmp .gt 7, 3) := by decide +kernel
theorem dX12_isDigit_12 : decode cX12_isDigit 12 = .ok (.iconst 1, 1) := by decide +kernel
theorem dX12_isDigit_13 : decode cX12_isDigit 13 = .ok (.goto 4, 3) := by decide +kernel
theorem dX12_isDigit_16 : decode cX12_isDigit 16 = .ok (.iconst 0, 1) := by decide +kernel
theorem dX12_isDigit_17 : decode cX12_isDigit 17 = .ok (.ireturn, 1) := by decide +kernel
theorem dX12_leads_0 : decode cX12_leads 0 = .ok (.aload_n 0, 1) := by decide +kernel
theorem dX12_leads_1 : decode cX12_leads 1 = .ok (.getfield 89, 3) := by decide +kernel
theorem dX12_leads_4 : decode cX12_leads 4 = .ok (.aload_n 0, 1) := by decide +kernel
theorem dX12_leads_5 : decode cX12_leads 5 = .ok (.getfield 81, 3) := by decide +kernel
theorem dX12_leads_8 : decode cX12_leads 8 = .ok (.if_icmp .ge 44, 3) := by decide +kernel
theorem dX12_leads_11 : decode cX12_leads 11 = .ok (.aload_n 0, 1) := by decide +kernel
theorem dX12_leads_12 : decode cX12_leads 12 = .ok (.getfield 9, 3) := by decide +kernel
theorem dX12_leads_15 : decode cX12_leads 15 = .ok (.aload_n 0, 1) := by decide +kernel
theorem dX12_leads_16 : decode cX12_leads 16 = .ok (.getfield 89, 3) := by decide +kernel
theorem dX12_leads_19 : decode cX12_leads 19 = .ok (.baload, 1) := by decide +kernel
theorem dX12_leads_20 : decode cX12_leads 20 = .ok (.bipush 32, 2) := by decide +kernel
theorem dX12_leads_22 : decode cX12_leads 22 = .ok (.if_icmp .eq 17, 3) := by decide +kernel
theorem dX12_leads_25 : decode cX12_leads 25 = .ok (.aload_n 0, 1) := by decide +kernel
theorem dX12_leads_26 : decode cX12_leads 26 = .ok (.getfield 9, 3) := by decide +kernel
theorem dX12_leads_29 : decode cX12_leads 29 = .ok (.aload_n 0, 1) := by decide +kernel
theorem dX12_leads_30 : decode cX12_leads 30 = .ok (.getfield 89, 3) := by decide +kernel
theorem dX12_leads_33 : decode cX12_leads 33 = .ok (.baload, 1) := by decide +kernel
theorem dX12_leads_34 : decode cX12_leads 34 = .ok (.bipush 10, 2) := by decide +kernel
theorem dX12_leads_36 : decode cX12_leads 36 = .ok (.if_icmp .ne 16, 3) := by decide +kernel
theorem dX12_leads_39 : decode cX12_leads 39 = .ok (.aload_n 0, 1) := by decide +kernel
theorem dX12_leads_40 : decode cX12_leads 40 = .ok (.dup, 1) := by decide +kernel
theorem dX12_leads_41 : decode cX12_leads 41 = .ok (.getfield 89, 3) := by decide +kernel
theorem dX12_leads_44 : decode cX12_leads 44 = .ok (.iconst 1, 1) := by decide +kernel
theorem dX12_leads_45 : decode cX12_leads 45 = .ok (.iadd, 1) := by decide +kernel
theorem dX12_leads_46 : decode cX12_leads 46 = .ok (.putfield 89, 3) := by decide +kernel
theorem dX12_leads_49 : decode cX12_leads 49 = .ok (.goto (-49), 3) := by decide +kernel
theorem dX12_leads_52 : decode cX12_leads 52 = .ok (.aload_n 0, 1) := by decide +kernel
theorem dX12_leads_53 : decode cX12_leads 53 = .ok (.aload_n 0, 1) := by decide +kernel
theorem dX12_leads_54 : decode cX12_leads 54 = .ok (.getfield 89, 3) := by decide +kernel
theorem dX12_leads_57 : decode cX12_leads 57 = .ok (.putfield 92, 3) := by decide +kernel
theorem dX12_leads_60 : decode cX12_leads 60 = .ok (.aload_n 0, 1) := by decide +kernel
theorem dX12_leads_61 : decode cX12_leads 61 = .ok (.lconst 0, 1) := by decide +kernel
theorem dX12_leads_62 : decode cX12_leads 62 = .ok (.putfield 95, 3) := by decide +kernel
theorem dX12_leads_65 : decode cX12_leads 65 = .ok (.aload_n 0, 1) := by decide +kernel
theorem dX12_leads_66 : decode cX12_leads 66 = .ok (.iconst 0, 1) := by decide +kernel
theorem dX12_leads_67 : decode cX12_leads 67 = .ok (.putfield 99, 3) := by decide +kernel
theorem dX12_leads_70 : decode cX12_leads 70 = .ok (.aload_n 0, 1) := by decide +kernel
theorem dX12_leads_71 : decode cX12_leads 71 = .ok (.getfield 89, 3) := by decide +kernel
theorem dX12_leads_74 : decode cX12_leads 74 = .ok (.aload_n 0, 1) := by decide +kernel
theorem dX12_leads_75 : decode cX12_leads 75 = .ok (.getfield 81, 3) := by decide +kernel
theorem dX12_leads_78 : decode cX12_leads 78 = .ok (.if_icmp .ne 4, 3) := by decide +kernel
theorem dX12_leads_81 : decode cX12_leads 81 = .ok (.return_, 1) := by decide +kernel
theorem dX12_leads_82 : decode cX12_leads 82 = .ok (.aload_n 0, 1) := by decide +kernel
theorem dX12_leads_83 : decode cX12_leads 83 = .ok (.getfield 9, 3) := by decide +kernel
theorem dX12_leads_86 : decode cX12_leads 86 = .ok (.aload_n 0, 1) := by decide +kernel
theorem dX12_leads_87 : decode cX12_leads 87 = .ok (.getfield 89, 3) := by decide +kernel
theorem dX12_leads_90 : decode cX12_leads 90 = .ok (.baload, 1) := by decide +kernel
theorem dX12_leads_91 : decode cX12_leads 91 = .ok (.istore_n 1, 1) := by decide +kernel
theorem dX12_leads_92 : decode cX12_leads 92 = .ok (.iload_n 1, 1) := by decide +kernel
theorem dX12_leads_93 : decode cX12_leads 93 = .ok (.invokestatic 102, 3) := by decide +kernel
theorem dX12_leads_96 : decode cX12_leads 96 = .ok (.ifCond .eq 105, 3) := by decide +kernel
theorem dX12_leads_99 : decode cX12_leads 99 = .ok (.aload_n 0, 1) := by decide +kernel
theorem dX12_leads_100 : decode cX12_leads 100 = .ok (.getfield 89, 3) := by decide +kernel
theorem dX12_leads_103 : decode cX12_leads 103 = .ok (.aload_n 0, 1) := by decide +kernel
theorem dX12_leads_104 : decode cX12_leads 104 = .ok (.getfield 81, 3) := by decide +kernel
theorem dX12_leads_107 : decode cX12_leads 107 = .ok (.if_icmp .ge 67, 3) := by decide +kernel
theorem dX12_leads_110 : decode cX12_leads 110 = .ok (.aload_n 0, 1) := by decide +kernel
theorem dX12_leads_111 : decode cX12_leads 111 = .ok (.getfield 9, 3) := by decide +kernel
theorem dX12_leads_114 : decode cX12_leads 114 = .ok (.aload_n 0, 1) := by decide +kernel
theorem dX12_leads_115 : decode cX12_leads 115 = .ok (.getfield 89, 3) := by decide +kernel
theorem dX12_leads_118 : decode cX12_leads 118 = .ok (.baload, 1) := by decide +kernel
theorem dX12_leads_119 : decode cX12_leads 119 = .ok (.invokestatic 102, 3) := by decide +kernel
theorem dX12_leads_122 : decode cX12_leads 122 = .ok (.ifCond .eq 52, 3) := by decide +kernel
theorem dX12_leads_125 : decode cX12_leads 125 = .ok (.aload_n 0, 1) := by decide +kernel
theorem dX12_leads_126 : decode cX12_leads 126 = .ok (.getfield 89, 3) := by decide +kernel
theorem dX12_leads_129 : decode cX12_leads 129 = .ok (.aload_n 0, 1) := by decide +kernel
theorem dX12_leads_130 : decode cX12_leads 130 = .ok (.getfield 92, 3) := by decide +kernel
theorem dX12_leads_133 : decode cX12_leads 133 = .ok (.isub, 1) := by decide +kernel
theorem dX12_leads_134 : decode cX12_leads 134 = .ok (.bipush 8, 2) := by decide +kernel
theorem dX12_leads_136 : decode cX12_leads 136 = .ok (.if_icmp .ge 25, 3) := by decide +kernel
theorem dX12_leads_139 : decode cX12_leads 139 = .ok (.aload_n 0, 1) := by decide +kernel
theorem dX12_leads_140 : decode cX12_leads 140 = .ok (.aload_n 0, 1) := by decide +kernel
theorem dX12_leads_141 : decode cX12_leads 141 = .ok (.getfield 95, 3) := by decide +kernel
theorem dX12_leads_144 : decode cX12_leads 144 = .ok (.bipush 8, 2) := by decide +kernel
theorem dX12_leads_146 : decode cX12_leads 146 = .ok (.lshl, 1) := by decide +kernel
theorem dX12_leads_147 : decode cX12_leads 147 = .ok (.aload_n 0, 1) := by decide +kernel
theorem dX12_leads_148 : decode cX12_leads 148 = .ok (.getfield 9, 3) := by decide +kernel
theorem dX12_leads_151 : decode cX12_leads 151 = .ok (.aload_n 0, 1) := by decide +kernel
theorem dX12_leads_152 : decode cX12_leads 152 = .ok (.getfield 89, 3) := by decide +kernel
theorem dX12_leads_155 : decode cX12_leads 155 = .ok (.baload, 1) := by decide +kernel
theorem dX12_leads_156 : decode cX12_leads 156 = .ok (.i2l, 1) := by decide +kernel
theorem dX12_leads_157 : decode cX12_leads 157 = .ok (.lor, 1) := by decide +kernel
theorem dX12_leads_158 : decode cX12_leads 158 = .ok (.putfield 95, 3) := by decide +kernel
theorem dX12_leads_161 : decode cX12_leads 161 = .ok (.aload_n 0, 1) := by decide +kernel
theorem dX12_leads_162 : decode cX12_leads 162 = .ok (.dup, 1) := by decide +kernel
theorem dX12_leads_163 : decode cX12_leads 163 = .ok (.getfield 89, 3) := by decide +kernel
theorem dX12_leads_166 : decode cX12_leads 166 = .ok (.iconst 1, 1) := by decide +kernel
theorem dX12_leads_167 : decode cX12_leads 167 = .ok (.iadd, 1) := by decide +kernel
theorem dX12_leads_168 : decode cX12_leads 168 = .ok (.putfield 89, 3) := by decide +kernel
theorem dX12_leads_171 : decode cX12_leads 171 = .ok (.goto (-72), 3) := by decide +kernel
theorem dX12_leads_174 : decode cX12_leads 174 = .ok (.aload_n 0, 1) := by decide +kernel
theorem dX12_leads_175 : decode cX12_leads 175 = .ok (.getfield 89, 3) := by decide +kernel
theorem dX12_leads_178 : decode cX12_leads 178 = .ok (.aload_n 0, 1) := by decide +kernel
theorem dX12_leads_179 : decode cX12_leads 179 = .ok (.getfield 92, 3) := by decide +kernel
theorem dX12_leads_182 : decode cX12_leads 182 = .ok (.isub, 1) := by decide +kernel
theorem dX12_leads_183 : decode cX12_leads 183 = .ok (.bipush 8, 2) := by decide +kernel
theorem dX12_leads_185 : decode cX12_leads 185 = .ok (.if_icmp .le 8, 3) := by decide +kernel
theorem dX12_leads_188 : decode cX12_leads 188 = .ok (.aload_n 0, 1) := by decide +kernel
theorem dX12_leads_189 : decode cX12_leads 189 = .ok (.lconst 0, 1) := by decide +kernel
theorem dX12_leads_190 : decode cX12_leads 190 = .ok (.putfield 95, 3) := by decide +kernel
theorem dX12_leads_193 : decode cX12_leads 193 = .ok (.aload_n 0, 1) := by decide +kernel
theorem dX12_leads_194 : decode cX12_leads 194 = .ok (.iconst 1, 1) := by decide +kernel
theorem dX12_leads_195 : decode cX12_leads 195 = .ok (.putfield 99, 3) := by decide +kernel
theorem dX12_leads_198 : decode cX12_leads 198 = .ok (.goto 127, 3) := by decide +kernel
theorem dX12_leads_201 : decode cX12_leads 201 = .ok (.iload_n 1, 1) := by decide +kernel
theorem dX12_leads_202 : decode cX12_leads 202 = .ok (.invokestatic 106, 3) := by decide +kernel
theorem dX12_leads_205 : decode cX12_leads 205 = .ok (.ifCond .eq 95, 3) := by decide +kernel
theorem dX12_leads_208 : decode cX12_leads 208 = .ok (.aload_n 0, 1) := by decide +kernel
theorem dX12_leads_209 : decode cX12_leads 209 = .ok (.getfield 89, 3) := by decide +kernel
theorem dX12_leads_212 : decode cX12_leads 212 = .ok (.aload_n 0, 1) := by decide +kernel
theorem dX12_leads_213 : decode cX12_leads 213 = .ok (.getfield 81, 3) := by decide +kernel
theorem dX12_leads_216 : decode cX12_leads 216 = .ok (.if_icmp .ge 76, 3) := by decide +kernel
theorem dX12_leads_219 : decode cX12_leads 219 = .ok (.aload_n 0, 1) := by decide +kernel
theorem dX12_leads_220 : decode cX12_leads 220 = .ok (.getfield 9, 3) := by decide +kernel
theorem dX12_leads_223 : decode cX12_leads 223 = .ok (.aload_n 0, 1) := by decide +kernel
theorem dX12_leads_224 : decode cX12_leads 224 = .ok (.getfield 89, 3) := by decide +kernel
theorem dX12_leads_227 : decode cX12_leads 227 = .ok (.baload, 1) := by decide +kernel
theorem dX12_leads_228 : decode cX12_leads 228 = .ok (.invokestatic 106, 3) := by decide +kernel
theorem dX12_leads_231 : decode cX12_leads 231 = .ok (.ifCond .eq 61, 3) := by decide +kernel
theorem dX12_leads_234 : decode cX12_leads 234 = .ok (.aload_n 0, 1) := by decide +kernel
theorem dX12_leads_235 : decode cX12_leads 235 = .ok (.aload_n 0, 1) := by decide +kernel
theorem dX12_leads_236 : decode cX12_leads 236 = .ok (.getfield 95, 3) := by decide +kernel
theorem dX12_leads_239 : decode cX12_leads 239 = .ok (.ldc2_w 109, 3) := by decide +kernel
theorem dX12_leads_242 : decode cX12_leads 242 = .ok (.lcmp, 1) := by decide +kernel
theorem dX12_leads_243 : decode cX12_leads 243 = .ok (.ifCond .le 10, 3) := by decide +kernel
theorem dX12_leads_246 : decode cX12_leads 246 = .ok (.aload_n 0, 1) := by decide +kernel
theorem dX12_leads_247 : decode cX12_leads 247 = .ok (.getfield 95, 3) := by decide +kernel
theorem dX12_leads_250 : decode cX12_leads 250 = .ok (.goto 26, 3) := by decide +kernel
theorem dX12_leads_253 : decode cX12_leads 253 = .ok (.ldc2_w 111, 3) := by decide +kernel
theorem dX12_leads_256 : decode cX12_leads 256 = .ok (.aload_n 0, 1) := by decide +kernel
theorem dX12_leads_257 : decode cX12_leads 257 = .ok (.getfield 95, 3) := by decide +kernel
theorem dX12_leads_260 : decode cX12_leads 260 = .ok (.lmul, 1) := by decide +kernel
theorem dX12_leads_261 : decode cX12_leads 261 = .ok (.aload_n 0, 1) := by decide +kernel
theorem dX12_leads_262 : decode cX12_leads 262 = .ok (.getfield 9, 3) := by decide +kernel
theorem dX12_leads_265 : decode cX12_leads 265 = .ok (.aload_n 0, 1) := by decide +kernel
theorem dX12_leads_266 : decode cX12_leads 266 = .ok (.getfield 89, 3) := by decide +kernel
theorem dX12_leads_269 : decode cX12_leads 269 = .ok (.baload, 1) := by decide +kernel
theorem dX12_leads_270 : decode cX12_leads 270 = .ok (.i2l, 1) := by decide +kernel
theorem dX12_leads_271 : decode cX12_leads 271 = .ok (.ladd, 1) := by decide +kernel
theorem dX12_leads_272 : decode cX12_leads 272 = .ok (.ldc2_w 113, 3) := by decide +kernel
theorem dX12_leads_275 : decode cX12_leads 275 = .ok (.lsub, 1) := by decide +kernel
theorem dX12_leads_276 : decode cX12_leads 276 = .ok (.putfield 95, 3) := by decide +kernel
theorem dX12_leads_279 : decode cX12_leads 279 = .ok (.aload_n 0, 1) := by decide +kernel
theorem dX12_leads_280 : decode cX12_leads 280 = .ok (.dup, 1) := by decide +kernel
theorem dX12_leads_281 : decode cX12_leads 281 = .ok (.getfield 89, 3) := by decide +kernel
theorem dX12_leads_284 : decode cX12_leads 284 = .ok (.iconst 1, 1) := by decide +kernel
theorem dX12_leads_285 : decode cX12_leads 285 = .ok (.iadd, 1) := by decide +kernel
theorem dX12_leads_286 : decode cX12_leads 286 = .ok (.putfield 89, 3) := by decide +kernel
theorem dX12_leads_289 : decode cX12_leads 289 = .ok (.goto (-81), 3) := by decide +kernel
theorem dX12_leads_292 : decode cX12_leads 292 = .ok (.aload_n 0, 1) := by decide +kernel
theorem dX12_leads_293 : decode cX12_leads 293 = .ok (.iconst 2, 1) := by decide +kernel
theorem dX12_leads_294 : decode cX12_leads 294 = .ok (.putfield 99, 3) := by decide +kernel
theorem dX12_leads_297 : decode cX12_leads 297 = .ok (.goto 28, 3) := by decide +kernel
theorem dX12_leads_300 : decode cX12_leads 300 = .ok (.aload_n 0, 1) := by decide +kernel
theorem dX12_leads_301 : decode cX12_leads 301 = .ok (.iload_n 1, 1) := by decide +kernel
theorem dX12_leads_302 : decode cX12_leads 302 = .ok (.bipush 59, 2) := by decide +kernel
theorem dX12_leads_304 : decode cX12_leads 304 = .ok (.if_icmp .ne 7, 3) := by decide +kernel
theorem dX12_leads_307 : decode cX12_leads 307 = .ok (.iconst 3, 1) := by decide +kernel
theorem dX12_leads_308 : decode cX12_leads 308 = .ok (.goto 4, 3) := by decide +kernel
theorem dX12_leads_311 : decode cX12_leads 311 = .ok (.iconst 4, 1) := by decide +kernel
theorem dX12_leads_312 : decode cX12_leads 312 = .ok (.putfield 99, 3) := by decide +kernel
theorem dX12_leads_315 : decode cX12_leads 315 = .ok (.aload_n 0, 1) := by decide +kernel
theorem dX12_leads_316 : decode cX12_leads 316 = .ok (.dup, 1) := by decide +kernel
theorem dX12_leads_317 : decode cX12_leads 317 = .ok (.getfield 89, 3) := by decide +kernel
theorem dX12_leads_320 : decode cX12_leads 320 = .ok (.iconst 1, 1) := by decide +kernel
theorem dX12_leads_321 : decode cX12_leads 321 = .ok (.iadd, 1) := by decide +kernel
theorem dX12_leads_322 : decode cX12_leads 322 = .ok (.putfield 89, 3) := by decide +kernel
theorem dX12_leads_325 : decode cX12_leads 325 = .ok (.return_, 1) := by decide +kernel
theorem dX12_packed_0 : decode cX12_packed 0 = .ok (.lconst 0, 1) := by decide +kernel
theorem dX12_packed_1 : decode cX12_packed 1 = .ok (.lstore_n 1, 1) := by decide +kernel
theorem dX12_packed_2 : decode cX12_packed 2 = .ok (.iconst 0, 1) := by decide +kernel
theorem dX12_packed_3 : decode cX12_packed 3 = .ok (.istore_n 3, 1) := by decide +kernel
theorem dX12_packed_4 : decode cX12_packed 4 = .ok (.iload_n 3, 1) := by decide +kernel
theorem dX12_packed_5 : decode cX12_packed 5 = .ok (.aload_n 0, 1) := by decide +kernel
theorem dX12_packed_6 : decode cX12_packed 6 = .ok (.invokevirtual 115, 3) := by decide +kernel
theorem dX12_packed_9 : decode cX12_packed 9 = .ok (.if_icmp .ge 21, 3) := by decide +kernel
theorem dX12_packed_12 : decode cX12_packed 12 = .ok (.lload_n 1, 1) := by decide +kernel
theorem dX12_packed_13 : decode cX12_packed 13 = .ok (.bipush 8, 2) := by decide +kernel
theorem dX12_packed_15 : decode cX12_packed 15 = .ok (.lshl, 1) := by decide +kernel
theorem dX12_packed_16 : decode cX12_packed 16 = .ok (.aload_n 0, 1) := by decide +kernel
theorem dX12_packed_17 : decode cX12_packed 17 = .ok (.iload_n 3, 1) := by decide +kernel
theorem dX12_packed_18 : decode cX12_packed 18 = .ok (.invokevirtual 121, 3) := by decide +kernel
theorem dX12_packed_21 : decode cX12_packed 21 = .ok (.i2l, 1) := by decide +kernel
theorem dX12_packed_22 : decode cX12_packed 22 = .ok (.lor, 1) := by decide +kernel
theorem dX12_packed_23 : decode cX12_packed 23 = .ok (.lstore_n 1, 1) := by decide +kernel
theorem dX12_packed_24 : decode cX12_packed 24 = .ok (.iinc 3 1, 3) := by decide +kernel
theorem dX12_packed_27 : decode cX12_packed 27 = .ok (.goto (-23), 3) := by decide +kernel
theorem dX12_packed_30 : decode cX12_packed 30 = .ok (.lload_n 1, 1) := by decide +kernel
theorem dX12_packed_31 : decode cX12_packed 31 = .ok (.lreturn, 1) := by decide +kernel
theorem dX12_isWord_0 : decode cX12_isWord 0 = .ok (.aload_n 0, 1) := by decide +kernel
theorem dX12_isWord_1 : decode cX12_isWord 1 = .ok (.getfield 99, 3) := by decide +kernel
theorem dX12_isWord_4 : decode cX12_isWord 4 = .ok (.iconst 1, 1) := by decide +kernel
theorem dX12_isWord_5 : decode cX12_isWord 5 = .ok (.if_icmp .ne 19, 3) := by decide +kernel
theorem dX12_isWord_8 : decode cX12_isWord 8 = .ok (.aload_n 0, 1) := by decide +kernel
theorem dX12_isWord_9 : decode cX12_isWord 9 = .ok (.getfield 95, 3) := by decide +kernel
theorem dX12_isWord_12 : decode cX12_isWord 12 = .ok (.aload_n 1, 1) := by decide +kernel
theorem dX12_isWord_13 : decode cX12_isWord 13 = .ok (.invokestatic 125, 3) := by decide +kernel
theorem dX12_isWord_16 : decode cX12_isWord 16 = .ok (.lcmp, 1) := by decide +kernel
theorem dX12_isWord_17 : decode cX12_isWord 17 = .ok (.ifCond .ne 7, 3) := by decide +kernel
theorem dX12_isWord_20 : decode cX12_isWord 20 = .ok (.iconst 1, 1) := by decide +kernel
theorem dX12_isWord_21 : decode cX12_isWord 21 = .ok (.goto 4, 3) := by decide +kernel
theorem dX12_isWord_24 : decode cX12_isWord 24 = .ok (.iconst 0, 1) := by decide +kernel
theorem dX12_isWord_25 : decode cX12_isWord 25 = .ok (.ireturn, 1) := by decide +kernel
theorem dX12_number_0 : decode cX12_number 0 = .ok (.aload_n 0, 1) := by decide +kernel
theorem dX12_number_1 : decode cX12_number 1 = .ok (.getfield 99, 3) := by decide +kernel
theorem dX12_number_4 : decode cX12_number 4 = .ok (.iconst 2, 1) := by decide +kernel
theorem dX12_number_5 : decode cX12_number 5 = .ok (.if_icmp .ne 23, 3) := by decide +kernel
theorem dX12_number_8 : decode cX12_number 8 = .ok (.aload_n 0, 1) := by decide +kernel
theorem dX12_number_9 : decode cX12_number 9 = .ok (.getfield 95, 3) := by decide +kernel
theorem dX12_number_12 : decode cX12_number 12 = .ok (.iload_n 2, 1) := by decide +kernel
theorem dX12_number_13 : decode cX12_number 13 = .ok (.i2l, 1) := by decide +kernel
theorem dX12_number_14 : decode cX12_number 14 = .ok (.lcmp, 1) := by decide +kernel
theorem dX12_number_15 : decode cX12_number 15 = .ok (.ifCond .lt 13, 3) := by decide +kernel
theorem dX12_number_18 : decode cX12_number 18 = .ok (.aload_n 0, 1) := by decide +kernel
theorem dX12_number_19 : decode cX12_number 19 = .ok (.getfield 95, 3) := by decide +kernel
theorem dX12_number_22 : decode cX12_number 22 = .ok (.iload_n 3, 1) := by decide +kernel
theorem dX12_number_23 : decode cX12_number 23 = .ok (.i2l, 1) := by decide +kernel
theorem dX12_number_24 : decode cX12_number 24 = .ok (.lcmp, 1) := by decide +kernel
theorem dX12_number_25 : decode cX12_number 25 = .ok (.ifCond .le 5, 3) := by decide +kernel
theorem dX12_number_28 : decode cX12_number 28 = .ok (.iconst 0, 1) := by decide +kernel
theorem dX12_number_29 : decode cX12_number 29 = .ok (.ireturn, 1) := by decide +kernel
theorem dX12_number_30 : decode cX12_number 30 = .ok (.aload_n 0, 1) := by decide +kernel
theorem dX12_number_31 : decode cX12_number 31 = .ok (.getfield 13, 3) := by decide +kernel
theorem dX12_number_34 : decode cX12_number 34 = .ok (.iload_n 1, 1) := by decide +kernel
theorem dX12_number_35 : decode cX12_number 35 = .ok (.aload_n 0, 1) := by decide +kernel
theorem dX12_number_36 : decode cX12_number 36 = .ok (.getfield 95, 3) := by decide +kernel
theorem dX12_number_39 : decode cX12_number 39 = .ok (.l2i, 1) := by decide +kernel
theorem dX12_number_40 : decode cX12_number 40 = .ok (.iastore, 1) := by decide +kernel
theorem dX12_number_41 : decode cX12_number 41 = .ok (.aload_n 0, 1) := by decide +kernel
theorem dX12_number_42 : decode cX12_number 42 = .ok (.invokevirtual 129, 3) := by decide +kernel
theorem dX12_number_45 : decode cX12_number 45 = .ok (.iconst 1, 1) := by decide +kernel
theorem dX12_number_46 : decode cX12_number 46 = .ok (.ireturn, 1) := by decide +kernel
theorem dX12_closes_0 : decode cX12_closes 0 = .ok (.aload_n 0, 1) := by decide +kernel
theorem dX12_closes_1 : decode cX12_closes 1 = .ok (.getfield 99, 3) := by decide +kernel
theorem dX12_closes_4 : decode cX12_closes 4 = .ok (.iconst 3, 1) := by decide +kernel
theorem dX12_closes_5 : decode cX12_closes 5 = .ok (.if_icmp .eq 5, 3) := by decide +kernel
theorem dX12_closes_8 : decode cX12_closes 8 = .ok (.iconst 0, 1) := by decide +kernel
theorem dX12_closes_9 : decode cX12_closes 9 = .ok (.ireturn, 1) := by decide +kernel
theorem dX12_closes_10 : decode cX12_closes 10 = .ok (.aload_n 0, 1) := by decide +kernel
theorem dX12_closes_11 : decode cX12_closes 11 = .ok (.invokevirtual 129, 3) := by decide +kernel
theorem dX12_closes_14 : decode cX12_closes 14 = .ok (.iconst 1, 1) := by decide +kernel
theorem dX12_closes_15 : decode cX12_closes 15 = .ok (.ireturn, 1) := by decide +kernel
theorem dX12_sumHere_0 : decode cX12_sumHere 0 = .ok (.aload_n 0, 1) := by decide +kernel
theorem dX12_sumHere_1 : decode cX12_sumHere 1 = .ok (.getfield 13, 3) := by decide +kernel
theorem dX12_sumHere_4 : decode cX12_sumHere 4 = .ok (.iconst 5, 1) := by decide +kernel
theorem dX12_sumHere_5 : decode cX12_sumHere 5 = .ok (.aload_n 0, 1) := by decide +kernel
theorem dX12_sumHere_6 : decode cX12_sumHere 6 = .ok (.ldc 132, 2) := by decide +kernel
theorem dX12_sumHere_8 : decode cX12_sumHere 8 = .ok (.invokevirtual 134, 3) := by decide +kernel
theorem dX12_sumHere_11 : decode cX12_sumHere 11 = .ok (.ifCond .eq 7, 3) := by decide +kernel
theorem dX12_sumHere_14 : decode cX12_sumHere 14 = .ok (.iconst 1, 1) := by decide +kernel
theorem dX12_sumHere_15 : decode cX12_sumHere 15 = .ok (.goto 30, 3) := by decide +kernel
theorem dX12_sumHere_18 : decode cX12_sumHere 18 = .ok (.aload_n 0, 1) := by decide +kernel
theorem dX12_sumHere_19 : decode cX12_sumHere 19 = .ok (.ldc 138, 2) := by decide +kernel
theorem dX12_sumHere_21 : decode cX12_sumHere 21 = .ok (.invokevirtual 134, 3) := by decide +kernel
theorem dX12_sumHere_24 : decode cX12_sumHere 24 = .ok (.ifCond .eq 7, 3) := by decide +kernel
theorem dX12_sumHere_27 : decode cX12_sumHere 27 = .ok (.iconst 2, 1) := by decide +kernel
theorem dX12_sumHere_28 : decode cX12_sumHere 28 = .ok (.goto 17, 3) := by decide +kernel
theorem dX12_sumHere_31 : decode cX12_sumHere 31 = .ok (.aload_n 0, 1) := by decide +kernel
theorem dX12_sumHere_32 : decode cX12_sumHere 32 = .ok (.ldc 140, 2) := by decide +kernel
theorem dX12_sumHere_34 : decode cX12_sumHere 34 = .ok (.invokevirtual 134, 3) := by decide +kernel
theorem dX12_sumHere_37 : decode cX12_sumHere 37 = .ok (.ifCond .eq 7, 3) := by decide +kernel
theorem dX12_sumHere_40 : decode cX12_sumHere 40 = .ok (.iconst 3, 1) := by decide +kernel
theorem dX12_sumHere_41 : decode cX12_sumHere 41 = .ok (.goto 4, 3) := by decide +kernel
theorem dX12_sumHere_44 : decode cX12_sumHere 44 = .ok (.iconst (-1), 1) := by decide +kernel
theorem dX12_sumHere_45 : decode cX12_sumHere 45 = .ok (.iastore, 1) := by decide +kernel
theorem dX12_sumHere_46 : decode cX12_sumHere 46 = .ok (.aload_n 0, 1) := by decide +kernel
theorem dX12_sumHere_47 : decode cX12_sumHere 47 = .ok (.getfield 13, 3) := by decide +kernel
theorem dX12_sumHere_50 : decode cX12_sumHere 50 = .ok (.iconst 5, 1) := by decide +kernel
theorem dX12_sumHere_51 : decode cX12_sumHere 51 = .ok (.iaload, 1) := by decide +kernel
theorem dX12_sumHere_52 : decode cX12_sumHere 52 = .ok (.iconst (-1), 1) := by decide +kernel
theorem dX12_sumHere_53 : decode cX12_sumHere 53 = .ok (.if_icmp .ne 5, 3) := by decide +kernel
theorem dX12_sumHere_56 : decode cX12_sumHere 56 = .ok (.iconst 0, 1) := by decide +kernel
theorem dX12_sumHere_57 : decode cX12_sumHere 57 = .ok (.ireturn, 1) := by decide +kernel
theorem dX12_sumHere_58 : decode cX12_sumHere 58 = .ok (.aload_n 0, 1) := by decide +kernel
theorem dX12_sumHere_59 : decode cX12_sumHere 59 = .ok (.invokevirtual 129, 3) := by decide +kernel
theorem dX12_sumHere_62 : decode cX12_sumHere 62 = .ok (.aload_n 0, 1) := by decide +kernel
theorem dX12_sumHere_63 : decode cX12_sumHere 63 = .ok (.getfield 13, 3) := by decide +kernel
theorem dX12_sumHere_66 : decode cX12_sumHere 66 = .ok (.iconst 5, 1) := by decide +kernel
theorem dX12_sumHere_67 : decode cX12_sumHere 67 = .ok (.iaload, 1) := by decide +kernel
theorem dX12_sumHere_68 : decode cX12_sumHere 68 = .ok (.iconst 1, 1) := by decide +kernel
theorem dX12_sumHere_69 : decode cX12_sumHere 69 = .ok (.if_icmp .ne 27, 3) := by decide +kernel
theorem dX12_sumHere_72 : decode cX12_sumHere 72 = .ok (.aload_n 0, 1) := by decide +kernel
theorem dX12_sumHere_73 : decode cX12_sumHere 73 = .ok (.bipush 6, 2) := by decide +kernel
theorem dX12_sumHere_75 : decode cX12_sumHere 75 = .ok (.iconst 0, 1) := by decide +kernel
theorem dX12_sumHere_76 : decode cX12_sumHere 76 = .ok (.ldc 142, 2) := by decide +kernel
theorem dX12_sumHere_78 : decode cX12_sumHere 78 = .ok (.invokevirtual 143, 3) := by decide +kernel
theorem dX12_sumHere_81 : decode cX12_sumHere 81 = .ok (.ifCond .eq 19, 3) := by decide +kernel
theorem dX12_sumHere_84 : decode cX12_sumHere 84 = .ok (.aload_n 0, 1) := by decide +kernel
theorem dX12_sumHere_85 : decode cX12_sumHere 85 = .ok (.bipush 7, 2) := by decide +kernel
theorem dX12_sumHere_87 : decode cX12_sumHere 87 = .ok (.iconst 0, 1) := by decide +kernel
theorem dX12_sumHere_88 : decode cX12_sumHere 88 = .ok (.ldc 142, 2) := by decide +kernel
theorem dX12_sumHere_90 : decode cX12_sumHere 90 = .ok (.invokevirtual 143, 3) := by decide +kernel
theorem dX12_sumHere_93 : decode cX12_sumHere 93 = .ok (.ifCond .eq 7, 3) := by decide +kernel
theorem dX12_sumHere_96 : decode cX12_sumHere 96 = .ok (.iconst 1, 1) := by decide +kernel
theorem dX12_sumHere_97 : decode cX12_sumHere 97 = .ok (.goto 4, 3) := by decide +kernel
theorem dX12_sumHere_100 : decode cX12_sumHere 100 = .ok (.iconst 0, 1) := by decide +kernel
theorem dX12_sumHere_101 : decode cX12_sumHere 101 = .ok (.ireturn, 1) := by decide +kernel
theorem dX12_line_0 : decode cX12_line 0 = .ok (.aload_n 0, 1) := by decide +kernel
theorem dX12_line_1 : decode cX12_line 1 = .ok (.ldc 146, 2) := by decide +kernel
theorem dX12_line_3 : decode cX12_line 3 = .ok (.invokevirtual 134, 3) := by decide +kernel
theorem dX12_line_6 : decode cX12_line 6 = .ok (.ifCond .eq 7, 3) := by decide +kernel
theorem dX12_line_9 : decode cX12_line 9 = .ok (.iconst 0, 1) := by decide +kernel
theorem dX12_line_10 : decode cX12_line 10 = .ok (.goto 70, 3) := by decide +kernel
theorem dX12_line_13 : decode cX12_line 13 = .ok (.aload_n 0, 1) := by decide +kernel
theorem dX12_line_14 : decode cX12_line 14 = .ok (.ldc 148, 2) := by decide +kernel
theorem dX12_line_16 : decode cX12_line 16 = .ok (.invokevirtual 134, 3) := by decide +kernel
theorem dX12_line_19 : decode cX12_line 19 = .ok (.ifCond .eq 7, 3) := by decide +kernel
theorem dX12_line_22 : decode cX12_line 22 = .ok (.iconst 1, 1) := by decide +kernel
theorem dX12_line_23 : decode cX12_line 23 = .ok (.goto 57, 3) := by decide +kernel
theorem dX12_line_26 : decode cX12_line 26 = .ok (.aload_n 0, 1) := by decide +kernel
theorem dX12_line_27 : decode cX12_line 27 = .ok (.ldc 150, 2) := by decide +kernel
theorem dX12_line_29 : decode cX12_line 29 = .ok (.invokevirtual 134, 3) := by decide +kernel
theorem dX12_line_32 : decode cX12_line 32 = .ok (.ifCond .eq 7, 3) := by decide +kernel
theorem dX12_line_35 : decode cX12_line 35 = .ok (.iconst 2, 1) := by decide +kernel
theorem dX12_line_36 : decode cX12_line 36 = .ok (.goto 44, 3) := by decide +kernel
theorem dX12_line_39 : decode cX12_line 39 = .ok (.aload_n 0, 1) := by decide +kernel
theorem dX12_line_40 : decode cX12_line 40 = .ok (.ldc 152, 2) := by decide +kernel
theorem dX12_line_42 : decode cX12_line 42 = .ok (.invokevirtual 134, 3) := by decide +kernel
theorem dX12_line_45 : decode cX12_line 45 = .ok (.ifCond .eq 7, 3) := by decide +kernel
theorem dX12_line_48 : decode cX12_line 48 = .ok (.iconst 4, 1) := by decide +kernel
theorem dX12_line_49 : decode cX12_line 49 = .ok (.goto 31, 3) := by decide +kernel
theorem dX12_line_52 : decode cX12_line 52 = .ok (.aload_n 0, 1) := by decide +kernel
theorem dX12_line_53 : decode cX12_line 53 = .ok (.ldc 154, 2) := by decide +kernel
theorem dX12_line_55 : decode cX12_line 55 = .ok (.invokevirtual 134, 3) := by decide +kernel
theorem dX12_line_58 : decode cX12_line 58 = .ok (.ifCond .eq 7, 3) := by decide +kernel
theorem dX12_line_61 : decode cX12_line 61 = .ok (.iconst 5, 1) := by decide +kernel
theorem dX12_line_62 : decode cX12_line 62 = .ok (.goto 18, 3) := by decide +kernel
theorem dX12_line_65 : decode cX12_line 65 = .ok (.aload_n 0, 1) := by decide +kernel
theorem dX12_line_66 : decode cX12_line 66 = .ok (.ldc 156, 2) := by decide +kernel
theorem dX12_line_68 : decode cX12_line 68 = .ok (.invokevirtual 134, 3) := by decide +kernel
theorem dX12_line_71 : decode cX12_line 71 = .ok (.ifCond .eq 8, 3) := by decide +kernel
theorem dX12_line_74 : decode cX12_line 74 = .ok (.bipush 8, 2) := by decide +kernel
theorem dX12_line_76 : decode cX12_line 76 = .ok (.goto 4, 3) := by decide +kernel
theorem dX12_line_79 : decode cX12_line 79 = .ok (.iconst (-1), 1) := by decide +kernel
theorem dX12_line_80 : decode cX12_line 80 = .ok (.istore_n 1, 1) := by decide +kernel
theorem dX12_line_81 : decode cX12_line 81 = .ok (.iload_n 1, 1) := by decide +kernel
theorem dX12_line_82 : decode cX12_line 82 = .ok (.iconst (-1), 1) := by decide +kernel
theorem dX12_line_83 : decode cX12_line 83 = .ok (.if_icmp .eq 13, 3) := by decide +kernel
theorem dX12_line_86 : decode cX12_line 86 = .ok (.aload_n 0, 1) := by decide +kernel
theorem dX12_line_87 : decode cX12_line 87 = .ok (.getfield 13, 3) := by decide +kernel
theorem dX12_line_90 : decode cX12_line 90 = .ok (.iload_n 1, 1) := by decide +kernel
theorem dX12_line_91 : decode cX12_line 91 = .ok (.iaload, 1) := by decide +kernel
theorem dX12_line_92 : decode cX12_line 92 = .ok (.iconst (-1), 1) := by decide +kernel
theorem dX12_line_93 : decode cX12_line 93 = .ok (.if_icmp .eq 5, 3) := by decide +kernel
theorem dX12_line_96 : decode cX12_line 96 = .ok (.iconst 0, 1) := by decide +kernel
theorem dX12_line_97 : decode cX12_line 97 = .ok (.ireturn, 1) := by decide +kernel
theorem dX12_line_98 : decode cX12_line 98 = .ok (.aload_n 0, 1) := by decide +kernel
theorem dX12_line_99 : decode cX12_line 99 = .ok (.invokevirtual 129, 3) := by decide +kernel
theorem dX12_line_102 : decode cX12_line 102 = .ok (.iconst 1, 1) := by decide +kernel
theorem dX12_line_103 : decode cX12_line 103 = .ok (.istore_n 2, 1) := by decide +kernel
theorem dX12_line_104 : decode cX12_line 104 = .ok (.iload_n 1, 1) := by decide +kernel
theorem dX12_line_105 : decode cX12_line 105 = .ok (.tableswitch 117 0 5 #[39, 52, 64, 117, 97, 109], 39) := by decide +kernel
theorem dX12_line_144 : decode cX12_line 144 = .ok (.aload_n 0, 1) := by decide +kernel
theorem dX12_line_145 : decode cX12_line 145 = .ok (.iconst 0, 1) := by decide +kernel
theorem dX12_line_146 : decode cX12_line 146 = .ok (.bipush 8, 2) := by decide +kernel
theorem dX12_line_148 : decode cX12_line 148 = .ok (.bipush 60, 2) := by decide +kernel
theorem dX12_line_150 : decode cX12_line 150 = .ok (.invokevirtual 143, 3) := by decide +kernel
theorem dX12_line_153 : decode cX12_line 153 = .ok (.istore_n 2, 1) := by decide +kernel
theorem dX12_line_154 : decode cX12_line 154 = .ok (.goto 76, 3) := by decide +kernel
theorem dX12_line_157 : decode cX12_line 157 = .ok (.aload_n 0, 1) := by decide +kernel
theorem dX12_line_158 : decode cX12_line 158 = .ok (.iconst 1, 1) := by decide +kernel
theorem dX12_line_159 : decode cX12_line 159 = .ok (.iconst 0, 1) := by decide +kernel
theorem dX12_line_160 : decode cX12_line 160 = .ok (.bipush 8, 2) := by decide +kernel
theorem dX12_line_162 : decode cX12_line 162 = .ok (.invokevirtual 143, 3) := by decide +kernel
theorem dX12_line_165 : decode cX12_line 165 = .ok (.istore_n 2, 1) := by decide +kernel
theorem dX12_line_166 : decode cX12_line 166 = .ok (.goto 64, 3) := by decide +kernel
theorem dX12_line_169 : decode cX12_line 169 = .ok (.aload_n 0, 1) := by decide +kernel
theorem dX12_line_170 : decode cX12_line 170 = .ok (.iconst 2, 1) := by decide +kernel
theorem dX12_line_171 : decode cX12_line 171 = .ok (.iconst 0, 1) := by decide +kernel
theorem dX12_line_172 : decode cX12_line 172 = .ok (.sipush 255, 3) := by decide +kernel
theorem dX12_line_175 : decode cX12_line 175 = .ok (.invokevirtual 143, 3) := by decide +kernel
theorem dX12_line_178 : decode cX12_line 178 = .ok (.ifCond .eq 19, 3) := by decide +kernel
theorem dX12_line_181 : decode cX12_line 181 = .ok (.aload_n 0, 1) := by decide +kernel
theorem dX12_line_182 : decode cX12_line 182 = .ok (.iconst 3, 1) := by decide +kernel
theorem dX12_line_183 : decode cX12_line 183 = .ok (.iconst 0, 1) := by decide +kernel
theorem dX12_line_184 : decode cX12_line 184 = .ok (.sipush 255, 3) := by decide +kernel
theorem dX12_line_187 : decode cX12_line 187 = .ok (.invokevirtual 143, 3) := by decide +kernel
theorem dX12_line_190 : decode cX12_line 190 = .ok (.ifCond .eq 7, 3) := by decide +kernel
theorem dX12_line_193 : decode cX12_line 193 = .ok (.iconst 1, 1) := by decide +kernel
theorem dX12_line_194 : decode cX12_line 194 = .ok (.goto 4, 3) := by decide +kernel
theorem dX12_line_197 : decode cX12_line 197 = .ok (.iconst 0, 1) := by decide +kernel
theorem dX12_line_198 : decode cX12_line 198 = .ok (.istore_n 2, 1) := by decide +kernel
theorem dX12_line_199 : decode cX12_line 199 = .ok (.goto 31, 3) := by decide +kernel
theorem dX12_line_202 : decode cX12_line 202 = .ok (.aload_n 0, 1) := by decide +kernel
theorem dX12_line_203 : decode cX12_line 203 = .ok (.iconst 4, 1) := by decide +kernel
theorem dX12_line_204 : decode cX12_line 204 = .ok (.iconst 1, 1) := by decide +kernel
theorem dX12_line_205 : decode cX12_line 205 = .ok (.bipush 8, 2) := by decide +kernel
theorem dX12_line_207 : decode cX12_line 207 = .ok (.invokevirtual 143, 3) := by decide +kernel
theorem dX12_line_210 : decode cX12_line 210 = .ok (.istore_n 2, 1) := by decide +kernel
theorem dX12_line_211 : decode cX12_line 211 = .ok (.goto 19, 3) := by decide +kernel
theorem dX12_line_214 : decode cX12_line 214 = .ok (.aload_n 0, 1) := by decide +kernel
theorem dX12_line_215 : decode cX12_line 215 = .ok (.invokevirtual 158, 3) := by decide +kernel
theorem dX12_line_218 : decode cX12_line 218 = .ok (.istore_n 2, 1) := by decide +kernel
theorem dX12_line_219 : decode cX12_line 219 = .ok (.goto 11, 3) := by decide +kernel
theorem dX12_line_222 : decode cX12_line 222 = .ok (.aload_n 0, 1) := by decide +kernel
theorem dX12_line_223 : decode cX12_line 223 = .ok (.getfield 13, 3) := by decide +kernel
theorem dX12_line_226 : decode cX12_line 226 = .ok (.bipush 8, 2) := by decide +kernel
theorem dX12_line_228 : decode cX12_line 228 = .ok (.iconst 1, 1) := by decide +kernel
theorem dX12_line_229 : decode cX12_line 229 = .ok (.iastore, 1) := by decide +kernel
theorem dX12_line_230 : decode cX12_line 230 = .ok (.iload_n 2, 1) := by decide +kernel
theorem dX12_line_231 : decode cX12_line 231 = .ok (.ifCond .eq 14, 3) := by decide +kernel
theorem dX12_line_234 : decode cX12_line 234 = .ok (.aload_n 0, 1) := by decide +kernel
theorem dX12_line_235 : decode cX12_line 235 = .ok (.invokevirtual 162, 3) := by decide +kernel
theorem dX12_line_238 : decode cX12_line 238 = .ok (.ifCond .eq 7, 3) := by decide +kernel
theorem dX12_line_241 : decode cX12_line 241 = .ok (.iconst 1, 1) := by decide +kernel
theorem dX12_line_242 : decode cX12_line 242 = .ok (.goto 4, 3) := by decide +kernel
theorem dX12_line_245 : decode cX12_line 245 = .ok (.iconst 0, 1) := by decide +kernel
theorem dX12_line_246 : decode cX12_line 246 = .ok (.ireturn, 1) := by decide +kernel
theorem dX12_fault_0 : decode cX12_fault 0 = .ok (.iconst 0, 1) := by decide +kernel
theorem dX12_fault_1 : decode cX12_fault 1 = .ok (.istore_n 1, 1) := by decide +kernel
theorem dX12_fault_2 : decode cX12_fault 2 = .ok (.iload_n 1, 1) := by decide +kernel
theorem dX12_fault_3 : decode cX12_fault 3 = .ok (.bipush 9, 2) := by decide +kernel
theorem dX12_fault_5 : decode cX12_fault 5 = .ok (.if_icmp .ge 16, 3) := by decide +kernel
theorem dX12_fault_8 : decode cX12_fault 8 = .ok (.aload_n 0, 1) := by decide +kernel
theorem dX12_fault_9 : decode cX12_fault 9 = .ok (.getfield 13, 3) := by decide +kernel
theorem dX12_fault_12 : decode cX12_fault 12 = .ok (.iload_n 1, 1) := by decide +kernel
theorem dX12_fault_13 : decode cX12_fault 13 = .ok (.iconst (-1), 1) := by decide +kernel
theorem dX12_fault_14 : decode cX12_fault 14 = .ok (.iastore, 1) := by decide +kernel
theorem dX12_fault_15 : decode cX12_fault 15 = .ok (.iinc 1 1, 3) := by decide +kernel
theorem dX12_fault_18 : decode cX12_fault 18 = .ok (.goto (-16), 3) := by decide +kernel
theorem dX12_fault_21 : decode cX12_fault 21 = .ok (.aload_n 0, 1) := by decide +kernel
theorem dX12_fault_22 : decode cX12_fault 22 = .ok (.iconst 0, 1) := by decide +kernel
theorem dX12_fault_23 : decode cX12_fault 23 = .ok (.putfield 89, 3) := by decide +kernel
theorem dX12_fault_26 : decode cX12_fault 26 = .ok (.aload_n 0, 1) := by decide +kernel
theorem dX12_fault_27 : decode cX12_fault 27 = .ok (.invokevirtual 129, 3) := by decide +kernel
theorem dX12_fault_30 : decode cX12_fault 30 = .ok (.aload_n 0, 1) := by decide +kernel
theorem dX12_fault_31 : decode cX12_fault 31 = .ok (.getfield 99, 3) := by decide +kernel
theorem dX12_fault_34 : decode cX12_fault 34 = .ok (.ifCond .eq 15, 3) := by decide +kernel
theorem dX12_fault_37 : decode cX12_fault 37 = .ok (.aload_n 0, 1) := by decide +kernel
theorem dX12_fault_38 : decode cX12_fault 38 = .ok (.invokevirtual 165, 3) := by decide +kernel
theorem dX12_fault_41 : decode cX12_fault 41 = .ok (.ifCond .ne (-11), 3) := by decide +kernel
theorem dX12_fault_44 : decode cX12_fault 44 = .ok (.aload_n 0, 1) := by decide +kernel
theorem dX12_fault_45 : decode cX12_fault 45 = .ok (.getfield 92, 3) := by decide +kernel
theorem dX12_fault_48 : decode cX12_fault 48 = .ok (.ireturn, 1) := by decide +kernel
theorem dX12_fault_49 : decode cX12_fault 49 = .ok (.aload_n 0, 1) := by decide +kernel
theorem dX12_fault_50 : decode cX12_fault 50 = .ok (.getfield 13, 3) := by decide +kernel
theorem dX12_fault_53 : decode cX12_fault 53 = .ok (.iconst 0, 1) := by decide +kernel
theorem dX12_fault_54 : decode cX12_fault 54 = .ok (.iaload, 1) := by decide +kernel
theorem dX12_fault_55 : decode cX12_fault 55 = .ok (.iconst (-1), 1) := by decide +kernel
theorem dX12_fault_56 : decode cX12_fault 56 = .ok (.if_icmp .eq 33, 3) := by decide +kernel
theorem dX12_fault_59 : decode cX12_fault 59 = .ok (.aload_n 0, 1) := by decide +kernel
theorem dX12_fault_60 : decode cX12_fault 60 = .ok (.getfield 13, 3) := by decide +kernel
theorem dX12_fault_63 : decode cX12_fault 63 = .ok (.iconst 2, 1) := by decide +kernel
theorem dX12_fault_64 : decode cX12_fault 64 = .ok (.iaload, 1) := by decide +kernel
theorem dX12_fault_65 : decode cX12_fault 65 = .ok (.iconst (-1), 1) := by decide +kernel
theorem dX12_fault_66 : decode cX12_fault 66 = .ok (.if_icmp .eq 23, 3) := by decide +kernel
theorem dX12_fault_69 : decode cX12_fault 69 = .ok (.aload_n 0, 1) := by decide +kernel
theorem dX12_fault_70 : decode cX12_fault 70 = .ok (.getfield 13, 3) := by decide +kernel
theorem dX12_fault_73 : decode cX12_fault 73 = .ok (.iconst 4, 1) := by decide +kernel
theorem dX12_fault_74 : decode cX12_fault 74 = .ok (.iaload, 1) := by decide +kernel
theorem dX12_fault_75 : decode cX12_fault 75 = .ok (.iconst (-1), 1) := by decide +kernel
theorem dX12_fault_76 : decode cX12_fault 76 = .ok (.if_icmp .eq 13, 3) := by decide +kernel
theorem dX12_fault_79 : decode cX12_fault 79 = .ok (.aload_n 0, 1) := by decide +kernel
theorem dX12_fault_80 : decode cX12_fault 80 = .ok (.getfield 13, 3) := by decide +kernel
theorem dX12_fault_83 : decode cX12_fault 83 = .ok (.iconst 5, 1) := by decide +kernel
theorem dX12_fault_84 : decode cX12_fault 84 = .ok (.iaload, 1) := by decide +kernel
theorem dX12_fault_85 : decode cX12_fault 85 = .ok (.iconst (-1), 1) := by decide +kernel
theorem dX12_fault_86 : decode cX12_fault 86 = .ok (.if_icmp .ne 10, 3) := by decide +kernel
theorem dX12_fault_89 : decode cX12_fault 89 = .ok (.aload_n 0, 1) := by decide +kernel
theorem dX12_fault_90 : decode cX12_fault 90 = .ok (.getfield 92, 3) := by decide +kernel
theorem dX12_fault_93 : decode cX12_fault 93 = .ok (.goto 4, 3) := by decide +kernel
theorem dX12_fault_96 : decode cX12_fault 96 = .ok (.iconst (-1), 1) := by decide +kernel
theorem dX12_fault_97 : decode cX12_fault 97 = .ok (.ireturn, 1) := by decide +kernel
theorem dX12_format_0 : decode cX12_format 0 = .ok (.aload_n 0, 1) := by decide +kernel
theorem dX12_format_1 : decode cX12_format 1 = .ok (.invokevirtual 168, 3) := by decide +kernel
theorem dX12_format_4 : decode cX12_format 4 = .ok (.iconst (-1), 1) := by decide +kernel
theorem dX12_format_5 : decode cX12_format 5 = .ok (.if_icmp .eq 5, 3) := by decide +kernel
theorem dX12_format_8 : decode cX12_format 8 = .ok (.iconst (-1), 1) := by decide +kernel
theorem dX12_format_9 : decode cX12_format 9 = .ok (.ireturn, 1) := by decide +kernel
theorem dX12_format_10 : decode cX12_format 10 = .ok (.iconst 0, 1) := by decide +kernel
theorem dX12_format_11 : decode cX12_format 11 = .ok (.istore_n 1, 1) := by decide +kernel
theorem dX12_format_12 : decode cX12_format 12 = .ok (.iload_n 1, 1) := by decide +kernel
theorem dX12_format_13 : decode cX12_format 13 = .ok (.bipush 9, 2) := by decide +kernel
theorem dX12_format_15 : decode cX12_format 15 = .ok (.if_icmp .ge 35, 3) := by decide +kernel
theorem dX12_format_18 : decode cX12_format 18 = .ok (.aload_n 0, 1) := by decide +kernel
theorem dX12_format_19 : decode cX12_format 19 = .ok (.getfield 17, 3) := by decide +kernel
theorem dX12_format_22 : decode cX12_format 22 = .ok (.iload_n 1, 1) := by decide +kernel
theorem dX12_format_23 : decode cX12_format 23 = .ok (.aload_n 0, 1) := by decide +kernel
theorem dX12_format_24 : decode cX12_format 24 = .ok (.getfield 13, 3) := by decide +kernel
theorem dX12_format_27 : decode cX12_format 27 = .ok (.iload_n 1, 1) := by decide +kernel
theorem dX12_format_28 : decode cX12_format 28 = .ok (.iaload, 1) := by decide +kernel
theorem dX12_format_29 : decode cX12_format 29 = .ok (.iconst (-1), 1) := by decide +kernel
theorem dX12_format_30 : decode cX12_format 30 = .ok (.if_icmp .ne 7, 3) := by decide +kernel
theorem dX12_format_33 : decode cX12_format 33 = .ok (.iconst 0, 1) := by decide +kernel
theorem dX12_format_34 : decode cX12_format 34 = .ok (.goto 9, 3) := by decide +kernel
theorem dX12_format_37 : decode cX12_format 37 = .ok (.aload_n 0, 1) := by decide +kernel
theorem dX12_format_38 : decode cX12_format 38 = .ok (.getfield 13, 3) := by decide +kernel
theorem dX12_format_41 : decode cX12_format 41 = .ok (.iload_n 1, 1) := by decide +kernel
theorem dX12_format_42 : decode cX12_format 42 = .ok (.iaload, 1) := by decide +kernel
theorem dX12_format_43 : decode cX12_format 43 = .ok (.iastore, 1) := by decide +kernel
theorem dX12_format_44 : decode cX12_format 44 = .ok (.iinc 1 1, 3) := by decide +kernel
theorem dX12_format_47 : decode cX12_format 47 = .ok (.goto (-35), 3) := by decide +kernel
theorem dX12_format_50 : decode cX12_format 50 = .ok (.aload_n 0, 1) := by decide +kernel
theorem dX12_format_51 : decode cX12_format 51 = .ok (.iconst 1, 1) := by decide +kernel
theorem dX12_format_52 : decode cX12_format 52 = .ok (.putfield 171, 3) := by decide +kernel
theorem dX12_format_55 : decode cX12_format 55 = .ok (.aload_n 0, 1) := by decide +kernel
theorem dX12_format_56 : decode cX12_format 56 = .ok (.iconst 0, 1) := by decide +kernel
theorem dX12_format_57 : decode cX12_format 57 = .ok (.putfield 175, 3) := by decide +kernel
theorem dX12_format_60 : decode cX12_format 60 = .ok (.aload_n 0, 1) := by decide +kernel
theorem dX12_format_61 : decode cX12_format 61 = .ok (.iconst 0, 1) := by decide +kernel
theorem dX12_format_62 : decode cX12_format 62 = .ok (.putfield 178, 3) := by decide +kernel
theorem dX12_format_65 : decode cX12_format 65 = .ok (.aload_n 0, 1) := by decide +kernel
theorem dX12_format_66 : decode cX12_format 66 = .ok (.iconst 0, 1) := by decide +kernel
theorem dX12_format_67 : decode cX12_format 67 = .ok (.putfield 81, 3) := by decide +kernel
theorem dX12_format_70 : decode cX12_format 70 = .ok (.aload_n 0, 1) := by decide +kernel
theorem dX12_format_71 : decode cX12_format 71 = .ok (.getfield 17, 3) := by decide +kernel
theorem dX12_format_74 : decode cX12_format 74 = .ok (.iconst 4, 1) := by decide +kernel
theorem dX12_format_75 : decode cX12_format 75 = .ok (.iaload, 1) := by decide +kernel
theorem dX12_format_76 : decode cX12_format 76 = .ok (.ireturn, 1) := by decide +kernel
theorem dX12_flux_0 : decode cX12_flux 0 = .ok (.iconst 0, 1) := by decide +kernel
theorem dX12_flux_1 : decode cX12_flux 1 = .ok (.istore 6, 2) := by decide +kernel
theorem dX12_flux_3 : decode cX12_flux 3 = .ok (.iconst 0, 1) := by decide +kernel
theorem dX12_flux_4 : decode cX12_flux 4 = .ok (.istore 7, 2) := by decide +kernel
theorem dX12_flux_6 : decode cX12_flux 6 = .ok (.iload 7, 2) := by decide +kernel
theorem dX12_flux_8 : decode cX12_flux 8 = .ok (.bipush 20, 2) := by decide +kernel
theorem dX12_flux_10 : decode cX12_flux 10 = .ok (.if_icmp .ge 34, 3) := by decide +kernel
theorem dX12_flux_13 : decode cX12_flux 13 = .ok (.iload 6, 2) := by decide +kernel
theorem dX12_flux_15 : decode cX12_flux 15 = .ok (.iload 7, 2) := by decide +kernel
theorem dX12_flux_17 : decode cX12_flux 17 = .ok (.iload_n 1, 1) := by decide +kernel
theorem dX12_flux_18 : decode cX12_flux 18 = .ok (.iload_n 2, 1) := by decide +kernel
theorem dX12_flux_19 : decode cX12_flux 19 = .ok (.iload_n 3, 1) := by decide +kernel
theorem dX12_flux_20 : decode cX12_flux 20 = .ok (.iload 4, 2) := by decide +kernel
theorem dX12_flux_22 : decode cX12_flux 22 = .ok (.iload 5, 2) := by decide +kernel
theorem dX12_flux_24 : decode cX12_flux 24 = .ok (.invokestatic 181, 3) := by decide +kernel
theorem dX12_flux_27 : decode cX12_flux 27 = .ok (.ifCond .le 7, 3) := by decide +kernel
theorem dX12_flux_30 : decode cX12_flux 30 = .ok (.iconst 1, 1) := by decide +kernel
theorem dX12_flux_31 : decode cX12_flux 31 = .ok (.goto 4, 3) := by decide +kernel
theorem dX12_flux_34 : decode cX12_flux 34 = .ok (.iconst 0, 1) := by decide +kernel
theorem dX12_flux_35 : decode cX12_flux 35 = .ok (.iadd, 1) := by decide +kernel
theorem dX12_flux_36 : decode cX12_flux 36 = .ok (.istore 6, 2) := by decide +kernel
theorem dX12_flux_38 : decode cX12_flux 38 = .ok (.iinc 7 1, 3) := by decide +kernel
theorem dX12_flux_41 : decode cX12_flux 41 = .ok (.goto (-35), 3) := by decide +kernel
theorem dX12_flux_44 : decode cX12_flux 44 = .ok (.aload_n 0, 1) := by decide +kernel
theorem dX12_flux_45 : decode cX12_flux 45 = .ok (.getfield 178, 3) := by decide +kernel
theorem dX12_flux_48 : decode cX12_flux 48 = .ok (.iload 6, 2) := by decide +kernel
theorem dX12_flux_50 : decode cX12_flux 50 = .ok (.iadd, 1) := by decide +kernel
theorem dX12_flux_51 : decode cX12_flux 51 = .ok (.sipush 320, 3) := by decide +kernel
theorem dX12_flux_54 : decode cX12_flux 54 = .ok (.if_icmp .le 5, 3) := by decide +kernel
theorem dX12_flux_57 : decode cX12_flux 57 = .ok (.iconst (-1), 1) := by decide +kernel
theorem dX12_flux_58 : decode cX12_flux 58 = .ok (.ireturn, 1) := by decide +kernel
theorem dX12_flux_59 : decode cX12_flux 59 = .ok (.iconst 0, 1) := by decide +kernel
theorem dX12_flux_60 : decode cX12_flux 60 = .ok (.istore 7, 2) := by decide +kernel
theorem dX12_flux_62 : decode cX12_flux 62 = .ok (.iload 7, 2) := by decide +kernel
theorem dX12_flux_64 : decode cX12_flux 64 = .ok (.bipush 20, 2) := by decide +kernel
theorem dX12_flux_66 : decode cX12_flux 66 = .ok (.if_icmp .ge 52, 3) := by decide +kernel
theorem dX12_flux_69 : decode cX12_flux 69 = .ok (.iload 7, 2) := by decide +kernel
theorem dX12_flux_71 : decode cX12_flux 71 = .ok (.iload_n 1, 1) := by decide +kernel
theorem dX12_flux_72 : decode cX12_flux 72 = .ok (.iload_n 2, 1) := by decide +kernel
theorem dX12_flux_73 : decode cX12_flux 73 = .ok (.iload_n 3, 1) := by decide +kernel
theorem dX12_flux_74 : decode cX12_flux 74 = .ok (.iload 4, 2) := by decide +kernel
theorem dX12_flux_76 : decode cX12_flux 76 = .ok (.iload 5, 2) := by decide +kernel
theorem dX12_flux_78 : decode cX12_flux 78 = .ok (.invokestatic 181, 3) := by decide +kernel
theorem dX12_flux_81 : decode cX12_flux 81 = .ok (.istore 8, 2) := by decide +kernel
theorem dX12_flux_83 : decode cX12_flux 83 = .ok (.iload 8, 2) := by decide +kernel
theorem dX12_flux_85 : decode cX12_flux 85 = .ok (.ifCond .ne 6, 3) := by decide +kernel
theorem dX12_flux_88 : decode cX12_flux 88 = .ok (.goto 24, 3) := by decide +kernel
theorem dX12_flux_91 : decode cX12_flux 91 = .ok (.aload_n 0, 1) := by decide +kernel
theorem dX12_flux_92 : decode cX12_flux 92 = .ok (.getfield 20, 3) := by decide +kernel
theorem dX12_flux_95 : decode cX12_flux 95 = .ok (.aload_n 0, 1) := by decide +kernel
theorem dX12_flux_96 : decode cX12_flux 96 = .ok (.getfield 178, 3) := by decide +kernel
theorem dX12_flux_99 : decode cX12_flux 99 = .ok (.iload 8, 2) := by decide +kernel
theorem dX12_flux_101 : decode cX12_flux 101 = .ok (.iastore, 1) := by decide +kernel
theorem dX12_flux_102 : decode cX12_flux 102 = .ok (.aload_n 0, 1) := by decide +kernel
theorem dX12_flux_103 : decode cX12_flux 103 = .ok (.dup, 1) := by decide +kernel
theorem dX12_flux_104 : decode cX12_flux 104 = .ok (.getfield 178, 3) := by decide +kernel
theorem dX12_flux_107 : decode cX12_flux 107 = .ok (.iconst 1, 1) := by decide +kernel
theorem dX12_flux_108 : decode cX12_flux 108 = .ok (.iadd, 1) := by decide +kernel
theorem dX12_flux_109 : decode cX12_flux 109 = .ok (.putfield 178, 3) := by decide +kernel
theorem dX12_flux_112 : decode cX12_flux 112 = .ok (.iinc 7 1, 3) := by decide +kernel
theorem dX12_flux_115 : decode cX12_flux 115 = .ok (.goto (-53), 3) := by decide +kernel
theorem dX12_flux_118 : decode cX12_flux 118 = .ok (.aload_n 0, 1) := by decide +kernel
theorem dX12_flux_119 : decode cX12_flux 119 = .ok (.getfield 178, 3) := by decide +kernel
theorem dX12_flux_122 : decode cX12_flux 122 = .ok (.ireturn, 1) := by decide +kernel
theorem dX12_byteOf_0 : decode cX12_byteOf 0 = .ok (.iload_n 0, 1) := by decide +kernel
theorem dX12_byteOf_1 : decode cX12_byteOf 1 = .ok (.iconst 4, 1) := by decide +kernel
theorem dX12_byteOf_2 : decode cX12_byteOf 2 = .ok (.if_icmp .ge 7, 3) := by decide +kernel
theorem dX12_byteOf_5 : decode cX12_byteOf 5 = .ok (.iload_n 1, 1) := by decide +kernel
theorem dX12_byteOf_6 : decode cX12_byteOf 6 = .ok (.goto 36, 3) := by decide +kernel
theorem dX12_byteOf_9 : decode cX12_byteOf 9 = .ok (.iload_n 0, 1) := by decide +kernel
theorem dX12_byteOf_10 : decode cX12_byteOf 10 = .ok (.bipush 8, 2) := by decide +kernel
theorem dX12_byteOf_12 : decode cX12_byteOf 12 = .ok (.if_icmp .ge 7, 3) := by decide +kernel
theorem dX12_byteOf_15 : decode cX12_byteOf 15 = .ok (.iload_n 2, 1) := by decide +kernel
theorem dX12_byteOf_16 : decode cX12_byteOf 16 = .ok (.goto 26, 3) := by decide +kernel
theorem dX12_byteOf_19 : decode cX12_byteOf 19 = .ok (.iload_n 0, 1) := by decide +kernel
theorem dX12_byteOf_20 : decode cX12_byteOf 20 = .ok (.bipush 12, 2) := by decide +kernel
theorem dX12_byteOf_22 : decode cX12_byteOf 22 = .ok (.if_icmp .ge 7, 3) := by decide +kernel
theorem dX12_byteOf_25 : decode cX12_byteOf 25 = .ok (.iload_n 3, 1) := by decide +kernel
theorem dX12_byteOf_26 : decode cX12_byteOf 26 = .ok (.goto 16, 3) := by decide +kernel
theorem dX12_byteOf_29 : decode cX12_byteOf 29 = .ok (.iload_n 0, 1) := by decide +kernel
theorem dX12_byteOf_30 : decode cX12_byteOf 30 = .ok (.bipush 16, 2) := by decide +kernel
theorem dX12_byteOf_32 : decode cX12_byteOf 32 = .ok (.if_icmp .ge 8, 3) := by decide +kernel
theorem dX12_byteOf_35 : decode cX12_byteOf 35 = .ok (.iload 4, 2) := by decide +kernel
theorem dX12_byteOf_37 : decode cX12_byteOf 37 = .ok (.goto 5, 3) := by decide +kernel
theorem dX12_byteOf_40 : decode cX12_byteOf 40 = .ok (.iload 5, 2) := by decide +kernel
theorem dX12_byteOf_42 : decode cX12_byteOf 42 = .ok (.istore 6, 2) := by decide +kernel
theorem dX12_byteOf_44 : decode cX12_byteOf 44 = .ok (.iload 6, 2) := by decide +kernel
theorem dX12_byteOf_46 : decode cX12_byteOf 46 = .ok (.bipush 24, 2) := by decide +kernel
theorem dX12_byteOf_48 : decode cX12_byteOf 48 = .ok (.bipush 8, 2) := by decide +kernel
theorem dX12_byteOf_50 : decode cX12_byteOf 50 = .ok (.iload_n 0, 1) := by decide +kernel
theorem dX12_byteOf_51 : decode cX12_byteOf 51 = .ok (.iconst 4, 1) := by decide +kernel
theorem dX12_byteOf_52 : decode cX12_byteOf 52 = .ok (.irem, 1) := by decide +kernel
theorem dX12_byteOf_53 : decode cX12_byteOf 53 = .ok (.imul, 1) := by decide +kernel
theorem dX12_byteOf_54 : decode cX12_byteOf 54 = .ok (.isub, 1) := by decide +kernel
theorem dX12_byteOf_55 : decode cX12_byteOf 55 = .ok (.ishr, 1) := by decide +kernel
theorem dX12_byteOf_56 : decode cX12_byteOf 56 = .ok (.sipush 255, 3) := by decide +kernel
theorem dX12_byteOf_59 : decode cX12_byteOf 59 = .ok (.iand, 1) := by decide +kernel
theorem dX12_byteOf_60 : decode cX12_byteOf 60 = .ok (.ireturn, 1) := by decide +kernel
theorem dX12_wipe_0 : decode cX12_wipe 0 = .ok (.aload_n 0, 1) := by decide +kernel
theorem dX12_wipe_1 : decode cX12_wipe 1 = .ok (.getfield 178, 3) := by decide +kernel
theorem dX12_wipe_4 : decode cX12_wipe 4 = .ok (.istore_n 1, 1) := by decide +kernel
theorem dX12_wipe_5 : decode cX12_wipe 5 = .ok (.aload_n 0, 1) := by decide +kernel
theorem dX12_wipe_6 : decode cX12_wipe 6 = .ok (.iconst 0, 1) := by decide +kernel
theorem dX12_wipe_7 : decode cX12_wipe 7 = .ok (.putfield 178, 3) := by decide +kernel
theorem dX12_wipe_10 : decode cX12_wipe 10 = .ok (.iload_n 1, 1) := by decide +kernel
theorem dX12_wipe_11 : decode cX12_wipe 11 = .ok (.ireturn, 1) := by decide +kernel
theorem dX12_read_0 : decode cX12_read 0 = .ok (.aload_n 0, 1) := by decide +kernel
theorem dX12_read_1 : decode cX12_read 1 = .ok (.getfield 171, 3) := by decide +kernel
theorem dX12_read_4 : decode cX12_read 4 = .ok (.ifCond .eq 21, 3) := by decide +kernel
theorem dX12_read_7 : decode cX12_read 7 = .ok (.iload_n 1, 1) := by decide +kernel
theorem dX12_read_8 : decode cX12_read 8 = .ok (.iconst 0, 1) := by decide +kernel
theorem dX12_read_9 : decode cX12_read 9 = .ok (.iconst 3, 1) := by decide +kernel
theorem dX12_read_10 : decode cX12_read 10 = .ok (.invokestatic 85, 3) := by decide +kernel
theorem dX12_read_13 : decode cX12_read 13 = .ok (.ifCond .eq 12, 3) := by decide +kernel
theorem dX12_read_16 : decode cX12_read 16 = .ok (.aload_n 0, 1) := by decide +kernel
theorem dX12_read_17 : decode cX12_read 17 = .ok (.getfield 175, 3) := by decide +kernel
theorem dX12_read_20 : decode cX12_read 20 = .ok (.bipush 10, 2) := by decide +kernel
theorem dX12_read_22 : decode cX12_read 22 = .ok (.if_icmp .ne 5, 3) := by decide +kernel
theorem dX12_read_25 : decode cX12_read 25 = .ok (.iconst (-1), 1) := by decide +kernel
theorem dX12_read_26 : decode cX12_read 26 = .ok (.ireturn, 1) := by decide +kernel
theorem dX12_read_27 : decode cX12_read 27 = .ok (.aload_n 0, 1) := by decide +kernel
theorem dX12_read_28 : decode cX12_read 28 = .ok (.getfield 23, 3) := by decide +kernel
theorem dX12_read_31 : decode cX12_read 31 = .ok (.aload_n 0, 1) := by decide +kernel
theorem dX12_read_32 : decode cX12_read 32 = .ok (.getfield 175, 3) := by decide +kernel
theorem dX12_read_35 : decode cX12_read 35 = .ok (.iload_n 1, 1) := by decide +kernel
theorem dX12_read_36 : decode cX12_read 36 = .ok (.iastore, 1) := by decide +kernel
theorem dX12_read_37 : decode cX12_read 37 = .ok (.aload_n 0, 1) := by decide +kernel
theorem dX12_read_38 : decode cX12_read 38 = .ok (.getfield 26, 3) := by decide +kernel
theorem dX12_read_41 : decode cX12_read 41 = .ok (.aload_n 0, 1) := by decide +kernel
theorem dX12_read_42 : decode cX12_read 42 = .ok (.getfield 175, 3) := by decide +kernel
theorem dX12_read_45 : decode cX12_read 45 = .ok (.aload_n 0, 1) := by decide +kernel
theorem dX12_read_46 : decode cX12_read 46 = .ok (.getfield 178, 3) := by decide +kernel
theorem dX12_read_49 : decode cX12_read 49 = .ok (.iastore, 1) := by decide +kernel
theorem dX12_read_50 : decode cX12_read 50 = .ok (.iconst 0, 1) := by decide +kernel
theorem dX12_read_51 : decode cX12_read 51 = .ok (.istore_n 2, 1) := by decide +kernel
theorem dX12_read_52 : decode cX12_read 52 = .ok (.iload_n 2, 1) := by decide +kernel
theorem dX12_read_53 : decode cX12_read 53 = .ok (.aload_n 0, 1) := by decide +kernel
theorem dX12_read_54 : decode cX12_read 54 = .ok (.getfield 178, 3) := by decide +kernel
theorem dX12_read_57 : decode cX12_read 57 = .ok (.if_icmp .ge 30, 3) := by decide +kernel
theorem dX12_read_60 : decode cX12_read 60 = .ok (.aload_n 0, 1) := by decide +kernel
theorem dX12_read_61 : decode cX12_read 61 = .ok (.getfield 29, 3) := by decide +kernel
theorem dX12_read_64 : decode cX12_read 64 = .ok (.sipush 320, 3) := by decide +kernel
theorem dX12_read_67 : decode cX12_read 67 = .ok (.aload_n 0, 1) := by decide +kernel
theorem dX12_read_68 : decode cX12_read 68 = .ok (.getfield 175, 3) := by decide +kernel
theorem dX12_read_71 : decode cX12_read 71 = .ok (.imul, 1) := by decide +kernel
theorem dX12_read_72 : decode cX12_read 72 = .ok (.iload_n 2, 1) := by decide +kernel
theorem dX12_read_73 : decode cX12_read 73 = .ok (.iadd, 1) := by decide +kernel
theorem dX12_read_74 : decode cX12_read 74 = .ok (.aload_n 0, 1) := by decide +kernel
theorem dX12_read_75 : decode cX12_read 75 = .ok (.getfield 20, 3) := by decide +kernel
theorem dX12_read_78 : decode cX12_read 78 = .ok (.iload_n 2, 1) := by decide +kernel
theorem dX12_read_79 : decode cX12_read 79 = .ok (.iaload, 1) := by decide +kernel
theorem dX12_read_80 : decode cX12_read 80 = .ok (.iastore, 1) := by decide +kernel
theorem dX12_read_81 : decode cX12_read 81 = .ok (.iinc 2 1, 3) := by decide +kernel
theorem dX12_read_84 : decode cX12_read 84 = .ok (.goto (-32), 3) := by decide +kernel
theorem dX12_read_87 : decode cX12_read 87 = .ok (.aload_n 0, 1) := by decide +kernel
theorem dX12_read_88 : decode cX12_read 88 = .ok (.iconst 0, 1) := by decide +kernel
theorem dX12_read_89 : decode cX12_read 89 = .ok (.putfield 178, 3) := by decide +kernel
theorem dX12_read_92 : decode cX12_read 92 = .ok (.aload_n 0, 1) := by decide +kernel
theorem dX12_read_93 : decode cX12_read 93 = .ok (.dup, 1) := by decide +kernel
theorem dX12_read_94 : decode cX12_read 94 = .ok (.getfield 175, 3) := by decide +kernel
theorem dX12_read_97 : decode cX12_read 97 = .ok (.iconst 1, 1) := by decide +kernel
theorem dX12_read_98 : decode cX12_read 98 = .ok (.iadd, 1) := by decide +kernel
theorem dX12_read_99 : decode cX12_read 99 = .ok (.putfield 175, 3) := by decide +kernel
theorem dX12_read_102 : decode cX12_read 102 = .ok (.aload_n 0, 1) := by decide +kernel
theorem dX12_read_103 : decode cX12_read 103 = .ok (.getfield 175, 3) := by decide +kernel
theorem dX12_read_106 : decode cX12_read 106 = .ok (.iconst 1, 1) := by decide +kernel
theorem dX12_read_107 : decode cX12_read 107 = .ok (.isub, 1) := by decide +kernel
theorem dX12_read_108 : decode cX12_read 108 = .ok (.ireturn, 1) := by decide +kernel
theorem dX12_turns_0 : decode cX12_turns 0 = .ok (.aload_n 0, 1) := by decide +kernel
theorem dX12_turns_1 : decode cX12_turns 1 = .ok (.iconst 0, 1) := by decide +kernel
theorem dX12_turns_2 : decode cX12_turns 2 = .ok (.putfield 185, 3) := by decide +kernel
theorem dX12_turns_5 : decode cX12_turns 5 = .ok (.bipush 16, 2) := by decide +kernel
theorem dX12_turns_7 : decode cX12_turns 7 = .ok (.iload_n 2, 1) := by decide +kernel
theorem dX12_turns_8 : decode cX12_turns 8 = .ok (.imul, 1) := by decide +kernel
theorem dX12_turns_9 : decode cX12_turns 9 = .ok (.istore 4, 2) := by decide +kernel
theorem dX12_turns_11 : decode cX12_turns 11 = .ok (.iload_n 1, 1) := by decide +kernel
theorem dX12_turns_12 : decode cX12_turns 12 = .ok (.iconst (-1), 1) := by decide +kernel
theorem dX12_turns_13 : decode cX12_turns 13 = .ok (.if_icmp .ne 10, 3) := by decide +kernel
theorem dX12_turns_16 : decode cX12_turns 16 = .ok (.aload_n 0, 1) := by decide +kernel
theorem dX12_turns_17 : decode cX12_turns 17 = .ok (.getfield 178, 3) := by decide +kernel
theorem dX12_turns_20 : decode cX12_turns 20 = .ok (.goto 9, 3) := by decide +kernel
theorem dX12_turns_23 : decode cX12_turns 23 = .ok (.aload_n 0, 1) := by decide +kernel
theorem dX12_turns_24 : decode cX12_turns 24 = .ok (.getfield 26, 3) := by decide +kernel
theorem dX12_turns_27 : decode cX12_turns 27 = .ok (.iload_n 1, 1) := by decide +kernel
theorem dX12_turns_28 : decode cX12_turns 28 = .ok (.iaload, 1) := by decide +kernel
theorem dX12_turns_29 : decode cX12_turns 29 = .ok (.istore 5, 2) := by decide +kernel
theorem dX12_turns_31 : decode cX12_turns 31 = .ok (.iconst 0, 1) := by decide +kernel
theorem dX12_turns_32 : decode cX12_turns 32 = .ok (.istore 6, 2) := by decide +kernel
theorem dX12_turns_34 : decode cX12_turns 34 = .ok (.iload 6, 2) := by decide +kernel
theorem dX12_turns_36 : decode cX12_turns 36 = .ok (.iload 5, 2) := by decide +kernel
theorem dX12_turns_38 : decode cX12_turns 38 = .ok (.if_icmp .ge 195, 3) := by decide +kernel
theorem dX12_turns_41 : decode cX12_turns 41 = .ok (.iload_n 1, 1) := by decide +kernel
theorem dX12_turns_42 : decode cX12_turns 42 = .ok (.iconst (-1), 1) := by decide +kernel
theorem dX12_turns_43 : decode cX12_turns 43 = .ok (.if_icmp .ne 13, 3) := by decide +kernel
theorem dX12_turns_46 : decode cX12_turns 46 = .ok (.aload_n 0, 1) := by decide +kernel
theorem dX12_turns_47 : decode cX12_turns 47 = .ok (.getfield 20, 3) := by decide +kernel
theorem dX12_turns_50 : decode cX12_turns 50 = .ok (.iload 6, 2) := by decide +kernel
theorem dX12_turns_52 : decode cX12_turns 52 = .ok (.iaload, 1) := by decide +kernel
theorem dX12_turns_53 : decode cX12_turns 53 = .ok (.goto 16, 3) := by decide +kernel
theorem dX12_turns_56 : decode cX12_turns 56 = .ok (.aload_n 0, 1) := by decide +kernel
theorem dX12_turns_57 : decode cX12_turns 57 = .ok (.getfield 29, 3) := by decide +kernel
theorem dX12_turns_60 : decode cX12_turns 60 = .ok (.sipush 320, 3) := by decide +kernel
theorem dX12_turns_63 : decode cX12_turns 63 = .ok (.iload_n 1, 1) := by decide +kernel
theorem dX12_turns_64 : decode cX12_turns 64 = .ok (.imul, 1) := by decide +kernel
theorem dX12_turns_65 : decode cX12_turns 65 = .ok (.iload 6, 2) := by decide +kernel
theorem dX12_turns_67 : decode cX12_turns 67 = .ok (.iadd, 1) := by decide +kernel
theorem dX12_turns_68 : decode cX12_turns 68 = .ok (.iaload, 1) := by decide +kernel
theorem dX12_turns_69 : decode cX12_turns 69 = .ok (.istore 7, 2) := by decide +kernel
theorem dX12_turns_71 : decode cX12_turns 71 = .ok (.bipush 32, 2) := by decide +kernel
theorem dX12_turns_73 : decode cX12_turns 73 = .ok (.iload 7, 2) := by decide +kernel
theorem dX12_turns_75 : decode cX12_turns 75 = .ok (.imul, 1) := by decide +kernel
theorem dX12_turns_76 : decode cX12_turns 76 = .ok (.iload 4, 2) := by decide +kernel
theorem dX12_turns_78 : decode cX12_turns 78 = .ok (.iadd, 1) := by decide +kernel
theorem dX12_turns_79 : decode cX12_turns 79 = .ok (.iconst 2, 1) := by decide +kernel
theorem dX12_turns_80 : decode cX12_turns 80 = .ok (.iload 4, 2) := by decide +kernel
theorem dX12_turns_82 : decode cX12_turns 82 = .ok (.imul, 1) := by decide +kernel
theorem dX12_turns_83 : decode cX12_turns 83 = .ok (.idiv, 1) := by decide +kernel
theorem dX12_turns_84 : decode cX12_turns 84 = .ok (.istore 8, 2) := by decide +kernel
theorem dX12_turns_86 : decode cX12_turns 86 = .ok (.iload 8, 2) := by decide +kernel
theorem dX12_turns_88 : decode cX12_turns 88 = .ok (.iconst 1, 1) := by decide +kernel
theorem dX12_turns_89 : decode cX12_turns 89 = .ok (.if_icmp .ge 7, 3) := by decide +kernel
theorem dX12_turns_92 : decode cX12_turns 92 = .ok (.iconst 1, 1) := by decide +kernel
theorem dX12_turns_93 : decode cX12_turns 93 = .ok (.goto 17, 3) := by decide +kernel
theorem dX12_turns_96 : decode cX12_turns 96 = .ok (.iload 8, 2) := by decide +kernel
theorem dX12_turns_98 : decode cX12_turns 98 = .ok (.bipush 8, 2) := by decide +kernel
theorem dX12_turns_100 : decode cX12_turns 100 = .ok (.if_icmp .le 8, 3) := by decide +kernel
theorem dX12_turns_103 : decode cX12_turns 103 = .ok (.bipush 8, 2) := by decide +kernel
theorem dX12_turns_105 : decode cX12_turns 105 = .ok (.goto 5, 3) := by decide +kernel
theorem dX12_turns_108 : decode cX12_turns 108 = .ok (.iload 8, 2) := by decide +kernel
theorem dX12_turns_110 : decode cX12_turns 110 = .ok (.istore 8, 2) := by decide +kernel
theorem dX12_turns_112 : decode cX12_turns 112 = .ok (.iconst 1, 1) := by decide +kernel
theorem dX12_turns_113 : decode cX12_turns 113 = .ok (.istore 9, 2) := by decide +kernel
theorem dX12_turns_115 : decode cX12_turns 115 = .ok (.iload 9, 2) := by decide +kernel
theorem dX12_turns_117 : decode cX12_turns 117 = .ok (.iload 8, 2) := by decide +kernel
theorem dX12_turns_119 : decode cX12_turns 119 = .ok (.if_icmp .ge 29, 3) := by decide +kernel
theorem dX12_turns_122 : decode cX12_turns 122 = .ok (.aload_n 0, 1) := by decide +kernel
theorem dX12_turns_123 : decode cX12_turns 123 = .ok (.getfield 41, 3) := by decide +kernel
theorem dX12_turns_126 : decode cX12_turns 126 = .ok (.aload_n 0, 1) := by decide +kernel
theorem dX12_turns_127 : decode cX12_turns 127 = .ok (.getfield 185, 3) := by decide +kernel
theorem dX12_turns_130 : decode cX12_turns 130 = .ok (.iconst 0, 1) := by decide +kernel
theorem dX12_turns_131 : decode cX12_turns 131 = .ok (.bastore, 1) := by decide +kernel
theorem dX12_turns_132 : decode cX12_turns 132 = .ok (.aload_n 0, 1) := by decide +kernel
theorem dX12_turns_133 : decode cX12_turns 133 = .ok (.dup, 1) := by decide +kernel
theorem dX12_turns_134 : decode cX12_turns 134 = .ok (.getfield 185, 3) := by decide +kernel
theorem dX12_turns_137 : decode cX12_turns 137 = .ok (.iconst 1, 1) := by decide +kernel
theorem dX12_turns_138 : decode cX12_turns 138 = .ok (.iadd, 1) := by decide +kernel
theorem dX12_turns_139 : decode cX12_turns 139 = .ok (.putfield 185, 3) := by decide +kernel
theorem dX12_turns_142 : decode cX12_turns 142 = .ok (.iinc 9 1, 3) := by decide +kernel
theorem dX12_turns_145 : decode cX12_turns 145 = .ok (.goto (-30), 3) := by decide +kernel
theorem dX12_turns_148 : decode cX12_turns 148 = .ok (.aload_n 0, 1) := by decide +kernel
theorem dX12_turns_149 : decode cX12_turns 149 = .ok (.getfield 41, 3) := by decide +kernel
theorem dX12_turns_152 : decode cX12_turns 152 = .ok (.aload_n 0, 1) := by decide +kernel
theorem dX12_turns_153 : decode cX12_turns 153 = .ok (.getfield 185, 3) := by decide +kernel
theorem dX12_turns_156 : decode cX12_turns 156 = .ok (.iconst 1, 1) := by decide +kernel
theorem dX12_turns_157 : decode cX12_turns 157 = .ok (.bastore, 1) := by decide +kernel
theorem dX12_turns_158 : decode cX12_turns 158 = .ok (.aload_n 0, 1) := by decide +kernel
theorem dX12_turns_159 : decode cX12_turns 159 = .ok (.dup, 1) := by decide +kernel
theorem dX12_turns_160 : decode cX12_turns 160 = .ok (.getfield 185, 3) := by decide +kernel
theorem dX12_turns_163 : decode cX12_turns 163 = .ok (.iconst 1, 1) := by decide +kernel
theorem dX12_turns_164 : decode cX12_turns 164 = .ok (.iadd, 1) := by decide +kernel
theorem dX12_turns_165 : decode cX12_turns 165 = .ok (.putfield 185, 3) := by decide +kernel
theorem dX12_turns_168 : decode cX12_turns 168 = .ok (.iload 4, 2) := by decide +kernel
theorem dX12_turns_170 : decode cX12_turns 170 = .ok (.bipush 16, 2) := by decide +kernel
theorem dX12_turns_172 : decode cX12_turns 172 = .ok (.iload 7, 2) := by decide +kernel
theorem dX12_turns_174 : decode cX12_turns 174 = .ok (.imul, 1) := by decide +kernel
theorem dX12_turns_175 : decode cX12_turns 175 = .ok (.iload 8, 2) := by decide +kernel
theorem dX12_turns_177 : decode cX12_turns 177 = .ok (.idiv, 1) := by decide +kernel
theorem dX12_turns_178 : decode cX12_turns 178 = .ok (.iload 4, 2) := by decide +kernel
theorem dX12_turns_180 : decode cX12_turns 180 = .ok (.isub, 1) := by decide +kernel
theorem dX12_turns_181 : decode cX12_turns 181 = .ok (.iload_n 3, 1) := by decide +kernel
theorem dX12_turns_182 : decode cX12_turns 182 = .ok (.imul, 1) := by decide +kernel
theorem dX12_turns_183 : decode cX12_turns 183 = .ok (.bipush 32, 2) := by decide +kernel
theorem dX12_turns_185 : decode cX12_turns 185 = .ok (.invokestatic 188, 3) := by decide +kernel
theorem dX12_turns_188 : decode cX12_turns 188 = .ok (.iadd, 1) := by decide +kernel
theorem dX12_turns_189 : decode cX12_turns 189 = .ok (.istore 4, 2) := by decide +kernel
theorem dX12_turns_191 : decode cX12_turns 191 = .ok (.iload 4, 2) := by decide +kernel
theorem dX12_turns_193 : decode cX12_turns 193 = .ok (.bipush 12, 2) := by decide +kernel
theorem dX12_turns_195 : decode cX12_turns 195 = .ok (.iload_n 2, 1) := by decide +kernel
theorem dX12_turns_196 : decode cX12_turns 196 = .ok (.imul, 1) := by decide +kernel
theorem dX12_turns_197 : decode cX12_turns 197 = .ok (.if_icmp .ge 10, 3) := by decide +kernel
theorem dX12_turns_200 : decode cX12_turns 200 = .ok (.bipush 12, 2) := by decide +kernel
theorem dX12_turns_202 : decode cX12_turns 202 = .ok (.iload_n 2, 1) := by decide +kernel
theorem dX12_turns_203 : decode cX12_turns 203 = .ok (.imul, 1) := by decide +kernel
theorem dX12_turns_204 : decode cX12_turns 204 = .ok (.goto 21, 3) := by decide +kernel
theorem dX12_turns_207 : decode cX12_turns 207 = .ok (.iload 4, 2) := by decide +kernel
theorem dX12_turns_209 : decode cX12_turns 209 = .ok (.bipush 20, 2) := by decide +kernel
theorem dX12_turns_211 : decode cX12_turns 211 = .ok (.iload_n 2, 1) := by decide +kernel
theorem dX12_turns_212 : decode cX12_turns 212 = .ok (.imul, 1) := by decide +kernel
theorem dX12_turns_213 : decode cX12_turns 213 = .ok (.if_icmp .le 10, 3) := by decide +kernel
theorem dX12_turns_216 : decode cX12_turns 216 = .ok (.bipush 20, 2) := by decide +kernel
theorem dX12_turns_218 : decode cX12_turns 218 = .ok (.iload_n 2, 1) := by decide +kernel
theorem dX12_turns_219 : decode cX12_turns 219 = .ok (.imul, 1) := by decide +kernel
theorem dX12_turns_220 : decode cX12_turns 220 = .ok (.goto 5, 3) := by decide +kernel
theorem dX12_turns_223 : decode cX12_turns 223 = .ok (.iload 4, 2) := by decide +kernel
theorem dX12_turns_225 : decode cX12_turns 225 = .ok (.istore 4, 2) := by decide +kernel
theorem dX12_turns_227 : decode cX12_turns 227 = .ok (.iinc 6 1, 3) := by decide +kernel
theorem dX12_turns_230 : decode cX12_turns 230 = .ok (.goto (-196), 3) := by decide +kernel
theorem dX12_turns_233 : decode cX12_turns 233 = .ok (.return_, 1) := by decide +kernel
theorem dX12_raw_0 : decode cX12_raw 0 = .ok (.iload_n 1, 1) := by decide +kernel
theorem dX12_raw_1 : decode cX12_raw 1 = .ok (.bipush 8, 2) := by decide +kernel
theorem dX12_raw_3 : decode cX12_raw 3 = .ok (.bipush 60, 2) := by decide +kernel
theorem dX12_raw_5 : decode cX12_raw 5 = .ok (.invokestatic 85, 3) := by decide +kernel
theorem dX12_raw_8 : decode cX12_raw 8 = .ok (.ifCond .eq 13, 3) := by decide +kernel
theorem dX12_raw_11 : decode cX12_raw 11 = .ok (.iload_n 2, 1) := by decide +kernel
theorem dX12_raw_12 : decode cX12_raw 12 = .ok (.iconst 0, 1) := by decide +kernel
theorem dX12_raw_13 : decode cX12_raw 13 = .ok (.bipush 8, 2) := by decide +kernel
theorem dX12_raw_15 : decode cX12_raw 15 = .ok (.invokestatic 85, 3) := by decide +kernel
theorem dX12_raw_18 : decode cX12_raw 18 = .ok (.ifCond .ne 5, 3) := by decide +kernel
theorem dX12_raw_21 : decode cX12_raw 21 = .ok (.iconst (-1), 1) := by decide +kernel
theorem dX12_raw_22 : decode cX12_raw 22 = .ok (.ireturn, 1) := by decide +kernel
theorem dX12_raw_23 : decode cX12_raw 23 = .ok (.aload_n 0, 1) := by decide +kernel
theorem dX12_raw_24 : decode cX12_raw 24 = .ok (.iconst (-1), 1) := by decide +kernel
theorem dX12_raw_25 : decode cX12_raw 25 = .ok (.iload_n 1, 1) := by decide +kernel
theorem dX12_raw_26 : decode cX12_raw 26 = .ok (.iload_n 2, 1) := by decide +kernel
theorem dX12_raw_27 : decode cX12_raw 27 = .ok (.invokevirtual 194, 3) := by decide +kernel
theorem dX12_raw_30 : decode cX12_raw 30 = .ok (.iload_n 3, 1) := by decide +kernel
theorem dX12_raw_31 : decode cX12_raw 31 = .ok (.iconst (-1), 1) := by decide +kernel
theorem dX12_raw_32 : decode cX12_raw 32 = .ok (.if_icmp .ne 10, 3) := by decide +kernel
theorem dX12_raw_35 : decode cX12_raw 35 = .ok (.aload_n 0, 1) := by decide +kernel
theorem dX12_raw_36 : decode cX12_raw 36 = .ok (.getfield 185, 3) := by decide +kernel
theorem dX12_raw_39 : decode cX12_raw 39 = .ok (.goto 35, 3) := by decide +kernel
theorem dX12_raw_42 : decode cX12_raw 42 = .ok (.iload_n 3, 1) := by decide +kernel
theorem dX12_raw_43 : decode cX12_raw 43 = .ok (.iconst 0, 1) := by decide +kernel
theorem dX12_raw_44 : decode cX12_raw 44 = .ok (.aload_n 0, 1) := by decide +kernel
theorem dX12_raw_45 : decode cX12_raw 45 = .ok (.getfield 185, 3) := by decide +kernel
theorem dX12_raw_48 : decode cX12_raw 48 = .ok (.iconst 1, 1) := by decide +kernel
theorem dX12_raw_49 : decode cX12_raw 49 = .ok (.isub, 1) := by decide +kernel
theorem dX12_raw_50 : decode cX12_raw 50 = .ok (.invokestatic 85, 3) := by decide +kernel
theorem dX12_raw_53 : decode cX12_raw 53 = .ok (.ifCond .eq 20, 3) := by decide +kernel
theorem dX12_raw_56 : decode cX12_raw 56 = .ok (.aload_n 0, 1) := by decide +kernel
theorem dX12_raw_57 : decode cX12_raw 57 = .ok (.getfield 41, 3) := by decide +kernel
theorem dX12_raw_60 : decode cX12_raw 60 = .ok (.iload_n 3, 1) := by decide +kernel
theorem dX12_raw_61 : decode cX12_raw 61 = .ok (.baload, 1) := by decide +kernel
theorem dX12_raw_62 : decode cX12_raw 62 = .ok (.ifCond .eq 7, 3) := by decide +kernel
theorem dX12_raw_65 : decode cX12_raw 65 = .ok (.iconst 1, 1) := by decide +kernel
theorem dX12_raw_66 : decode cX12_raw 66 = .ok (.goto 8, 3) := by decide +kernel
theorem dX12_raw_69 : decode cX12_raw 69 = .ok (.iconst 0, 1) := by decide +kernel
theorem dX12_raw_70 : decode cX12_raw 70 = .ok (.goto 4, 3) := by decide +kernel
theorem dX12_raw_73 : decode cX12_raw 73 = .ok (.iconst (-1), 1) := by decide +kernel
theorem dX12_raw_74 : decode cX12_raw 74 = .ok (.ireturn, 1) := by decide +kernel
theorem dX12_many_0 : decode cX12_many 0 = .ok (.iconst 4, 1) := by decide +kernel
theorem dX12_many_1 : decode cX12_many 1 = .ok (.aload_n 0, 1) := by decide +kernel
theorem dX12_many_2 : decode cX12_many 2 = .ok (.getfield 17, 3) := by decide +kernel
theorem dX12_many_5 : decode cX12_many 5 = .ok (.iconst 4, 1) := by decide +kernel
theorem dX12_many_6 : decode cX12_many 6 = .ok (.iaload, 1) := by decide +kernel
theorem dX12_many_7 : decode cX12_many 7 = .ok (.iadd, 1) := by decide +kernel
theorem dX12_many_8 : decode cX12_many 8 = .ok (.ireturn, 1) := by decide +kernel
theorem dX12_bitOf_0 : decode cX12_bitOf 0 = .ok (.iload_n 0, 1) := by decide +kernel
theorem dX12_bitOf_1 : decode cX12_bitOf 1 = .ok (.iload_n 1, 1) := by decide +kernel
theorem dX12_bitOf_2 : decode cX12_bitOf 2 = .ok (.ishr, 1) := by decide +kernel
theorem dX12_bitOf_3 : decode cX12_bitOf 3 = .ok (.iconst 1, 1) := by decide +kernel
theorem dX12_bitOf_4 : decode cX12_bitOf 4 = .ok (.iand, 1) := by decide +kernel
theorem dX12_bitOf_5 : decode cX12_bitOf 5 = .ok (.ireturn, 1) := by decide +kernel
theorem dX12_isMark_0 : decode cX12_isMark 0 = .ok (.sipush 256, 3) := by decide +kernel
theorem dX12_isMark_3 : decode cX12_isMark 3 = .ok (.aload_n 0, 1) := by decide +kernel
theorem dX12_isMark_4 : decode cX12_isMark 4 = .ok (.getfield 17, 3) := by decide +kernel
theorem dX12_isMark_7 : decode cX12_isMark 7 = .ok (.iconst 2, 1) := by decide +kernel
theorem dX12_isMark_8 : decode cX12_isMark 8 = .ok (.iaload, 1) := by decide +kernel
theorem dX12_isMark_9 : decode cX12_isMark 9 = .ok (.imul, 1) := by decide +kernel
theorem dX12_isMark_10 : decode cX12_isMark 10 = .ok (.aload_n 0, 1) := by decide +kernel
theorem dX12_isMark_11 : decode cX12_isMark 11 = .ok (.getfield 17, 3) := by decide +kernel
theorem dX12_isMark_14 : decode cX12_isMark 14 = .ok (.iconst 3, 1) := by decide +kernel
theorem dX12_isMark_15 : decode cX12_isMark 15 = .ok (.iaload, 1) := by decide +kernel
theorem dX12_isMark_16 : decode cX12_isMark 16 = .ok (.iadd, 1) := by decide +kernel
theorem dX12_isMark_17 : decode cX12_isMark 17 = .ok (.istore_n 2, 1) := by decide +kernel
theorem dX12_isMark_18 : decode cX12_isMark 18 = .ok (.iconst 0, 1) := by decide +kernel
theorem dX12_isMark_19 : decode cX12_isMark 19 = .ok (.istore_n 3, 1) := by decide +kernel
theorem dX12_isMark_20 : decode cX12_isMark 20 = .ok (.iload_n 3, 1) := by decide +kernel
theorem dX12_isMark_21 : decode cX12_isMark 21 = .ok (.bipush 16, 2) := by decide +kernel
theorem dX12_isMark_23 : decode cX12_isMark 23 = .ok (.if_icmp .ge 39, 3) := by decide +kernel
theorem dX12_isMark_26 : decode cX12_isMark 26 = .ok (.aload_n 0, 1) := by decide +kernel
theorem dX12_isMark_27 : decode cX12_isMark 27 = .ok (.getfield 41, 3) := by decide +kernel
theorem dX12_isMark_30 : decode cX12_isMark 30 = .ok (.iload_n 1, 1) := by decide +kernel
theorem dX12_isMark_31 : decode cX12_isMark 31 = .ok (.iload_n 3, 1) := by decide +kernel
theorem dX12_isMark_32 : decode cX12_isMark 32 = .ok (.iadd, 1) := by decide +kernel
theorem dX12_isMark_33 : decode cX12_isMark 33 = .ok (.baload, 1) := by decide +kernel
theorem dX12_isMark_34 : decode cX12_isMark 34 = .ok (.iload_n 2, 1) := by decide +kernel
theorem dX12_isMark_35 : decode cX12_isMark 35 = .ok (.bipush 15, 2) := by decide +kernel
theorem dX12_isMark_37 : decode cX12_isMark 37 = .ok (.iload_n 3, 1) := by decide +kernel
theorem dX12_isMark_38 : decode cX12_isMark 38 = .ok (.isub, 1) := by decide +kernel
theorem dX12_isMark_39 : decode cX12_isMark 39 = .ok (.invokestatic 198, 3) := by decide +kernel
theorem dX12_isMark_42 : decode cX12_isMark 42 = .ok (.iconst 1, 1) := by decide +kernel
theorem dX12_isMark_43 : decode cX12_isMark 43 = .ok (.if_icmp .ne 7, 3) := by decide +kernel
theorem dX12_isMark_46 : decode cX12_isMark 46 = .ok (.iconst 1, 1) := by decide +kernel
theorem dX12_isMark_47 : decode cX12_isMark 47 = .ok (.goto 4, 3) := by decide +kernel
theorem dX12_isMark_50 : decode cX12_isMark 50 = .ok (.iconst 0, 1) := by decide +kernel
theorem dX12_isMark_51 : decode cX12_isMark 51 = .ok (.if_icmp .eq 5, 3) := by decide +kernel
theorem dX12_isMark_54 : decode cX12_isMark 54 = .ok (.iconst 0, 1) := by decide +kernel
theorem dX12_isMark_55 : decode cX12_isMark 55 = .ok (.ireturn, 1) := by decide +kernel
theorem dX12_isMark_56 : decode cX12_isMark 56 = .ok (.iinc 3 1, 3) := by decide +kernel
theorem dX12_isMark_59 : decode cX12_isMark 59 = .ok (.goto (-39), 3) := by decide +kernel
theorem dX12_isMark_62 : decode cX12_isMark 62 = .ok (.iconst 1, 1) := by decide +kernel
theorem dX12_isMark_63 : decode cX12_isMark 63 = .ok (.ireturn, 1) := by decide +kernel
theorem dX12_finds_0 : decode cX12_finds 0 = .ok (.aload_n 0, 1) := by decide +kernel
theorem dX12_finds_1 : decode cX12_finds 1 = .ok (.iload_n 1, 1) := by decide +kernel
theorem dX12_finds_2 : decode cX12_finds 2 = .ok (.iload_n 2, 1) := by decide +kernel
theorem dX12_finds_3 : decode cX12_finds 3 = .ok (.iload_n 3, 1) := by decide +kernel
theorem dX12_finds_4 : decode cX12_finds 4 = .ok (.invokevirtual 194, 3) := by decide +kernel
theorem dX12_finds_7 : decode cX12_finds 7 = .ok (.aload_n 0, 1) := by decide +kernel
theorem dX12_finds_8 : decode cX12_finds 8 = .ok (.iconst 0, 1) := by decide +kernel
theorem dX12_finds_9 : decode cX12_finds 9 = .ok (.putfield 201, 3) := by decide +kernel
theorem dX12_finds_12 : decode cX12_finds 12 = .ok (.iconst 0, 1) := by decide +kernel
theorem dX12_finds_13 : decode cX12_finds 13 = .ok (.istore 4, 2) := by decide +kernel
theorem dX12_finds_15 : decode cX12_finds 15 = .ok (.bipush 16, 2) := by decide +kernel
theorem dX12_finds_17 : decode cX12_finds 17 = .ok (.bipush 16, 2) := by decide +kernel
theorem dX12_finds_19 : decode cX12_finds 19 = .ok (.aload_n 0, 1) := by decide +kernel
theorem dX12_finds_20 : decode cX12_finds 20 = .ok (.invokevirtual 204, 3) := by decide +kernel
theorem dX12_finds_23 : decode cX12_finds 23 = .ok (.imul, 1) := by decide +kernel
theorem dX12_finds_24 : decode cX12_finds 24 = .ok (.iadd, 1) := by decide +kernel
theorem dX12_finds_25 : decode cX12_finds 25 = .ok (.istore 5, 2) := by decide +kernel
theorem dX12_finds_27 : decode cX12_finds 27 = .ok (.iload 4, 2) := by decide +kernel
theorem dX12_finds_29 : decode cX12_finds 29 = .ok (.iload 5, 2) := by decide +kernel
theorem dX12_finds_31 : decode cX12_finds 31 = .ok (.iadd, 1) := by decide +kernel
theorem dX12_finds_32 : decode cX12_finds 32 = .ok (.aload_n 0, 1) := by decide +kernel
theorem dX12_finds_33 : decode cX12_finds 33 = .ok (.getfield 185, 3) := by decide +kernel
theorem dX12_finds_36 : decode cX12_finds 36 = .ok (.if_icmp .gt 46, 3) := by decide +kernel
theorem dX12_finds_39 : decode cX12_finds 39 = .ok (.aload_n 0, 1) := by decide +kernel
theorem dX12_finds_40 : decode cX12_finds 40 = .ok (.getfield 201, 3) := by decide +kernel
theorem dX12_finds_43 : decode cX12_finds 43 = .ok (.bipush 8, 2) := by decide +kernel
theorem dX12_finds_45 : decode cX12_finds 45 = .ok (.if_icmp .ge 37, 3) := by decide +kernel
theorem dX12_finds_48 : decode cX12_finds 48 = .ok (.aload_n 0, 1) := by decide +kernel
theorem dX12_finds_49 : decode cX12_finds 49 = .ok (.iload 4, 2) := by decide +kernel
theorem dX12_finds_51 : decode cX12_finds 51 = .ok (.invokevirtual 207, 3) := by decide +kernel
theorem dX12_finds_54 : decode cX12_finds 54 = .ok (.ifCond .ne 9, 3) := by decide +kernel
theorem dX12_finds_57 : decode cX12_finds 57 = .ok (.iinc 4 1, 3) := by decide +kernel
theorem dX12_finds_60 : decode cX12_finds 60 = .ok (.goto (-33), 3) := by decide +kernel
theorem dX12_finds_63 : decode cX12_finds 63 = .ok (.aload_n 0, 1) := by decide +kernel
theorem dX12_finds_64 : decode cX12_finds 64 = .ok (.iload 4, 2) := by decide +kernel
theorem dX12_finds_66 : decode cX12_finds 66 = .ok (.bipush 16, 2) := by decide +kernel
theorem dX12_finds_68 : decode cX12_finds 68 = .ok (.iadd, 1) := by decide +kernel
theorem dX12_finds_69 : decode cX12_finds 69 = .ok (.invokevirtual 210, 3) := by decide +kernel
theorem dX12_finds_72 : decode cX12_finds 72 = .ok (.iload 4, 2) := by decide +kernel
theorem dX12_finds_74 : decode cX12_finds 74 = .ok (.iload 5, 2) := by decide +kernel
theorem dX12_finds_76 : decode cX12_finds 76 = .ok (.iadd, 1) := by decide +kernel
theorem dX12_finds_77 : decode cX12_finds 77 = .ok (.istore 4, 2) := by decide +kernel
theorem dX12_finds_79 : decode cX12_finds 79 = .ok (.goto (-52), 3) := by decide +kernel
theorem dX12_finds_82 : decode cX12_finds 82 = .ok (.return_, 1) := by decide +kernel
theorem dX12_takes_0 : decode cX12_takes 0 = .ok (.aload_n 0, 1) := by decide +kernel
theorem dX12_takes_1 : decode cX12_takes 1 = .ok (.getfield 45, 3) := by decide +kernel
theorem dX12_takes_4 : decode cX12_takes 4 = .ok (.aload_n 0, 1) := by decide +kernel
theorem dX12_takes_5 : decode cX12_takes 5 = .ok (.getfield 201, 3) := by decide +kernel
theorem dX12_takes_8 : decode cX12_takes 8 = .ok (.iload_n 1, 1) := by decide +kernel
theorem dX12_takes_9 : decode cX12_takes 9 = .ok (.iastore, 1) := by decide +kernel
theorem dX12_takes_10 : decode cX12_takes 10 = .ok (.aload_n 0, 1) := by decide +kernel
theorem dX12_takes_11 : decode cX12_takes 11 = .ok (.getfield 51, 3) := by decide +kernel
theorem dX12_takes_14 : decode cX12_takes 14 = .ok (.aload_n 0, 1) := by decide +kernel
theorem dX12_takes_15 : decode cX12_takes 15 = .ok (.getfield 201, 3) := by decide +kernel
theorem dX12_takes_18 : decode cX12_takes 18 = .ok (.iconst 0, 1) := by decide +kernel
theorem dX12_takes_19 : decode cX12_takes 19 = .ok (.iastore, 1) := by decide +kernel
theorem dX12_takes_20 : decode cX12_takes 20 = .ok (.aload_n 0, 1) := by decide +kernel
theorem dX12_takes_21 : decode cX12_takes 21 = .ok (.getfield 17, 3) := by decide +kernel
theorem dX12_takes_24 : decode cX12_takes 24 = .ok (.iconst 3, 1) := by decide +kernel
theorem dX12_takes_25 : decode cX12_takes 25 = .ok (.iaload, 1) := by decide +kernel
theorem dX12_takes_26 : decode cX12_takes 26 = .ok (.iconst 0, 1) := by decide +kernel
theorem dX12_takes_27 : decode cX12_takes 27 = .ok (.invokestatic 198, 3) := by decide +kernel
theorem dX12_takes_30 : decode cX12_takes 30 = .ok (.istore_n 2, 1) := by decide +kernel
theorem dX12_takes_31 : decode cX12_takes 31 = .ok (.iconst 0, 1) := by decide +kernel
theorem dX12_takes_32 : decode cX12_takes 32 = .ok (.istore_n 3, 1) := by decide +kernel
theorem dX12_takes_33 : decode cX12_takes 33 = .ok (.iload_n 3, 1) := by decide +kernel
theorem dX12_takes_34 : decode cX12_takes 34 = .ok (.aload_n 0, 1) := by decide +kernel
theorem dX12_takes_35 : decode cX12_takes 35 = .ok (.invokevirtual 204, 3) := by decide +kernel
theorem dX12_takes_38 : decode cX12_takes 38 = .ok (.if_icmp .ge 146, 3) := by decide +kernel
theorem dX12_takes_41 : decode cX12_takes 41 = .ok (.iconst 0, 1) := by decide +kernel
theorem dX12_takes_42 : decode cX12_takes 42 = .ok (.istore 4, 2) := by decide +kernel
theorem dX12_takes_44 : decode cX12_takes 44 = .ok (.iconst 0, 1) := by decide +kernel
theorem dX12_takes_45 : decode cX12_takes 45 = .ok (.istore 5, 2) := by decide +kernel
theorem dX12_takes_47 : decode cX12_takes 47 = .ok (.iload 5, 2) := by decide +kernel
theorem dX12_takes_49 : decode cX12_takes 49 = .ok (.bipush 8, 2) := by decide +kernel
theorem dX12_takes_51 : decode cX12_takes 51 = .ok (.if_icmp .ge 111, 3) := by decide +kernel
theorem dX12_takes_54 : decode cX12_takes 54 = .ok (.aload_n 0, 1) := by decide +kernel
theorem dX12_takes_55 : decode cX12_takes 55 = .ok (.getfield 41, 3) := by decide +kernel
theorem dX12_takes_58 : decode cX12_takes 58 = .ok (.iload_n 1, 1) := by decide +kernel
theorem dX12_takes_59 : decode cX12_takes 59 = .ok (.bipush 16, 2) := by decide +kernel
theorem dX12_takes_61 : decode cX12_takes 61 = .ok (.iload_n 3, 1) := by decide +kernel
theorem dX12_takes_62 : decode cX12_takes 62 = .ok (.imul, 1) := by decide +kernel
theorem dX12_takes_63 : decode cX12_takes 63 = .ok (.iadd, 1) := by decide +kernel
theorem dX12_takes_64 : decode cX12_takes 64 = .ok (.iconst 2, 1) := by decide +kernel
theorem dX12_takes_65 : decode cX12_takes 65 = .ok (.iload 5, 2) := by decide +kernel
theorem dX12_takes_67 : decode cX12_takes 67 = .ok (.imul, 1) := by decide +kernel
theorem dX12_takes_68 : decode cX12_takes 68 = .ok (.iadd, 1) := by decide +kernel
theorem dX12_takes_69 : decode cX12_takes 69 = .ok (.baload, 1) := by decide +kernel
theorem dX12_takes_70 : decode cX12_takes 70 = .ok (.ifCond .eq 7, 3) := by decide +kernel
theorem dX12_takes_73 : decode cX12_takes 73 = .ok (.iconst 1, 1) := by decide +kernel
theorem dX12_takes_74 : decode cX12_takes 74 = .ok (.goto 4, 3) := by decide +kernel
theorem dX12_takes_77 : decode cX12_takes 77 = .ok (.iconst 0, 1) := by decide +kernel
theorem dX12_takes_78 : decode cX12_takes 78 = .ok (.istore 6, 2) := by decide +kernel
theorem dX12_takes_80 : decode cX12_takes 80 = .ok (.aload_n 0, 1) := by decide +kernel
theorem dX12_takes_81 : decode cX12_takes 81 = .ok (.getfield 41, 3) := by decide +kernel
theorem dX12_takes_84 : decode cX12_takes 84 = .ok (.iload_n 1, 1) := by decide +kernel
theorem dX12_takes_85 : decode cX12_takes 85 = .ok (.bipush 16, 2) := by decide +kernel
theorem dX12_takes_87 : decode cX12_takes 87 = .ok (.iload_n 3, 1) := by decide +kernel
theorem dX12_takes_88 : decode cX12_takes 88 = .ok (.imul, 1) := by decide +kernel
theorem dX12_takes_89 : decode cX12_takes 89 = .ok (.iadd, 1) := by decide +kernel
theorem dX12_takes_90 : decode cX12_takes 90 = .ok (.iconst 2, 1) := by decide +kernel
theorem dX12_takes_91 : decode cX12_takes 91 = .ok (.iload 5, 2) := by decide +kernel
theorem dX12_takes_93 : decode cX12_takes 93 = .ok (.imul, 1) := by decide +kernel
theorem dX12_takes_94 : decode cX12_takes 94 = .ok (.iadd, 1) := by decide +kernel
theorem dX12_takes_95 : decode cX12_takes 95 = .ok (.iconst 1, 1) := by decide +kernel
theorem dX12_takes_96 : decode cX12_takes 96 = .ok (.iadd, 1) := by decide +kernel
theorem dX12_takes_97 : decode cX12_takes 97 = .ok (.baload, 1) := by decide +kernel
theorem dX12_takes_98 : decode cX12_takes 98 = .ok (.ifCond .eq 7, 3) := by decide +kernel
theorem dX12_takes_101 : decode cX12_takes 101 = .ok (.iconst 1, 1) := by decide +kernel
theorem dX12_takes_102 : decode cX12_takes 102 = .ok (.goto 4, 3) := by decide +kernel
theorem dX12_takes_105 : decode cX12_takes 105 = .ok (.iconst 0, 1) := by decide +kernel
theorem dX12_takes_106 : decode cX12_takes 106 = .ok (.istore 7, 2) := by decide +kernel
theorem dX12_takes_108 : decode cX12_takes 108 = .ok (.aload_n 0, 1) := by decide +kernel
theorem dX12_takes_109 : decode cX12_takes 109 = .ok (.getfield 51, 3) := by decide +kernel
theorem dX12_takes_112 : decode cX12_takes 112 = .ok (.aload_n 0, 1) := by decide +kernel
theorem dX12_takes_113 : decode cX12_takes 113 = .ok (.getfield 201, 3) := by decide +kernel
theorem dX12_takes_116 : decode cX12_takes 116 = .ok (.dup2, 1) := by decide +kernel
theorem dX12_takes_117 : decode cX12_takes 117 = .ok (.iaload, 1) := by decide +kernel
theorem dX12_takes_118 : decode cX12_takes 118 = .ok (.iload 6, 2) := by decide +kernel
theorem dX12_takes_120 : decode cX12_takes 120 = .ok (.iload_n 2, 1) := by decide +kernel
theorem dX12_takes_121 : decode cX12_takes 121 = .ok (.ifCond .ne 12, 3) := by decide +kernel
theorem dX12_takes_124 : decode cX12_takes 124 = .ok (.iload 7, 2) := by decide +kernel
theorem dX12_takes_126 : decode cX12_takes 126 = .ok (.ifCond .ne 7, 3) := by decide +kernel
theorem dX12_takes_129 : decode cX12_takes 129 = .ok (.iconst 1, 1) := by decide +kernel
theorem dX12_takes_130 : decode cX12_takes 130 = .ok (.goto 4, 3) := by decide +kernel
theorem dX12_takes_133 : decode cX12_takes 133 = .ok (.iconst 0, 1) := by decide +kernel
theorem dX12_takes_134 : decode cX12_takes 134 = .ok (.if_icmp .ne 7, 3) := by decide +kernel
theorem dX12_takes_137 : decode cX12_takes 137 = .ok (.iconst 0, 1) := by decide +kernel
theorem dX12_takes_138 : decode cX12_takes 138 = .ok (.goto 4, 3) := by decide +kernel
theorem dX12_takes_141 : decode cX12_takes 141 = .ok (.iconst 1, 1) := by decide +kernel
theorem dX12_takes_142 : decode cX12_takes 142 = .ok (.iadd, 1) := by decide +kernel
theorem dX12_takes_143 : decode cX12_takes 143 = .ok (.iastore, 1) := by decide +kernel
theorem dX12_takes_144 : decode cX12_takes 144 = .ok (.iconst 2, 1) := by decide +kernel
theorem dX12_takes_145 : decode cX12_takes 145 = .ok (.iload 4, 2) := by decide +kernel
theorem dX12_takes_147 : decode cX12_takes 147 = .ok (.imul, 1) := by decide +kernel
theorem dX12_takes_148 : decode cX12_takes 148 = .ok (.iload 7, 2) := by decide +kernel
theorem dX12_takes_150 : decode cX12_takes 150 = .ok (.iadd, 1) := by decide +kernel
theorem dX12_takes_151 : decode cX12_takes 151 = .ok (.istore 4, 2) := by decide +kernel
theorem dX12_takes_153 : decode cX12_takes 153 = .ok (.iload 7, 2) := by decide +kernel
theorem dX12_takes_155 : decode cX12_takes 155 = .ok (.istore_n 2, 1) := by decide +kernel
theorem dX12_takes_156 : decode cX12_takes 156 = .ok (.iinc 5 1, 3) := by decide +kernel
theorem dX12_takes_159 : decode cX12_takes 159 = .ok (.goto (-112), 3) := by decide +kernel
theorem dX12_takes_162 : decode cX12_takes 162 = .ok (.aload_n 0, 1) := by decide +kernel
theorem dX12_takes_163 : decode cX12_takes 163 = .ok (.getfield 48, 3) := by decide +kernel
theorem dX12_takes_166 : decode cX12_takes 166 = .ok (.bipush 12, 2) := by decide +kernel
theorem dX12_takes_168 : decode cX12_takes 168 = .ok (.aload_n 0, 1) := by decide +kernel
theorem dX12_takes_169 : decode cX12_takes 169 = .ok (.getfield 201, 3) := by decide +kernel
theorem dX12_takes_172 : decode cX12_takes 172 = .ok (.imul, 1) := by decide +kernel
theorem dX12_takes_173 : decode cX12_takes 173 = .ok (.iload_n 3, 1) := by decide +kernel
theorem dX12_takes_174 : decode cX12_takes 174 = .ok (.iadd, 1) := by decide +kernel
theorem dX12_takes_175 : decode cX12_takes 175 = .ok (.iload 4, 2) := by decide +kernel
theorem dX12_takes_177 : decode cX12_takes 177 = .ok (.iastore, 1) := by decide +kernel
theorem dX12_takes_178 : decode cX12_takes 178 = .ok (.iinc 3 1, 3) := by decide +kernel
theorem dX12_takes_181 : decode cX12_takes 181 = .ok (.goto (-148), 3) := by decide +kernel
theorem dX12_takes_184 : decode cX12_takes 184 = .ok (.aload_n 0, 1) := by decide +kernel
theorem dX12_takes_185 : decode cX12_takes 185 = .ok (.dup, 1) := by decide +kernel
theorem dX12_takes_186 : decode cX12_takes 186 = .ok (.getfield 201, 3) := by decide +kernel
theorem dX12_takes_189 : decode cX12_takes 189 = .ok (.iconst 1, 1) := by decide +kernel
theorem dX12_takes_190 : decode cX12_takes 190 = .ok (.iadd, 1) := by decide +kernel
theorem dX12_takes_191 : decode cX12_takes 191 = .ok (.putfield 201, 3) := by decide +kernel
theorem dX12_takes_194 : decode cX12_takes 194 = .ok (.return_, 1) := by decide +kernel
theorem dX12_sumOf_0 : decode cX12_sumOf 0 = .ok (.aload_n 0, 1) := by decide +kernel
theorem dX12_sumOf_1 : decode cX12_sumOf 1 = .ok (.getfield 17, 3) := by decide +kernel
theorem dX12_sumOf_4 : decode cX12_sumOf 4 = .ok (.iconst 5, 1) := by decide +kernel
theorem dX12_sumOf_5 : decode cX12_sumOf 5 = .ok (.iaload, 1) := by decide +kernel
theorem dX12_sumOf_6 : decode cX12_sumOf 6 = .ok (.iconst 1, 1) := by decide +kernel
theorem dX12_sumOf_7 : decode cX12_sumOf 7 = .ok (.if_icmp .ne 13, 3) := by decide +kernel
theorem dX12_sumOf_10 : decode cX12_sumOf 10 = .ok (.aload_n 0, 1) := by decide +kernel
theorem dX12_sumOf_11 : decode cX12_sumOf 11 = .ok (.getfield 17, 3) := by decide +kernel
theorem dX12_sumOf_14 : decode cX12_sumOf 14 = .ok (.bipush 7, 2) := by decide +kernel
theorem dX12_sumOf_16 : decode cX12_sumOf 16 = .ok (.iaload, 1) := by decide +kernel
theorem dX12_sumOf_17 : decode cX12_sumOf 17 = .ok (.goto 4, 3) := by decide +kernel
theorem dX12_sumOf_20 : decode cX12_sumOf 20 = .ok (.iconst 0, 1) := by decide +kernel
theorem dX12_sumOf_21 : decode cX12_sumOf 21 = .ok (.istore_n 1, 1) := by decide +kernel
theorem dX12_sumOf_22 : decode cX12_sumOf 22 = .ok (.iconst 0, 1) := by decide +kernel
theorem dX12_sumOf_23 : decode cX12_sumOf 23 = .ok (.istore_n 2, 1) := by decide +kernel
theorem dX12_sumOf_24 : decode cX12_sumOf 24 = .ok (.iload_n 2, 1) := by decide +kernel
theorem dX12_sumOf_25 : decode cX12_sumOf 25 = .ok (.aload_n 0, 1) := by decide +kernel
theorem dX12_sumOf_26 : decode cX12_sumOf 26 = .ok (.invokevirtual 204, 3) := by decide +kernel
theorem dX12_sumOf_29 : decode cX12_sumOf 29 = .ok (.iconst 2, 1) := by decide +kernel
theorem dX12_sumOf_30 : decode cX12_sumOf 30 = .ok (.isub, 1) := by decide +kernel
theorem dX12_sumOf_31 : decode cX12_sumOf 31 = .ok (.if_icmp .ge 116, 3) := by decide +kernel
theorem dX12_sumOf_34 : decode cX12_sumOf 34 = .ok (.aload_n 0, 1) := by decide +kernel
theorem dX12_sumOf_35 : decode cX12_sumOf 35 = .ok (.getfield 17, 3) := by decide +kernel
theorem dX12_sumOf_38 : decode cX12_sumOf 38 = .ok (.iconst 5, 1) := by decide +kernel
theorem dX12_sumOf_39 : decode cX12_sumOf 39 = .ok (.iaload, 1) := by decide +kernel
theorem dX12_sumOf_40 : decode cX12_sumOf 40 = .ok (.iconst 2, 1) := by decide +kernel
theorem dX12_sumOf_41 : decode cX12_sumOf 41 = .ok (.if_icmp .ne 12, 3) := by decide +kernel
theorem dX12_sumOf_44 : decode cX12_sumOf 44 = .ok (.iload_n 1, 1) := by decide +kernel
theorem dX12_sumOf_45 : decode cX12_sumOf 45 = .ok (.aload_n 0, 1) := by decide +kernel
theorem dX12_sumOf_46 : decode cX12_sumOf 46 = .ok (.getfield 54, 3) := by decide +kernel
theorem dX12_sumOf_49 : decode cX12_sumOf 49 = .ok (.iload_n 2, 1) := by decide +kernel
theorem dX12_sumOf_50 : decode cX12_sumOf 50 = .ok (.iaload, 1) := by decide +kernel
theorem dX12_sumOf_51 : decode cX12_sumOf 51 = .ok (.iadd, 1) := by decide +kernel
theorem dX12_sumOf_52 : decode cX12_sumOf 52 = .ok (.istore_n 1, 1) := by decide +kernel
theorem dX12_sumOf_53 : decode cX12_sumOf 53 = .ok (.aload_n 0, 1) := by decide +kernel
theorem dX12_sumOf_54 : decode cX12_sumOf 54 = .ok (.getfield 17, 3) := by decide +kernel
theorem dX12_sumOf_57 : decode cX12_sumOf 57 = .ok (.iconst 5, 1) := by decide +kernel
theorem dX12_sumOf_58 : decode cX12_sumOf 58 = .ok (.iaload, 1) := by decide +kernel
theorem dX12_sumOf_59 : decode cX12_sumOf 59 = .ok (.iconst 3, 1) := by decide +kernel
theorem dX12_sumOf_60 : decode cX12_sumOf 60 = .ok (.if_icmp .ne 12, 3) := by decide +kernel
theorem dX12_sumOf_63 : decode cX12_sumOf 63 = .ok (.iload_n 1, 1) := by decide +kernel
theorem dX12_sumOf_64 : decode cX12_sumOf 64 = .ok (.aload_n 0, 1) := by decide +kernel
theorem dX12_sumOf_65 : decode cX12_sumOf 65 = .ok (.getfield 54, 3) := by decide +kernel
theorem dX12_sumOf_68 : decode cX12_sumOf 68 = .ok (.iload_n 2, 1) := by decide +kernel
theorem dX12_sumOf_69 : decode cX12_sumOf 69 = .ok (.iaload, 1) := by decide +kernel
theorem dX12_sumOf_70 : decode cX12_sumOf 70 = .ok (.ixor, 1) := by decide +kernel
theorem dX12_sumOf_71 : decode cX12_sumOf 71 = .ok (.istore_n 1, 1) := by decide +kernel
theorem dX12_sumOf_72 : decode cX12_sumOf 72 = .ok (.aload_n 0, 1) := by decide +kernel
theorem dX12_sumOf_73 : decode cX12_sumOf 73 = .ok (.getfield 17, 3) := by decide +kernel
theorem dX12_sumOf_76 : decode cX12_sumOf 76 = .ok (.iconst 5, 1) := by decide +kernel
theorem dX12_sumOf_77 : decode cX12_sumOf 77 = .ok (.iaload, 1) := by decide +kernel
theorem dX12_sumOf_78 : decode cX12_sumOf 78 = .ok (.iconst 1, 1) := by decide +kernel
theorem dX12_sumOf_79 : decode cX12_sumOf 79 = .ok (.if_icmp .eq 6, 3) := by decide +kernel
theorem dX12_sumOf_82 : decode cX12_sumOf 82 = .ok (.goto 59, 3) := by decide +kernel
theorem dX12_sumOf_85 : decode cX12_sumOf 85 = .ok (.iload_n 1, 1) := by decide +kernel
theorem dX12_sumOf_86 : decode cX12_sumOf 86 = .ok (.sipush 256, 3) := by decide +kernel
theorem dX12_sumOf_89 : decode cX12_sumOf 89 = .ok (.aload_n 0, 1) := by decide +kernel
theorem dX12_sumOf_90 : decode cX12_sumOf 90 = .ok (.getfield 54, 3) := by decide +kernel
theorem dX12_sumOf_93 : decode cX12_sumOf 93 = .ok (.iload_n 2, 1) := by decide +kernel
theorem dX12_sumOf_94 : decode cX12_sumOf 94 = .ok (.iaload, 1) := by decide +kernel
theorem dX12_sumOf_95 : decode cX12_sumOf 95 = .ok (.imul, 1) := by decide +kernel
theorem dX12_sumOf_96 : decode cX12_sumOf 96 = .ok (.ixor, 1) := by decide +kernel
theorem dX12_sumOf_97 : decode cX12_sumOf 97 = .ok (.istore_n 1, 1) := by decide +kernel
theorem dX12_sumOf_98 : decode cX12_sumOf 98 = .ok (.iconst 0, 1) := by decide +kernel
theorem dX12_sumOf_99 : decode cX12_sumOf 99 = .ok (.istore_n 3, 1) := by decide +kernel
theorem dX12_sumOf_100 : decode cX12_sumOf 100 = .ok (.iload_n 3, 1) := by decide +kernel
theorem dX12_sumOf_101 : decode cX12_sumOf 101 = .ok (.bipush 8, 2) := by decide +kernel
theorem dX12_sumOf_103 : decode cX12_sumOf 103 = .ok (.if_icmp .ge 38, 3) := by decide +kernel
theorem dX12_sumOf_106 : decode cX12_sumOf 106 = .ok (.iconst 2, 1) := by decide +kernel
theorem dX12_sumOf_107 : decode cX12_sumOf 107 = .ok (.iload_n 1, 1) := by decide +kernel
theorem dX12_sumOf_108 : decode cX12_sumOf 108 = .ok (.imul, 1) := by decide +kernel
theorem dX12_sumOf_109 : decode cX12_sumOf 109 = .ok (.iload_n 1, 1) := by decide +kernel
theorem dX12_sumOf_110 : decode cX12_sumOf 110 = .ok (.bipush 15, 2) := by decide +kernel
theorem dX12_sumOf_112 : decode cX12_sumOf 112 = .ok (.invokestatic 198, 3) := by decide +kernel
theorem dX12_sumOf_115 : decode cX12_sumOf 115 = .ok (.iconst 1, 1) := by decide +kernel
theorem dX12_sumOf_116 : decode cX12_sumOf 116 = .ok (.if_icmp .ne 13, 3) := by decide +kernel
theorem dX12_sumOf_119 : decode cX12_sumOf 119 = .ok (.aload_n 0, 1) := by decide +kernel
theorem dX12_sumOf_120 : decode cX12_sumOf 120 = .ok (.getfield 17, 3) := by decide +kernel
theorem dX12_sumOf_123 : decode cX12_sumOf 123 = .ok (.bipush 6, 2) := by decide +kernel
theorem dX12_sumOf_125 : decode cX12_sumOf 125 = .ok (.iaload, 1) := by decide +kernel
theorem dX12_sumOf_126 : decode cX12_sumOf 126 = .ok (.goto 4, 3) := by decide +kernel
theorem dX12_sumOf_129 : decode cX12_sumOf 129 = .ok (.iconst 0, 1) := by decide +kernel
theorem dX12_sumOf_130 : decode cX12_sumOf 130 = .ok (.ixor, 1) := by decide +kernel
theorem dX12_sumOf_131 : decode cX12_sumOf 131 = .ok (.ldc 142, 2) := by decide +kernel
theorem dX12_sumOf_133 : decode cX12_sumOf 133 = .ok (.iand, 1) := by decide +kernel
theorem dX12_sumOf_134 : decode cX12_sumOf 134 = .ok (.istore_n 1, 1) := by decide +kernel
theorem dX12_sumOf_135 : decode cX12_sumOf 135 = .ok (.iinc 3 1, 3) := by decide +kernel
theorem dX12_sumOf_138 : decode cX12_sumOf 138 = .ok (.goto (-38), 3) := by decide +kernel
theorem dX12_sumOf_141 : decode cX12_sumOf 141 = .ok (.iinc 2 1, 3) := by decide +kernel
theorem dX12_sumOf_144 : decode cX12_sumOf 144 = .ok (.goto (-120), 3) := by decide +kernel
theorem dX12_sumOf_147 : decode cX12_sumOf 147 = .ok (.iload_n 1, 1) := by decide +kernel
theorem dX12_sumOf_148 : decode cX12_sumOf 148 = .ok (.ireturn, 1) := by decide +kernel
theorem dX12_sumOfSector_0 : decode cX12_sumOfSector 0 = .ok (.iconst 0, 1) := by decide +kernel
theorem dX12_sumOfSector_1 : decode cX12_sumOfSector 1 = .ok (.istore_n 2, 1) := by decide +kernel
theorem dX12_sumOfSector_2 : decode cX12_sumOfSector 2 = .ok (.iload_n 2, 1) := by decide +kernel
theorem dX12_sumOfSector_3 : decode cX12_sumOfSector 3 = .ok (.aload_n 0, 1) := by decide +kernel
theorem dX12_sumOfSector_4 : decode cX12_sumOfSector 4 = .ok (.invokevirtual 204, 3) := by decide +kernel
theorem dX12_sumOfSector_7 : decode cX12_sumOfSector 7 = .ok (.if_icmp .ge 26, 3) := by decide +kernel
theorem dX12_sumOfSector_10 : decode cX12_sumOfSector 10 = .ok (.aload_n 0, 1) := by decide +kernel
theorem dX12_sumOfSector_11 : decode cX12_sumOfSector 11 = .ok (.getfield 54, 3) := by decide +kernel
theorem dX12_sumOfSector_14 : decode cX12_sumOfSector 14 = .ok (.iload_n 2, 1) := by decide +kernel
theorem dX12_sumOfSector_15 : decode cX12_sumOfSector 15 = .ok (.aload_n 0, 1) := by decide +kernel
theorem dX12_sumOfSector_16 : decode cX12_sumOfSector 16 = .ok (.getfield 48, 3) := by decide +kernel
theorem dX12_sumOfSector_19 : decode cX12_sumOfSector 19 = .ok (.bipush 12, 2) := by decide +kernel
theorem dX12_sumOfSector_21 : decode cX12_sumOfSector 21 = .ok (.iload_n 1, 1) := by decide +kernel
theorem dX12_sumOfSector_22 : decode cX12_sumOfSector 22 = .ok (.imul, 1) := by decide +kernel
theorem dX12_sumOfSector_23 : decode cX12_sumOfSector 23 = .ok (.iload_n 2, 1) := by decide +kernel
theorem dX12_sumOfSector_24 : decode cX12_sumOfSector 24 = .ok (.iadd, 1) := by decide +kernel
theorem dX12_sumOfSector_25 : decode cX12_sumOfSector 25 = .ok (.iaload, 1) := by decide +kernel
theorem dX12_sumOfSector_26 : decode cX12_sumOfSector 26 = .ok (.iastore, 1) := by decide +kernel
theorem dX12_sumOfSector_27 : decode cX12_sumOfSector 27 = .ok (.iinc 2 1, 3) := by decide +kernel
theorem dX12_sumOfSector_30 : decode cX12_sumOfSector 30 = .ok (.goto (-28), 3) := by decide +kernel
theorem dX12_sumOfSector_33 : decode cX12_sumOfSector 33 = .ok (.aload_n 0, 1) := by decide +kernel
theorem dX12_sumOfSector_34 : decode cX12_sumOfSector 34 = .ok (.invokevirtual 214, 3) := by decide +kernel
theorem dX12_sumOfSector_37 : decode cX12_sumOfSector 37 = .ok (.ireturn, 1) := by decide +kernel
theorem dX12_told_0 : decode cX12_told 0 = .ok (.sipush 256, 3) := by decide +kernel
theorem dX12_told_3 : decode cX12_told 3 = .ok (.aload_n 0, 1) := by decide +kernel
theorem dX12_told_4 : decode cX12_told 4 = .ok (.getfield 48, 3) := by decide +kernel
theorem dX12_told_7 : decode cX12_told 7 = .ok (.bipush 12, 2) := by decide +kernel
theorem dX12_told_9 : decode cX12_told 9 = .ok (.iload_n 1, 1) := by decide +kernel
theorem dX12_told_10 : decode cX12_told 10 = .ok (.imul, 1) := by decide +kernel
theorem dX12_told_11 : decode cX12_told 11 = .ok (.aload_n 0, 1) := by decide +kernel
theorem dX12_told_12 : decode cX12_told 12 = .ok (.invokevirtual 204, 3) := by decide +kernel
theorem dX12_told_15 : decode cX12_told 15 = .ok (.iadd, 1) := by decide +kernel
theorem dX12_told_16 : decode cX12_told 16 = .ok (.iconst 2, 1) := by decide +kernel
theorem dX12_told_17 : decode cX12_told 17 = .ok (.isub, 1) := by decide +kernel
theorem dX12_told_18 : decode cX12_told 18 = .ok (.iaload, 1) := by decide +kernel
theorem dX12_told_19 : decode cX12_told 19 = .ok (.imul, 1) := by decide +kernel
theorem dX12_told_20 : decode cX12_told 20 = .ok (.aload_n 0, 1) := by decide +kernel
theorem dX12_told_21 : decode cX12_told 21 = .ok (.getfield 48, 3) := by decide +kernel
theorem dX12_told_24 : decode cX12_told 24 = .ok (.bipush 12, 2) := by decide +kernel
theorem dX12_told_26 : decode cX12_told 26 = .ok (.iload_n 1, 1) := by decide +kernel
theorem dX12_told_27 : decode cX12_told 27 = .ok (.imul, 1) := by decide +kernel
theorem dX12_told_28 : decode cX12_told 28 = .ok (.aload_n 0, 1) := by decide +kernel
theorem dX12_told_29 : decode cX12_told 29 = .ok (.invokevirtual 204, 3) := by decide +kernel
theorem dX12_told_32 : decode cX12_told 32 = .ok (.iadd, 1) := by decide +kernel
theorem dX12_told_33 : decode cX12_told 33 = .ok (.iconst 1, 1) := by decide +kernel
theorem dX12_told_34 : decode cX12_told 34 = .ok (.isub, 1) := by decide +kernel
theorem dX12_told_35 : decode cX12_told 35 = .ok (.iaload, 1) := by decide +kernel
theorem dX12_told_36 : decode cX12_told 36 = .ok (.iadd, 1) := by decide +kernel
theorem dX12_told_37 : decode cX12_told 37 = .ok (.ireturn, 1) := by decide +kernel
theorem dX12_isRight_0 : decode cX12_isRight 0 = .ok (.aload_n 0, 1) := by decide +kernel
theorem dX12_isRight_1 : decode cX12_isRight 1 = .ok (.iload_n 1, 1) := by decide +kernel
theorem dX12_isRight_2 : decode cX12_isRight 2 = .ok (.invokevirtual 217, 3) := by decide +kernel
theorem dX12_isRight_5 : decode cX12_isRight 5 = .ok (.aload_n 0, 1) := by decide +kernel
theorem dX12_isRight_6 : decode cX12_isRight 6 = .ok (.iload_n 1, 1) := by decide +kernel
theorem dX12_isRight_7 : decode cX12_isRight 7 = .ok (.invokevirtual 221, 3) := by decide +kernel
theorem dX12_isRight_10 : decode cX12_isRight 10 = .ok (.if_icmp .ne 7, 3) := by decide +kernel
theorem dX12_isRight_13 : decode cX12_isRight 13 = .ok (.iconst 1, 1) := by decide +kernel
theorem dX12_isRight_14 : decode cX12_isRight 14 = .ok (.goto 4, 3) := by decide +kernel
theorem dX12_isRight_17 : decode cX12_isRight 17 = .ok (.iconst 0, 1) := by decide +kernel
theorem dX12_isRight_18 : decode cX12_isRight 18 = .ok (.ireturn, 1) := by decide +kernel
theorem dX12_trackOf_0 : decode cX12_trackOf 0 = .ok (.aload_n 0, 1) := by decide +kernel
theorem dX12_trackOf_1 : decode cX12_trackOf 1 = .ok (.getfield 48, 3) := by decide +kernel
theorem dX12_trackOf_4 : decode cX12_trackOf 4 = .ok (.bipush 12, 2) := by decide +kernel
theorem dX12_trackOf_6 : decode cX12_trackOf 6 = .ok (.iload_n 1, 1) := by decide +kernel
theorem dX12_trackOf_7 : decode cX12_trackOf 7 = .ok (.imul, 1) := by decide +kernel
theorem dX12_trackOf_8 : decode cX12_trackOf 8 = .ok (.aload_n 0, 1) := by decide +kernel
theorem dX12_trackOf_9 : decode cX12_trackOf 9 = .ok (.getfield 17, 3) := by decide +kernel
theorem dX12_trackOf_12 : decode cX12_trackOf 12 = .ok (.bipush 8, 2) := by decide +kernel
theorem dX12_trackOf_14 : decode cX12_trackOf 14 = .ok (.iaload, 1) := by decide +kernel
theorem dX12_trackOf_15 : decode cX12_trackOf 15 = .ok (.iadd, 1) := by decide +kernel
theorem dX12_trackOf_16 : decode cX12_trackOf 16 = .ok (.iaload, 1) := by decide +kernel
theorem dX12_trackOf_17 : decode cX12_trackOf 17 = .ok (.ireturn, 1) := by decide +kernel
theorem dX12_numberOf_0 : decode cX12_numberOf 0 = .ok (.aload_n 0, 1) := by decide +kernel
theorem dX12_numberOf_1 : decode cX12_numberOf 1 = .ok (.getfield 48, 3) := by decide +kernel
theorem dX12_numberOf_4 : decode cX12_numberOf 4 = .ok (.bipush 12, 2) := by decide +kernel
theorem dX12_numberOf_6 : decode cX12_numberOf 6 = .ok (.iload_n 1, 1) := by decide +kernel
theorem dX12_numberOf_7 : decode cX12_numberOf 7 = .ok (.imul, 1) := by decide +kernel
theorem dX12_numberOf_8 : decode cX12_numberOf 8 = .ok (.iconst 1, 1) := by decide +kernel
theorem dX12_numberOf_9 : decode cX12_numberOf 9 = .ok (.iadd, 1) := by decide +kernel
theorem dX12_numberOf_10 : decode cX12_numberOf 10 = .ok (.aload_n 0, 1) := by decide +kernel
theorem dX12_numberOf_11 : decode cX12_numberOf 11 = .ok (.getfield 17, 3) := by decide +kernel
theorem dX12_numberOf_14 : decode cX12_numberOf 14 = .ok (.bipush 8, 2) := by decide +kernel
theorem dX12_numberOf_16 : decode cX12_numberOf 16 = .ok (.iaload, 1) := by decide +kernel
theorem dX12_numberOf_17 : decode cX12_numberOf 17 = .ok (.isub, 1) := by decide +kernel
theorem dX12_numberOf_18 : decode cX12_numberOf 18 = .ok (.iaload, 1) := by decide +kernel
theorem dX12_numberOf_19 : decode cX12_numberOf 19 = .ok (.ireturn, 1) := by decide +kernel
theorem dX12_found_0 : decode cX12_found 0 = .ok (.iload_n 1, 1) := by decide +kernel
theorem dX12_found_1 : decode cX12_found 1 = .ok (.iconst 0, 1) := by decide +kernel
theorem dX12_found_2 : decode cX12_found 2 = .ok (.aload_n 0, 1) := by decide +kernel
theorem dX12_found_3 : decode cX12_found 3 = .ok (.getfield 175, 3) := by decide +kernel
theorem dX12_found_6 : decode cX12_found 6 = .ok (.iconst 1, 1) := by decide +kernel
theorem dX12_found_7 : decode cX12_found 7 = .ok (.isub, 1) := by decide +kernel
theorem dX12_found_8 : decode cX12_found 8 = .ok (.invokestatic 85, 3) := by decide +kernel
theorem dX12_found_11 : decode cX12_found 11 = .ok (.ifCond .ne 5, 3) := by decide +kernel
theorem dX12_found_14 : decode cX12_found 14 = .ok (.iconst (-1), 1) := by decide +kernel
theorem dX12_found_15 : decode cX12_found 15 = .ok (.ireturn, 1) := by decide +kernel
theorem dX12_found_16 : decode cX12_found 16 = .ok (.aload_n 0, 1) := by decide +kernel
theorem dX12_found_17 : decode cX12_found 17 = .ok (.iload_n 1, 1) := by decide +kernel
theorem dX12_found_18 : decode cX12_found 18 = .ok (.aload_n 0, 1) := by decide +kernel
theorem dX12_found_19 : decode cX12_found 19 = .ok (.getfield 17, 3) := by decide +kernel
theorem dX12_found_22 : decode cX12_found 22 = .ok (.iconst 0, 1) := by decide +kernel
theorem dX12_found_23 : decode cX12_found 23 = .ok (.iaload, 1) := by decide +kernel
theorem dX12_found_24 : decode cX12_found 24 = .ok (.aload_n 0, 1) := by decide +kernel
theorem dX12_found_25 : decode cX12_found 25 = .ok (.getfield 17, 3) := by decide +kernel
theorem dX12_found_28 : decode cX12_found 28 = .ok (.iconst 1, 1) := by decide +kernel
theorem dX12_found_29 : decode cX12_found 29 = .ok (.iaload, 1) := by decide +kernel
theorem dX12_found_30 : decode cX12_found 30 = .ok (.invokevirtual 224, 3) := by decide +kernel
theorem dX12_found_33 : decode cX12_found 33 = .ok (.iload_n 2, 1) := by decide +kernel
theorem dX12_found_34 : decode cX12_found 34 = .ok (.iconst (-1), 1) := by decide +kernel
theorem dX12_found_35 : decode cX12_found 35 = .ok (.if_icmp .ne 8, 3) := by decide +kernel
theorem dX12_found_38 : decode cX12_found 38 = .ok (.aload_n 0, 1) := by decide +kernel
theorem dX12_found_39 : decode cX12_found 39 = .ok (.getfield 201, 3) := by decide +kernel
theorem dX12_found_42 : decode cX12_found 42 = .ok (.ireturn, 1) := by decide +kernel
theorem dX12_found_43 : decode cX12_found 43 = .ok (.iload_n 2, 1) := by decide +kernel
theorem dX12_found_44 : decode cX12_found 44 = .ok (.iconst 0, 1) := by decide +kernel
theorem dX12_found_45 : decode cX12_found 45 = .ok (.aload_n 0, 1) := by decide +kernel
theorem dX12_found_46 : decode cX12_found 46 = .ok (.getfield 201, 3) := by decide +kernel
theorem dX12_found_49 : decode cX12_found 49 = .ok (.iconst 1, 1) := by decide +kernel
theorem dX12_found_50 : decode cX12_found 50 = .ok (.isub, 1) := by decide +kernel
theorem dX12_found_51 : decode cX12_found 51 = .ok (.invokestatic 85, 3) := by decide +kernel
theorem dX12_found_54 : decode cX12_found 54 = .ok (.ifCond .ne 5, 3) := by decide +kernel
theorem dX12_found_57 : decode cX12_found 57 = .ok (.iconst (-1), 1) := by decide +kernel
theorem dX12_found_58 : decode cX12_found 58 = .ok (.ireturn, 1) := by decide +kernel
theorem dX12_found_59 : decode cX12_found 59 = .ok (.iload_n 3, 1) := by decide +kernel
theorem dX12_found_60 : decode cX12_found 60 = .ok (.tableswitch 78 0 5 #[40, 47, 53, 59, 65, 71], 40) := by decide +kernel
theorem dX12_found_100 : decode cX12_found 100 = .ok (.aload_n 0, 1) := by decide +kernel
theorem dX12_found_101 : decode cX12_found 101 = .ok (.getfield 45, 3) := by decide +kernel
theorem dX12_found_104 : decode cX12_found 104 = .ok (.iload_n 2, 1) := by decide +kernel
theorem dX12_found_105 : decode cX12_found 105 = .ok (.iaload, 1) := by decide +kernel
theorem dX12_found_106 : decode cX12_found 106 = .ok (.ireturn, 1) := by decide +kernel
theorem dX12_found_107 : decode cX12_found 107 = .ok (.aload_n 0, 1) := by decide +kernel
theorem dX12_found_108 : decode cX12_found 108 = .ok (.iload_n 2, 1) := by decide +kernel
theorem dX12_found_109 : decode cX12_found 109 = .ok (.invokevirtual 227, 3) := by decide +kernel
theorem dX12_found_112 : decode cX12_found 112 = .ok (.ireturn, 1) := by decide +kernel
theorem dX12_found_113 : decode cX12_found 113 = .ok (.aload_n 0, 1) := by decide +kernel
theorem dX12_found_114 : decode cX12_found 114 = .ok (.iload_n 2, 1) := by decide +kernel
theorem dX12_found_115 : decode cX12_found 115 = .ok (.invokevirtual 230, 3) := by decide +kernel
theorem dX12_found_118 : decode cX12_found 118 = .ok (.ireturn, 1) := by decide +kernel
theorem dX12_found_119 : decode cX12_found 119 = .ok (.aload_n 0, 1) := by decide +kernel
theorem dX12_found_120 : decode cX12_found 120 = .ok (.iload_n 2, 1) := by decide +kernel
theorem dX12_found_121 : decode cX12_found 121 = .ok (.invokevirtual 221, 3) := by decide +kernel
theorem dX12_found_124 : decode cX12_found 124 = .ok (.ireturn, 1) := by decide +kernel
theorem dX12_found_125 : decode cX12_found 125 = .ok (.aload_n 0, 1) := by decide +kernel
theorem dX12_found_126 : decode cX12_found 126 = .ok (.iload_n 2, 1) := by decide +kernel
theorem dX12_found_127 : decode cX12_found 127 = .ok (.invokevirtual 217, 3) := by decide +kernel
theorem dX12_found_130 : decode cX12_found 130 = .ok (.ireturn, 1) := by decide +kernel
theorem dX12_found_131 : decode cX12_found 131 = .ok (.aload_n 0, 1) := by decide +kernel
theorem dX12_found_132 : decode cX12_found 132 = .ok (.getfield 51, 3) := by decide +kernel
theorem dX12_found_135 : decode cX12_found 135 = .ok (.iload_n 2, 1) := by decide +kernel
theorem dX12_found_136 : decode cX12_found 136 = .ok (.iaload, 1) := by decide +kernel
theorem dX12_found_137 : decode cX12_found 137 = .ok (.ireturn, 1) := by decide +kernel
theorem dX12_found_138 : decode cX12_found 138 = .ok (.iload_n 3, 1) := by decide +kernel
theorem dX12_found_139 : decode cX12_found 139 = .ok (.bipush 10, 2) := by decide +kernel
theorem dX12_found_141 : decode cX12_found 141 = .ok (.bipush 9, 2) := by decide +kernel
theorem dX12_found_143 : decode cX12_found 143 = .ok (.aload_n 0, 1) := by decide +kernel
theorem dX12_found_144 : decode cX12_found 144 = .ok (.getfield 17, 3) := by decide +kernel
theorem dX12_found_147 : decode cX12_found 147 = .ok (.iconst 4, 1) := by decide +kernel
theorem dX12_found_148 : decode cX12_found 148 = .ok (.iaload, 1) := by decide +kernel
theorem dX12_found_149 : decode cX12_found 149 = .ok (.iadd, 1) := by decide +kernel
theorem dX12_found_150 : decode cX12_found 150 = .ok (.invokestatic 85, 3) := by decide +kernel
theorem dX12_found_153 : decode cX12_found 153 = .ok (.ifCond .eq 22, 3) := by decide +kernel
theorem dX12_found_156 : decode cX12_found 156 = .ok (.aload_n 0, 1) := by decide +kernel
theorem dX12_found_157 : decode cX12_found 157 = .ok (.getfield 48, 3) := by decide +kernel
theorem dX12_found_160 : decode cX12_found 160 = .ok (.bipush 12, 2) := by decide +kernel
theorem dX12_found_162 : decode cX12_found 162 = .ok (.iload_n 2, 1) := by decide +kernel
theorem dX12_found_163 : decode cX12_found 163 = .ok (.imul, 1) := by decide +kernel
theorem dX12_found_164 : decode cX12_found 164 = .ok (.iconst 2, 1) := by decide +kernel
theorem dX12_found_165 : decode cX12_found 165 = .ok (.iadd, 1) := by decide +kernel
theorem dX12_found_166 : decode cX12_found 166 = .ok (.iload_n 3, 1) := by decide +kernel
theorem dX12_found_167 : decode cX12_found 167 = .ok (.iadd, 1) := by decide +kernel
theorem dX12_found_168 : decode cX12_found 168 = .ok (.bipush 10, 2) := by decide +kernel
theorem dX12_found_170 : decode cX12_found 170 = .ok (.isub, 1) := by decide +kernel
theorem dX12_found_171 : decode cX12_found 171 = .ok (.iaload, 1) := by decide +kernel
theorem dX12_found_172 : decode cX12_found 172 = .ok (.goto 4, 3) := by decide +kernel
theorem dX12_found_175 : decode cX12_found 175 = .ok (.iconst (-1), 1) := by decide +kernel
theorem dX12_found_176 : decode cX12_found 176 = .ok (.ireturn, 1) := by decide +kernel
theorem dX12_tuned_0 : decode cX12_tuned 0 = .ok (.iload_n 1, 1) := by decide +kernel
theorem dX12_tuned_1 : decode cX12_tuned 1 = .ok (.iconst 0, 1) := by decide +kernel
theorem dX12_tuned_2 : decode cX12_tuned 2 = .ok (.aload_n 0, 1) := by decide +kernel
theorem dX12_tuned_3 : decode cX12_tuned 3 = .ok (.getfield 175, 3) := by decide +kernel
theorem dX12_tuned_6 : decode cX12_tuned 6 = .ok (.iconst 1, 1) := by decide +kernel
theorem dX12_tuned_7 : decode cX12_tuned 7 = .ok (.isub, 1) := by decide +kernel
theorem dX12_tuned_8 : decode cX12_tuned 8 = .ok (.invokestatic 85, 3) := by decide +kernel
theorem dX12_tuned_11 : decode cX12_tuned 11 = .ok (.ifCond .eq 12, 3) := by decide +kernel
theorem dX12_tuned_14 : decode cX12_tuned 14 = .ok (.iload_n 2, 1) := by decide +kernel
theorem dX12_tuned_15 : decode cX12_tuned 15 = .ok (.iconst 0, 1) := by decide +kernel
theorem dX12_tuned_16 : decode cX12_tuned 16 = .ok (.iconst 3, 1) := by decide +kernel
theorem dX12_tuned_17 : decode cX12_tuned 17 = .ok (.invokestatic 85, 3) := by decide +kernel
theorem dX12_tuned_20 : decode cX12_tuned 20 = .ok (.ifCond .ne 5, 3) := by decide +kernel

theorem dX0_init_0 : decode cX0_init 0 = .ok (.aload_n 0, 1) := by decide +kernel
theorem dX0_init_1 : decode cX0_init 1 = .ok (.invokespecial 3, 3) := by decide +kernel
theorem dX0_init_4 : decode cX0_init 4 = .ok (.aload_n 0, 1) := by decide +kernel
theorem dX0_init_5 : decode cX0_init 5 = .ok (.bipush 54, 2) := by decide +kernel
theorem dX0_init_7 : decode cX0_init 7 = .ok (.newarray .int, 2) := by decide +kernel
theorem dX0_init_9 : decode cX0_init 9 = .ok (.putfield 11, 3) := by decide +kernel
theorem dX0_init_12 : decode cX0_init 12 = .ok (.aload_n 0, 1) := by decide +kernel
theorem dX0_init_13 : decode cX0_init 13 = .ok (.bipush 54, 2) := by decide +kernel
theorem dX0_init_15 : decode cX0_init 15 = .ok (.newarray .int, 2) := by decide +kernel
theorem dX0_init_17 : decode cX0_init 17 = .ok (.putfield 15, 3) := by decide +kernel
theorem dX0_init_20 : decode cX0_init 20 = .ok (.aload_n 0, 1) := by decide +kernel
theorem dX0_init_21 : decode cX0_init 21 = .ok (.bipush 54, 2) := by decide +kernel
theorem dX0_init_23 : decode cX0_init 23 = .ok (.newarray .int, 2) := by decide +kernel
theorem dX0_init_25 : decode cX0_init 25 = .ok (.putfield 18, 3) := by decide +kernel
theorem dX0_init_28 : decode cX0_init 28 = .ok (.aload_n 0, 1) := by decide +kernel
theorem dX0_init_29 : decode cX0_init 29 = .ok (.bipush 54, 2) := by decide +kernel
theorem dX0_init_31 : decode cX0_init 31 = .ok (.newarray .int, 2) := by decide +kernel
theorem dX0_init_33 : decode cX0_init 33 = .ok (.putfield 21, 3) := by decide +kernel
theorem dX0_init_36 : decode cX0_init 36 = .ok (.aload_n 0, 1) := by decide +kernel
theorem dX0_init_37 : decode cX0_init 37 = .ok (.iconst 0, 1) := by decide +kernel
theorem dX0_init_38 : decode cX0_init 38 = .ok (.putfield 24, 3) := by decide +kernel
theorem dX0_init_41 : decode cX0_init 41 = .ok (.return_, 1) := by decide +kernel
theorem dX1_init_0 : decode cX1_init 0 = .ok (.aload_n 0, 1) := by decide +kernel
theorem dX1_init_1 : decode cX1_init 1 = .ok (.invokespecial 3, 3) := by decide +kernel
theorem dX1_init_4 : decode cX1_init 4 = .ok (.aload_n 0, 1) := by decide +kernel
theorem dX1_init_5 : decode cX1_init 5 = .ok (.bipush 40, 2) := by decide +kernel
theorem dX1_init_7 : decode cX1_init 7 = .ok (.newarray .long, 2) := by decide +kernel
theorem dX1_init_9 : decode cX1_init 9 = .ok (.putfield 9, 3) := by decide +kernel
theorem dX1_init_12 : decode cX1_init 12 = .ok (.aload_n 0, 1) := by decide +kernel
theorem dX1_init_13 : decode cX1_init 13 = .ok (.iconst 0, 1) := by decide +kernel
theorem dX1_init_14 : decode cX1_init 14 = .ok (.putfield 15, 3) := by decide +kernel
theorem dX1_init_17 : decode cX1_init 17 = .ok (.aload_n 0, 1) := by decide +kernel
theorem dX1_init_18 : decode cX1_init 18 = .ok (.iconst 0, 1) := by decide +kernel
theorem dX1_init_19 : decode cX1_init 19 = .ok (.putfield 19, 3) := by decide +kernel
theorem dX1_init_22 : decode cX1_init 22 = .ok (.return_, 1) := by decide +kernel
theorem dX1_breakAll_0 : decode cX1_breakAll 0 = .ok (.aload_n 1, 1) := by decide +kernel
theorem dX1_breakAll_1 : decode cX1_breakAll 1 = .ok (.iconst 0, 1) := by decide +kernel
theorem dX1_breakAll_2 : decode cX1_breakAll 2 = .ok (.aload_n 0, 1) := by decide +kernel
theorem dX1_breakAll_3 : decode cX1_breakAll 3 = .ok (.getfield 9, 3) := by decide +kernel
theorem dX1_breakAll_6 : decode cX1_breakAll 6 = .ok (.iconst 0, 1) := by decide +kernel
theorem dX1_breakAll_7 : decode cX1_breakAll 7 = .ok (.bipush 40, 2) := by decide +kernel
theorem dX1_breakAll_9 : decode cX1_breakAll 9 = .ok (.invokestatic 22, 3) := by decide +kernel
theorem dX1_breakAll_12 : decode cX1_breakAll 12 = .ok (.aload_n 0, 1) := by decide +kernel
theorem dX1_breakAll_13 : decode cX1_breakAll 13 = .ok (.iconst 0, 1) := by decide +kernel
theorem dX1_breakAll_14 : decode cX1_breakAll 14 = .ok (.putfield 15, 3) := by decide +kernel
theorem dX1_breakAll_17 : decode cX1_breakAll 17 = .ok (.iconst 0, 1) := by decide +kernel
theorem dX1_breakAll_18 : decode cX1_breakAll 18 = .ok (.istore_n 2, 1) := by decide +kernel
theorem dX1_breakAll_19 : decode cX1_breakAll 19 = .ok (.iload_n 2, 1) := by decide +kernel
theorem dX1_breakAll_20 : decode cX1_breakAll 20 = .ok (.sipush 780, 3) := by decide +kernel
theorem dX1_breakAll_23 : decode cX1_breakAll 23 = .ok (.if_icmp .ge 56, 3) := by decide +kernel
theorem dX1_breakAll_26 : decode cX1_breakAll 26 = .ok (.aload_n 0, 1) := by decide +kernel
theorem dX1_breakAll_27 : decode cX1_breakAll 27 = .ok (.invokevirtual 28, 3) := by decide +kernel
theorem dX1_breakAll_30 : decode cX1_breakAll 30 = .ok (.istore_n 3, 1) := by decide +kernel
theorem dX1_breakAll_31 : decode cX1_breakAll 31 = .ok (.iload_n 3, 1) := by decide +kernel
theorem dX1_breakAll_32 : decode cX1_breakAll 32 = .ok (.ifCond .ge 4, 3) := by decide +kernel
theorem dX1_breakAll_35 : decode cX1_breakAll 35 = .ok (.return_, 1) := by decide +kernel
theorem dX1_breakAll_36 : decode cX1_breakAll 36 = .ok (.aload_n 0, 1) := by decide +kernel
theorem dX1_breakAll_37 : decode cX1_breakAll 37 = .ok (.getfield 15, 3) := by decide +kernel
theorem dX1_breakAll_40 : decode cX1_breakAll 40 = .ok (.ifCond .ne 8, 3) := by decide +kernel
theorem dX1_breakAll_43 : decode cX1_breakAll 43 = .ok (.aload_n 0, 1) := by decide +kernel
theorem dX1_breakAll_44 : decode cX1_breakAll 44 = .ok (.iload_n 3, 1) := by decide +kernel
theorem dX1_breakAll_45 : decode cX1_breakAll 45 = .ok (.putfield 19, 3) := by decide +kernel
theorem dX1_breakAll_48 : decode cX1_breakAll 48 = .ok (.aload_n 0, 1) := by decide +kernel
theorem dX1_breakAll_49 : decode cX1_breakAll 49 = .ok (.dup, 1) := by decide +kernel
theorem dX1_breakAll_50 : decode cX1_breakAll 50 = .ok (.getfield 15, 3) := by decide +kernel
theorem dX1_breakAll_53 : decode cX1_breakAll 53 = .ok (.iconst 1, 1) := by decide +kernel
theorem dX1_breakAll_54 : decode cX1_breakAll 54 = .ok (.iadd, 1) := by decide +kernel
theorem dX1_breakAll_55 : decode cX1_breakAll 55 = .ok (.putfield 15, 3) := by decide +kernel
theorem dX1_breakAll_58 : decode cX1_breakAll 58 = .ok (.aload_n 0, 1) := by decide +kernel
theorem dX1_breakAll_59 : decode cX1_breakAll 59 = .ok (.getfield 9, 3) := by decide +kernel
theorem dX1_breakAll_62 : decode cX1_breakAll 62 = .ok (.iload_n 3, 1) := by decide +kernel
theorem dX1_breakAll_63 : decode cX1_breakAll 63 = .ok (.bipush 40, 2) := by decide +kernel
theorem dX1_breakAll_65 : decode cX1_breakAll 65 = .ok (.idiv, 1) := by decide +kernel
theorem dX1_breakAll_66 : decode cX1_breakAll 66 = .ok (.iload_n 3, 1) := by decide +kernel
theorem dX1_breakAll_67 : decode cX1_breakAll 67 = .ok (.bipush 40, 2) := by decide +kernel
theorem dX1_breakAll_69 : decode cX1_breakAll 69 = .ok (.irem, 1) := by decide +kernel
theorem dX1_breakAll_70 : decode cX1_breakAll 70 = .ok (.invokestatic 32, 3) := by decide +kernel
theorem dX1_breakAll_73 : decode cX1_breakAll 73 = .ok (.iinc 2 1, 3) := by decide +kernel
theorem dX1_breakAll_76 : decode cX1_breakAll 76 = .ok (.goto (-57), 3) := by decide +kernel
theorem dX1_breakAll_79 : decode cX1_breakAll 79 = .ok (.return_, 1) := by decide +kernel
theorem dX1_mostSupported_0 : decode cX1_mostSupported 0 = .ok (.iconst (-1), 1) := by decide +kernel
theorem dX1_mostSupported_1 : decode cX1_mostSupported 1 = .ok (.istore_n 1, 1) := by decide +kernel
theorem dX1_mostSupported_2 : decode cX1_mostSupported 2 = .ok (.iconst 0, 1) := by decide +kernel
theorem dX1_mostSupported_3 : decode cX1_mostSupported 3 = .ok (.istore_n 2, 1) := by decide +kernel
theorem dX1_mostSupported_4 : decode cX1_mostSupported 4 = .ok (.iconst 0, 1) := by decide +kernel
theorem dX1_mostSupported_5 : decode cX1_mostSupported 5 = .ok (.istore_n 3, 1) := by decide +kernel
theorem dX1_mostSupported_6 : decode cX1_mostSupported 6 = .ok (.iload_n 3, 1) := by decide +kernel
theorem dX1_mostSupported_7 : decode cX1_mostSupported 7 = .ok (.bipush 40, 2) := by decide +kernel
theorem dX1_mostSupported_9 : decode cX1_mostSupported 9 = .ok (.if_icmp .ge 73, 3) := by decide +kernel
theorem dX1_mostSupported_12 : decode cX1_mostSupported 12 = .ok (.iload_n 3, 1) := by decide +kernel
theorem dX1_mostSupported_13 : decode cX1_mostSupported 13 = .ok (.iconst 1, 1) := by decide +kernel
theorem dX1_mostSupported_14 : decode cX1_mostSupported 14 = .ok (.iadd, 1) := by decide +kernel
theorem dX1_mostSupported_15 : decode cX1_mostSupported 15 = .ok (.istore 4, 2) := by decide +kernel
theorem dX1_mostSupported_17 : decode cX1_mostSupported 17 = .ok (.iload 4, 2) := by decide +kernel
theorem dX1_mostSupported_19 : decode cX1_mostSupported 19 = .ok (.bipush 40, 2) := by decide +kernel
theorem dX1_mostSupported_21 : decode cX1_mostSupported 21 = .ok (.if_icmp .ge 55, 3) := by decide +kernel
theorem dX1_mostSupported_24 : decode cX1_mostSupported 24 = .ok (.aload_n 0, 1) := by decide +kernel
theorem dX1_mostSupported_25 : decode cX1_mostSupported 25 = .ok (.getfield 9, 3) := by decide +kernel
theorem dX1_mostSupported_28 : decode cX1_mostSupported 28 = .ok (.iload_n 3, 1) := by decide +kernel
theorem dX1_mostSupported_29 : decode cX1_mostSupported 29 = .ok (.laload, 1) := by decide +kernel
theorem dX1_mostSupported_30 : decode cX1_mostSupported 30 = .ok (.iload 4, 2) := by decide +kernel
theorem dX1_mostSupported_32 : decode cX1_mostSupported 32 = .ok (.invokestatic 36, 3) := by decide +kernel
theorem dX1_mostSupported_35 : decode cX1_mostSupported 35 = .ok (.ifCond .eq 35, 3) := by decide +kernel
theorem dX1_mostSupported_38 : decode cX1_mostSupported 38 = .ok (.aload_n 0, 1) := by decide +kernel
theorem dX1_mostSupported_39 : decode cX1_mostSupported 39 = .ok (.getfield 9, 3) := by decide +kernel
theorem dX1_mostSupported_42 : decode cX1_mostSupported 42 = .ok (.iload_n 3, 1) := by decide +kernel
theorem dX1_mostSupported_43 : decode cX1_mostSupported 43 = .ok (.iload 4, 2) := by decide +kernel
theorem dX1_mostSupported_45 : decode cX1_mostSupported 45 = .ok (.invokestatic 40, 3) := by decide +kernel
theorem dX1_mostSupported_48 : decode cX1_mostSupported 48 = .ok (.iload_n 2, 1) := by decide +kernel
theorem dX1_mostSupported_49 : decode cX1_mostSupported 49 = .ok (.if_icmp .le 21, 3) := by decide +kernel
theorem dX1_mostSupported_52 : decode cX1_mostSupported 52 = .ok (.aload_n 0, 1) := by decide +kernel
theorem dX1_mostSupported_53 : decode cX1_mostSupported 53 = .ok (.getfield 9, 3) := by decide +kernel
theorem dX1_mostSupported_56 : decode cX1_mostSupported 56 = .ok (.iload_n 3, 1) := by decide +kernel
theorem dX1_mostSupported_57 : decode cX1_mostSupported 57 = .ok (.iload 4, 2) := by decide +kernel
theorem dX1_mostSupported_59 : decode cX1_mostSupported 59 = .ok (.invokestatic 40, 3) := by decide +kernel
theorem dX1_mostSupported_62 : decode cX1_mostSupported 62 = .ok (.istore_n 2, 1) := by decide +kernel
theorem dX1_mostSupported_63 : decode cX1_mostSupported 63 = .ok (.iload_n 3, 1) := by decide +kernel
theorem dX1_mostSupported_64 : decode cX1_mostSupported 64 = .ok (.iload 4, 2) := by decide +kernel
theorem dX1_mostSupported_66 : decode cX1_mostSupported 66 = .ok (.invokestatic 46, 3) := by decide +kernel
theorem dX1_mostSupported_69 : decode cX1_mostSupported 69 = .ok (.istore_n 1, 1) := by decide +kernel
theorem dX1_mostSupported_70 : decode cX1_mostSupported 70 = .ok (.iinc 4 1, 3) := by decide +kernel
theorem dX1_mostSupported_73 : decode cX1_mostSupported 73 = .ok (.goto (-56), 3) := by decide +kernel
theorem dX1_mostSupported_76 : decode cX1_mostSupported 76 = .ok (.iinc 3 1, 3) := by decide +kernel
theorem dX1_mostSupported_79 : decode cX1_mostSupported 79 = .ok (.goto (-73), 3) := by decide +kernel
theorem dX1_mostSupported_82 : decode cX1_mostSupported 82 = .ok (.iload_n 1, 1) := by decide +kernel
theorem dX1_mostSupported_83 : decode cX1_mostSupported 83 = .ok (.ireturn, 1) := by decide +kernel
theorem dX1_fewestOf_0 : decode cX1_fewestOf 0 = .ok (.aload_n 1, 1) := by decide +kernel
theorem dX1_fewestOf_1 : decode cX1_fewestOf 1 = .ok (.iconst 0, 1) := by decide +kernel
theorem dX1_fewestOf_2 : decode cX1_fewestOf 2 = .ok (.aload_n 0, 1) := by decide +kernel
theorem dX1_fewestOf_3 : decode cX1_fewestOf 3 = .ok (.getfield 9, 3) := by decide +kernel
theorem dX1_fewestOf_6 : decode cX1_fewestOf 6 = .ok (.iconst 0, 1) := by decide +kernel
theorem dX1_fewestOf_7 : decode cX1_fewestOf 7 = .ok (.bipush 40, 2) := by decide +kernel
theorem dX1_fewestOf_9 : decode cX1_fewestOf 9 = .ok (.invokestatic 22, 3) := by decide +kernel
theorem dX1_fewestOf_12 : decode cX1_fewestOf 12 = .ok (.iconst 0, 1) := by decide +kernel
theorem dX1_fewestOf_13 : decode cX1_fewestOf 13 = .ok (.istore_n 2, 1) := by decide +kernel
theorem dX1_fewestOf_14 : decode cX1_fewestOf 14 = .ok (.iload_n 2, 1) := by decide +kernel
theorem dX1_fewestOf_15 : decode cX1_fewestOf 15 = .ok (.iconst 4, 1) := by decide +kernel
theorem dX1_fewestOf_16 : decode cX1_fewestOf 16 = .ok (.if_icmp .gt 22, 3) := by decide +kernel
theorem dX1_fewestOf_19 : decode cX1_fewestOf 19 = .ok (.aload_n 0, 1) := by decide +kernel
theorem dX1_fewestOf_20 : decode cX1_fewestOf 20 = .ok (.getfield 9, 3) := by decide +kernel
theorem dX1_fewestOf_23 : decode cX1_fewestOf 23 = .ok (.iload_n 2, 1) := by decide +kernel
theorem dX1_fewestOf_24 : decode cX1_fewestOf 24 = .ok (.invokestatic 50, 3) := by decide +kernel
theorem dX1_fewestOf_27 : decode cX1_fewestOf 27 = .ok (.ifCond .eq 5, 3) := by decide +kernel
theorem dX1_fewestOf_30 : decode cX1_fewestOf 30 = .ok (.iload_n 2, 1) := by decide +kernel
theorem dX1_fewestOf_31 : decode cX1_fewestOf 31 = .ok (.ireturn, 1) := by decide +kernel
theorem dX1_fewestOf_32 : decode cX1_fewestOf 32 = .ok (.iinc 2 1, 3) := by decide +kernel
theorem dX1_fewestOf_35 : decode cX1_fewestOf 35 = .ok (.goto (-21), 3) := by decide +kernel
theorem dX1_fewestOf_38 : decode cX1_fewestOf 38 = .ok (.bipush (-5), 2) := by decide +kernel
theorem dX1_fewestOf_40 : decode cX1_fewestOf 40 = .ok (.ireturn, 1) := by decide +kernel
theorem dX1_breaksWith_0 : decode cX1_breaksWith 0 = .ok (.aload_n 0, 1) := by decide +kernel
theorem dX1_breaksWith_1 : decode cX1_breaksWith 1 = .ok (.invokestatic 54, 3) := by decide +kernel
theorem dX1_breaksWith_4 : decode cX1_breaksWith 4 = .ok (.istore_n 2, 1) := by decide +kernel
theorem dX1_breaksWith_5 : decode cX1_breaksWith 5 = .ok (.iload_n 2, 1) := by decide +kernel
theorem dX1_breaksWith_6 : decode cX1_breaksWith 6 = .ok (.ifCond .ge 5, 3) := by decide +kernel
theorem dX1_breaksWith_9 : decode cX1_breaksWith 9 = .ok (.iconst 1, 1) := by decide +kernel
theorem dX1_breaksWith_10 : decode cX1_breaksWith 10 = .ok (.ireturn, 1) := by decide +kernel
theorem dX1_breaksWith_11 : decode cX1_breaksWith 11 = .ok (.iload_n 1, 1) := by decide +kernel
theorem dX1_breaksWith_12 : decode cX1_breaksWith 12 = .ok (.ifCond .gt 5, 3) := by decide +kernel
theorem dX1_breaksWith_15 : decode cX1_breaksWith 15 = .ok (.iconst 0, 1) := by decide +kernel
theorem dX1_breaksWith_16 : decode cX1_breaksWith 16 = .ok (.ireturn, 1) := by decide +kernel
theorem dX1_breaksWith_17 : decode cX1_breaksWith 17 = .ok (.iload_n 2, 1) := by decide +kernel
theorem dX1_breaksWith_18 : decode cX1_breaksWith 18 = .ok (.sipush 1600, 3) := by decide +kernel
theorem dX1_breaksWith_21 : decode cX1_breaksWith 21 = .ok (.idiv, 1) := by decide +kernel
theorem dX1_breaksWith_22 : decode cX1_breaksWith 22 = .ok (.istore_n 3, 1) := by decide +kernel
theorem dX1_breaksWith_23 : decode cX1_breaksWith 23 = .ok (.iload_n 2, 1) := by decide +kernel
theorem dX1_breaksWith_24 : decode cX1_breaksWith 24 = .ok (.bipush 40, 2) := by decide +kernel
theorem dX1_breaksWith_26 : decode cX1_breaksWith 26 = .ok (.idiv, 1) := by decide +kernel
theorem dX1_breaksWith_27 : decode cX1_breaksWith 27 = .ok (.bipush 40, 2) := by decide +kernel
theorem dX1_breaksWith_29 : decode cX1_breaksWith 29 = .ok (.irem, 1) := by decide +kernel
theorem dX1_breaksWith_30 : decode cX1_breaksWith 30 = .ok (.istore 4, 2) := by decide +kernel
theorem dX1_breaksWith_32 : decode cX1_breaksWith 32 = .ok (.iload_n 2, 1) := by decide +kernel
theorem dX1_breaksWith_33 : decode cX1_breaksWith 33 = .ok (.bipush 40, 2) := by decide +kernel
theorem dX1_breaksWith_35 : decode cX1_breaksWith 35 = .ok (.irem, 1) := by decide +kernel
theorem dX1_breaksWith_36 : decode cX1_breaksWith 36 = .ok (.istore 5, 2) := by decide +kernel
theorem dX1_breaksWith_38 : decode cX1_breaksWith 38 = .ok (.aload_n 0, 1) := by decide +kernel
theorem dX1_breaksWith_39 : decode cX1_breaksWith 39 = .ok (.iload_n 3, 1) := by decide +kernel
theorem dX1_breaksWith_40 : decode cX1_breaksWith 40 = .ok (.iload 4, 2) := by decide +kernel
theorem dX1_breaksWith_42 : decode cX1_breaksWith 42 = .ok (.iload_n 1, 1) := by decide +kernel
theorem dX1_breaksWith_43 : decode cX1_breaksWith 43 = .ok (.invokestatic 58, 3) := by decide +kernel
theorem dX1_breaksWith_46 : decode cX1_breaksWith 46 = .ok (.ifCond .ne 26, 3) := by decide +kernel
theorem dX1_breaksWith_49 : decode cX1_breaksWith 49 = .ok (.aload_n 0, 1) := by decide +kernel
theorem dX1_breaksWith_50 : decode cX1_breaksWith 50 = .ok (.iload_n 3, 1) := by decide +kernel
theorem dX1_breaksWith_51 : decode cX1_breaksWith 51 = .ok (.iload 5, 2) := by decide +kernel
theorem dX1_breaksWith_53 : decode cX1_breaksWith 53 = .ok (.iload_n 1, 1) := by decide +kernel
theorem dX1_breaksWith_54 : decode cX1_breaksWith 54 = .ok (.invokestatic 58, 3) := by decide +kernel
theorem dX1_breaksWith_57 : decode cX1_breaksWith 57 = .ok (.ifCond .ne 15, 3) := by decide +kernel
theorem dX1_breaksWith_60 : decode cX1_breaksWith 60 = .ok (.aload_n 0, 1) := by decide +kernel
theorem dX1_breaksWith_61 : decode cX1_breaksWith 61 = .ok (.iload 4, 2) := by decide +kernel
theorem dX1_breaksWith_63 : decode cX1_breaksWith 63 = .ok (.iload 5, 2) := by decide +kernel
theorem dX1_breaksWith_65 : decode cX1_breaksWith 65 = .ok (.iload_n 1, 1) := by decide +kernel
theorem dX1_breaksWith_66 : decode cX1_breaksWith 66 = .ok (.invokestatic 58, 3) := by decide +kernel
theorem dX1_breaksWith_69 : decode cX1_breaksWith 69 = .ok (.ifCond .eq 7, 3) := by decide +kernel
theorem dX1_breaksWith_72 : decode cX1_breaksWith 72 = .ok (.iconst 1, 1) := by decide +kernel
theorem dX1_breaksWith_73 : decode cX1_breaksWith 73 = .ok (.goto 4, 3) := by decide +kernel
theorem dX1_breaksWith_76 : decode cX1_breaksWith 76 = .ok (.iconst 0, 1) := by decide +kernel
theorem dX1_breaksWith_77 : decode cX1_breaksWith 77 = .ok (.ireturn, 1) := by decide +kernel
theorem dX1_breaksWithout_0 : decode cX1_breaksWithout 0 = .ok (.aload_n 0, 1) := by decide +kernel
theorem dX1_breaksWithout_1 : decode cX1_breaksWithout 1 = .ok (.iload_n 1, 1) := by decide +kernel
theorem dX1_breaksWithout_2 : decode cX1_breaksWithout 2 = .ok (.iload_n 2, 1) := by decide +kernel
theorem dX1_breaksWithout_3 : decode cX1_breaksWithout 3 = .ok (.invokestatic 32, 3) := by decide +kernel
theorem dX1_breaksWithout_6 : decode cX1_breaksWithout 6 = .ok (.aload_n 0, 1) := by decide +kernel
theorem dX1_breaksWithout_7 : decode cX1_breaksWithout 7 = .ok (.iload_n 3, 1) := by decide +kernel
theorem dX1_breaksWithout_8 : decode cX1_breaksWithout 8 = .ok (.iconst 1, 1) := by decide +kernel
theorem dX1_breaksWithout_9 : decode cX1_breaksWithout 9 = .ok (.isub, 1) := by decide +kernel
theorem dX1_breaksWithout_10 : decode cX1_breaksWithout 10 = .ok (.invokestatic 50, 3) := by decide +kernel
theorem dX1_breaksWithout_13 : decode cX1_breaksWithout 13 = .ok (.istore 4, 2) := by decide +kernel
theorem dX1_breaksWithout_15 : decode cX1_breaksWithout 15 = .ok (.aload_n 0, 1) := by decide +kernel
theorem dX1_breaksWithout_16 : decode cX1_breaksWithout 16 = .ok (.iload_n 1, 1) := by decide +kernel
theorem dX1_breaksWithout_17 : decode cX1_breaksWithout 17 = .ok (.iload_n 2, 1) := by decide +kernel
theorem dX1_breaksWithout_18 : decode cX1_breaksWithout 18 = .ok (.invokestatic 32, 3) := by decide +kernel
theorem dX1_breaksWithout_21 : decode cX1_breaksWithout 21 = .ok (.iload 4, 2) := by decide +kernel
theorem dX1_breaksWithout_23 : decode cX1_breaksWithout 23 = .ok (.ireturn, 1) := by decide +kernel
theorem dX1_anyTriangle_0 : decode cX1_anyTriangle 0 = .ok (.iconst 0, 1) := by decide +kernel
theorem dX1_anyTriangle_1 : decode cX1_anyTriangle 1 = .ok (.istore_n 1, 1) := by decide +kernel
theorem dX1_anyTriangle_2 : decode cX1_anyTriangle 2 = .ok (.iload_n 1, 1) := by decide +kernel
theorem dX1_anyTriangle_3 : decode cX1_anyTriangle 3 = .ok (.bipush 40, 2) := by decide +kernel
theorem dX1_anyTriangle_5 : decode cX1_anyTriangle 5 = .ok (.if_icmp .ge 74, 3) := by decide +kernel
theorem dX1_anyTriangle_8 : decode cX1_anyTriangle 8 = .ok (.iload_n 1, 1) := by decide +kernel
theorem dX1_anyTriangle_9 : decode cX1_anyTriangle 9 = .ok (.iconst 1, 1) := by decide +kernel
theorem dX1_anyTriangle_10 : decode cX1_anyTriangle 10 = .ok (.iadd, 1) := by decide +kernel
theorem dX1_anyTriangle_11 : decode cX1_anyTriangle 11 = .ok (.istore_n 2, 1) := by decide +kernel
theorem dX1_anyTriangle_12 : decode cX1_anyTriangle 12 = .ok (.iload_n 2, 1) := by decide +kernel
theorem dX1_anyTriangle_13 : decode cX1_anyTriangle 13 = .ok (.bipush 40, 2) := by decide +kernel
theorem dX1_anyTriangle_15 : decode cX1_anyTriangle 15 = .ok (.if_icmp .ge 58, 3) := by decide +kernel
theorem dX1_anyTriangle_18 : decode cX1_anyTriangle 18 = .ok (.aload_n 0, 1) := by decide +kernel
theorem dX1_anyTriangle_19 : decode cX1_anyTriangle 19 = .ok (.iload_n 1, 1) := by decide +kernel
theorem dX1_anyTriangle_20 : decode cX1_anyTriangle 20 = .ok (.laload, 1) := by decide +kernel
theorem dX1_anyTriangle_21 : decode cX1_anyTriangle 21 = .ok (.iload_n 2, 1) := by decide +kernel
theorem dX1_anyTriangle_22 : decode cX1_anyTriangle 22 = .ok (.invokestatic 36, 3) := by decide +kernel
theorem dX1_anyTriangle_25 : decode cX1_anyTriangle 25 = .ok (.ifCond .eq 18, 3) := by decide +kernel
theorem dX1_anyTriangle_28 : decode cX1_anyTriangle 28 = .ok (.aload_n 0, 1) := by decide +kernel
theorem dX1_anyTriangle_29 : decode cX1_anyTriangle 29 = .ok (.iload_n 1, 1) := by decide +kernel
theorem dX1_anyTriangle_30 : decode cX1_anyTriangle 30 = .ok (.laload, 1) := by decide +kernel
theorem dX1_anyTriangle_31 : decode cX1_anyTriangle 31 = .ok (.aload_n 0, 1) := by decide +kernel
theorem dX1_anyTriangle_32 : decode cX1_anyTriangle 32 = .ok (.iload_n 2, 1) := by decide +kernel
theorem dX1_anyTriangle_33 : decode cX1_anyTriangle 33 = .ok (.laload, 1) := by decide +kernel
theorem dX1_anyTriangle_34 : decode cX1_anyTriangle 34 = .ok (.land, 1) := by decide +kernel
theorem dX1_anyTriangle_35 : decode cX1_anyTriangle 35 = .ok (.iload_n 2, 1) := by decide +kernel
theorem dX1_anyTriangle_36 : decode cX1_anyTriangle 36 = .ok (.invokestatic 62, 3) := by decide +kernel
theorem dX1_anyTriangle_39 : decode cX1_anyTriangle 39 = .ok (.land, 1) := by decide +kernel
theorem dX1_anyTriangle_40 : decode cX1_anyTriangle 40 = .ok (.goto 4, 3) := by decide +kernel
theorem dX1_anyTriangle_43 : decode cX1_anyTriangle 43 = .ok (.lconst 0, 1) := by decide +kernel
theorem dX1_anyTriangle_44 : decode cX1_anyTriangle 44 = .ok (.lstore_n 3, 1) := by decide +kernel
theorem dX1_anyTriangle_45 : decode cX1_anyTriangle 45 = .ok (.lload_n 3, 1) := by decide +kernel
theorem dX1_anyTriangle_46 : decode cX1_anyTriangle 46 = .ok (.lconst 0, 1) := by decide +kernel
theorem dX1_anyTriangle_47 : decode cX1_anyTriangle 47 = .ok (.lcmp, 1) := by decide +kernel
theorem dX1_anyTriangle_48 : decode cX1_anyTriangle 48 = .ok (.ifCond .eq 19, 3) := by decide +kernel
theorem dX1_anyTriangle_51 : decode cX1_anyTriangle 51 = .ok (.iload_n 1, 1) := by decide +kernel
theorem dX1_anyTriangle_52 : decode cX1_anyTriangle 52 = .ok (.sipush 1600, 3) := by decide +kernel
theorem dX1_anyTriangle_55 : decode cX1_anyTriangle 55 = .ok (.imul, 1) := by decide +kernel
theorem dX1_anyTriangle_56 : decode cX1_anyTriangle 56 = .ok (.iload_n 2, 1) := by decide +kernel
theorem dX1_anyTriangle_57 : decode cX1_anyTriangle 57 = .ok (.bipush 40, 2) := by decide +kernel
theorem dX1_anyTriangle_59 : decode cX1_anyTriangle 59 = .ok (.imul, 1) := by decide +kernel
theorem dX1_anyTriangle_60 : decode cX1_anyTriangle 60 = .ok (.iadd, 1) := by decide +kernel
theorem dX1_anyTriangle_61 : decode cX1_anyTriangle 61 = .ok (.lload_n 3, 1) := by decide +kernel
theorem dX1_anyTriangle_62 : decode cX1_anyTriangle 62 = .ok (.invokestatic 66, 3) := by decide +kernel
theorem dX1_anyTriangle_65 : decode cX1_anyTriangle 65 = .ok (.iadd, 1) := by decide +kernel
theorem dX1_anyTriangle_66 : decode cX1_anyTriangle 66 = .ok (.ireturn, 1) := by decide +kernel
theorem dX1_anyTriangle_67 : decode cX1_anyTriangle 67 = .ok (.iinc 2 1, 3) := by decide +kernel
theorem dX1_anyTriangle_70 : decode cX1_anyTriangle 70 = .ok (.goto (-58), 3) := by decide +kernel
theorem dX1_anyTriangle_73 : decode cX1_anyTriangle 73 = .ok (.iinc 1 1, 3) := by decide +kernel
theorem dX1_anyTriangle_76 : decode cX1_anyTriangle 76 = .ok (.goto (-74), 3) := by decide +kernel
theorem dX1_anyTriangle_79 : decode cX1_anyTriangle 79 = .ok (.iconst (-1), 1) := by decide +kernel
theorem dX1_anyTriangle_80 : decode cX1_anyTriangle 80 = .ok (.ireturn, 1) := by decide +kernel
theorem dX1_flip_0 : decode cX1_flip 0 = .ok (.aload_n 0, 1) := by decide +kernel
theorem dX1_flip_1 : decode cX1_flip 1 = .ok (.iload_n 1, 1) := by decide +kernel
theorem dX1_flip_2 : decode cX1_flip 2 = .ok (.dup2, 1) := by decide +kernel
theorem dX1_flip_3 : decode cX1_flip 3 = .ok (.laload, 1) := by decide +kernel
theorem dX1_flip_4 : decode cX1_flip 4 = .ok (.lconst 1, 1) := by decide +kernel
theorem dX1_flip_5 : decode cX1_flip 5 = .ok (.iload_n 2, 1) := by decide +kernel
theorem dX1_flip_6 : decode cX1_flip 6 = .ok (.lshl, 1) := by decide +kernel
theorem dX1_flip_7 : decode cX1_flip 7 = .ok (.lxor, 1) := by decide +kernel
theorem dX1_flip_8 : decode cX1_flip 8 = .ok (.lastore, 1) := by decide +kernel
theorem dX1_flip_9 : decode cX1_flip 9 = .ok (.aload_n 0, 1) := by decide +kernel
theorem dX1_flip_10 : decode cX1_flip 10 = .ok (.iload_n 2, 1) := by decide +kernel
theorem dX1_flip_11 : decode cX1_flip 11 = .ok (.dup2, 1) := by decide +kernel
theorem dX1_flip_12 : decode cX1_flip 12 = .ok (.laload, 1) := by decide +kernel
theorem dX1_flip_13 : decode cX1_flip 13 = .ok (.lconst 1, 1) := by decide +kernel
theorem dX1_flip_14 : decode cX1_flip 14 = .ok (.iload_n 1, 1) := by decide +kernel
theorem dX1_flip_15 : decode cX1_flip 15 = .ok (.lshl, 1) := by decide +kernel
theorem dX1_flip_16 : decode cX1_flip 16 = .ok (.lxor, 1) := by decide +kernel
theorem dX1_flip_17 : decode cX1_flip 17 = .ok (.lastore, 1) := by decide +kernel
theorem dX1_flip_18 : decode cX1_flip 18 = .ok (.return_, 1) := by decide +kernel
theorem dX2_degree_0 : decode cX2_degree 0 = .ok (.aload_n 0, 1) := by decide +kernel
theorem dX2_degree_1 : decode cX2_degree 1 = .ok (.iload_n 1, 1) := by decide +kernel
theorem dX2_degree_2 : decode cX2_degree 2 = .ok (.laload, 1) := by decide +kernel
theorem dX2_degree_3 : decode cX2_degree 3 = .ok (.invokestatic 9, 3) := by decide +kernel
theorem dX2_degree_6 : decode cX2_degree 6 = .ok (.ireturn, 1) := by decide +kernel
theorem dX2_shared_0 : decode cX2_shared 0 = .ok (.aload_n 0, 1) := by decide +kernel
theorem dX2_shared_1 : decode cX2_shared 1 = .ok (.iload_n 1, 1) := by decide +kernel
theorem dX2_shared_2 : decode cX2_shared 2 = .ok (.laload, 1) := by decide +kernel
theorem dX2_shared_3 : decode cX2_shared 3 = .ok (.aload_n 0, 1) := by decide +kernel
theorem dX2_shared_4 : decode cX2_shared 4 = .ok (.iload_n 2, 1) := by decide +kernel
theorem dX2_shared_5 : decode cX2_shared 5 = .ok (.laload, 1) := by decide +kernel
theorem dX2_shared_6 : decode cX2_shared 6 = .ok (.land, 1) := by decide +kernel
theorem dX2_shared_7 : decode cX2_shared 7 = .ok (.invokestatic 9, 3) := by decide +kernel
theorem dX2_shared_10 : decode cX2_shared 10 = .ok (.ireturn, 1) := by decide +kernel
theorem dX2_trianglesAt_0 : decode cX2_trianglesAt 0 = .ok (.iconst 0, 1) := by decide +kernel
theorem dX2_trianglesAt_1 : decode cX2_trianglesAt 1 = .ok (.istore_n 2, 1) := by decide +kernel
theorem dX2_trianglesAt_2 : decode cX2_trianglesAt 2 = .ok (.iconst 0, 1) := by decide +kernel
theorem dX2_trianglesAt_3 : decode cX2_trianglesAt 3 = .ok (.istore_n 3, 1) := by decide +kernel
theorem dX2_trianglesAt_4 : decode cX2_trianglesAt 4 = .ok (.iload_n 3, 1) := by decide +kernel
theorem dX2_trianglesAt_5 : decode cX2_trianglesAt 5 = .ok (.bipush 40, 2) := by decide +kernel
theorem dX2_trianglesAt_7 : decode cX2_trianglesAt 7 = .ok (.if_icmp .ge 28, 3) := by decide +kernel
theorem dX2_trianglesAt_10 : decode cX2_trianglesAt 10 = .ok (.aload_n 0, 1) := by decide +kernel
theorem dX2_trianglesAt_11 : decode cX2_trianglesAt 11 = .ok (.iload_n 1, 1) := by decide +kernel
theorem dX2_trianglesAt_12 : decode cX2_trianglesAt 12 = .ok (.laload, 1) := by decide +kernel
theorem dX2_trianglesAt_13 : decode cX2_trianglesAt 13 = .ok (.iload_n 3, 1) := by decide +kernel
theorem dX2_trianglesAt_14 : decode cX2_trianglesAt 14 = .ok (.invokestatic 15, 3) := by decide +kernel
theorem dX2_trianglesAt_17 : decode cX2_trianglesAt 17 = .ok (.ifCond .eq 12, 3) := by decide +kernel
theorem dX2_trianglesAt_20 : decode cX2_trianglesAt 20 = .ok (.iload_n 2, 1) := by decide +kernel
theorem dX2_trianglesAt_21 : decode cX2_trianglesAt 21 = .ok (.aload_n 0, 1) := by decide +kernel
theorem dX2_trianglesAt_22 : decode cX2_trianglesAt 22 = .ok (.iload_n 1, 1) := by decide +kernel
theorem dX2_trianglesAt_23 : decode cX2_trianglesAt 23 = .ok (.iload_n 3, 1) := by decide +kernel
theorem dX2_trianglesAt_24 : decode cX2_trianglesAt 24 = .ok (.invokestatic 19, 3) := by decide +kernel
theorem dX2_trianglesAt_27 : decode cX2_trianglesAt 27 = .ok (.iadd, 1) := by decide +kernel
theorem dX2_trianglesAt_28 : decode cX2_trianglesAt 28 = .ok (.istore_n 2, 1) := by decide +kernel
theorem dX2_trianglesAt_29 : decode cX2_trianglesAt 29 = .ok (.iinc 3 1, 3) := by decide +kernel
theorem dX2_trianglesAt_32 : decode cX2_trianglesAt 32 = .ok (.goto (-28), 3) := by decide +kernel
theorem dX2_trianglesAt_35 : decode cX2_trianglesAt 35 = .ok (.iload_n 2, 1) := by decide +kernel
theorem dX2_trianglesAt_36 : decode cX2_trianglesAt 36 = .ok (.iconst 2, 1) := by decide +kernel
theorem dX2_trianglesAt_37 : decode cX2_trianglesAt 37 = .ok (.idiv, 1) := by decide +kernel
theorem dX2_trianglesAt_38 : decode cX2_trianglesAt 38 = .ok (.ireturn, 1) := by decide +kernel
theorem dX2_triangles_0 : decode cX2_triangles 0 = .ok (.iconst 0, 1) := by decide +kernel
theorem dX2_triangles_1 : decode cX2_triangles 1 = .ok (.istore_n 1, 1) := by decide +kernel
theorem dX2_triangles_2 : decode cX2_triangles 2 = .ok (.iconst 0, 1) := by decide +kernel
theorem dX2_triangles_3 : decode cX2_triangles 3 = .ok (.istore_n 2, 1) := by decide +kernel
theorem dX2_triangles_4 : decode cX2_triangles 4 = .ok (.iload_n 2, 1) := by decide +kernel
theorem dX2_triangles_5 : decode cX2_triangles 5 = .ok (.bipush 40, 2) := by decide +kernel
theorem dX2_triangles_7 : decode cX2_triangles 7 = .ok (.if_icmp .ge 17, 3) := by decide +kernel
theorem dX2_triangles_10 : decode cX2_triangles 10 = .ok (.iload_n 1, 1) := by decide +kernel
theorem dX2_triangles_11 : decode cX2_triangles 11 = .ok (.aload_n 0, 1) := by decide +kernel
theorem dX2_triangles_12 : decode cX2_triangles 12 = .ok (.iload_n 2, 1) := by decide +kernel
theorem dX2_triangles_13 : decode cX2_triangles 13 = .ok (.invokestatic 25, 3) := by decide +kernel
theorem dX2_triangles_16 : decode cX2_triangles 16 = .ok (.iadd, 1) := by decide +kernel
theorem dX2_triangles_17 : decode cX2_triangles 17 = .ok (.istore_n 1, 1) := by decide +kernel
theorem dX2_triangles_18 : decode cX2_triangles 18 = .ok (.iinc 2 1, 3) := by decide +kernel
theorem dX2_triangles_21 : decode cX2_triangles 21 = .ok (.goto (-17), 3) := by decide +kernel
theorem dX2_triangles_24 : decode cX2_triangles 24 = .ok (.iload_n 1, 1) := by decide +kernel
theorem dX2_triangles_25 : decode cX2_triangles 25 = .ok (.iconst 3, 1) := by decide +kernel
theorem dX2_triangles_26 : decode cX2_triangles 26 = .ok (.idiv, 1) := by decide +kernel
theorem dX2_triangles_27 : decode cX2_triangles 27 = .ok (.ireturn, 1) := by decide +kernel
theorem dX2_twosAt_0 : decode cX2_twosAt 0 = .ok (.aload_n 0, 1) := by decide +kernel
theorem dX2_twosAt_1 : decode cX2_twosAt 1 = .ok (.iload_n 1, 1) := by decide +kernel
theorem dX2_twosAt_2 : decode cX2_twosAt 2 = .ok (.invokestatic 29, 3) := by decide +kernel
theorem dX2_twosAt_5 : decode cX2_twosAt 5 = .ok (.istore_n 2, 1) := by decide +kernel
theorem dX2_twosAt_6 : decode cX2_twosAt 6 = .ok (.iload_n 2, 1) := by decide +kernel
theorem dX2_twosAt_7 : decode cX2_twosAt 7 = .ok (.iload_n 2, 1) := by decide +kernel
theorem dX2_twosAt_8 : decode cX2_twosAt 8 = .ok (.iconst 1, 1) := by decide +kernel
theorem dX2_twosAt_9 : decode cX2_twosAt 9 = .ok (.isub, 1) := by decide +kernel
theorem dX2_twosAt_10 : decode cX2_twosAt 10 = .ok (.imul, 1) := by decide +kernel
theorem dX2_twosAt_11 : decode cX2_twosAt 11 = .ok (.iconst 2, 1) := by decide +kernel
theorem dX2_twosAt_12 : decode cX2_twosAt 12 = .ok (.idiv, 1) := by decide +kernel
theorem dX2_twosAt_13 : decode cX2_twosAt 13 = .ok (.ireturn, 1) := by decide +kernel
theorem dX2_twos_0 : decode cX2_twos 0 = .ok (.iconst 0, 1) := by decide +kernel
theorem dX2_twos_1 : decode cX2_twos 1 = .ok (.istore_n 1, 1) := by decide +kernel
theorem dX2_twos_2 : decode cX2_twos 2 = .ok (.iconst 0, 1) := by decide +kernel
theorem dX2_twos_3 : decode cX2_twos 3 = .ok (.istore_n 2, 1) := by decide +kernel
theorem dX2_twos_4 : decode cX2_twos 4 = .ok (.iload_n 2, 1) := by decide +kernel
theorem dX2_twos_5 : decode cX2_twos 5 = .ok (.bipush 40, 2) := by decide +kernel
theorem dX2_twos_7 : decode cX2_twos 7 = .ok (.if_icmp .ge 17, 3) := by decide +kernel
theorem dX2_twos_10 : decode cX2_twos 10 = .ok (.iload_n 1, 1) := by decide +kernel
theorem dX2_twos_11 : decode cX2_twos 11 = .ok (.aload_n 0, 1) := by decide +kernel
theorem dX2_twos_12 : decode cX2_twos 12 = .ok (.iload_n 2, 1) := by decide +kernel
theorem dX2_twos_13 : decode cX2_twos 13 = .ok (.invokestatic 32, 3) := by decide +kernel
theorem dX2_twos_16 : decode cX2_twos 16 = .ok (.iadd, 1) := by decide +kernel
theorem dX2_twos_17 : decode cX2_twos 17 = .ok (.istore_n 1, 1) := by decide +kernel
theorem dX2_twos_18 : decode cX2_twos 18 = .ok (.iinc 2 1, 3) := by decide +kernel
theorem dX2_twos_21 : decode cX2_twos 21 = .ok (.goto (-17), 3) := by decide +kernel
theorem dX2_twos_24 : decode cX2_twos 24 = .ok (.iload_n 1, 1) := by decide +kernel
theorem dX2_twos_25 : decode cX2_twos 25 = .ok (.ireturn, 1) := by decide +kernel
theorem dX2_ringsAt_0 : decode cX2_ringsAt 0 = .ok (.iconst 0, 1) := by decide +kernel
theorem dX2_ringsAt_1 : decode cX2_ringsAt 1 = .ok (.istore_n 2, 1) := by decide +kernel
theorem dX2_ringsAt_2 : decode cX2_ringsAt 2 = .ok (.iconst 0, 1) := by decide +kernel
theorem dX2_ringsAt_3 : decode cX2_ringsAt 3 = .ok (.istore_n 3, 1) := by decide +kernel
theorem dX2_ringsAt_4 : decode cX2_ringsAt 4 = .ok (.iload_n 3, 1) := by decide +kernel
theorem dX2_ringsAt_5 : decode cX2_ringsAt 5 = .ok (.bipush 40, 2) := by decide +kernel
theorem dX2_ringsAt_7 : decode cX2_ringsAt 7 = .ok (.if_icmp .ge 34, 3) := by decide +kernel
theorem dX2_ringsAt_10 : decode cX2_ringsAt 10 = .ok (.iload_n 3, 1) := by decide +kernel
theorem dX2_ringsAt_11 : decode cX2_ringsAt 11 = .ok (.iload_n 1, 1) := by decide +kernel
theorem dX2_ringsAt_12 : decode cX2_ringsAt 12 = .ok (.if_icmp .eq 23, 3) := by decide +kernel
theorem dX2_ringsAt_15 : decode cX2_ringsAt 15 = .ok (.aload_n 0, 1) := by decide +kernel
theorem dX2_ringsAt_16 : decode cX2_ringsAt 16 = .ok (.iload_n 1, 1) := by decide +kernel
theorem dX2_ringsAt_17 : decode cX2_ringsAt 17 = .ok (.iload_n 3, 1) := by decide +kernel
theorem dX2_ringsAt_18 : decode cX2_ringsAt 18 = .ok (.invokestatic 19, 3) := by decide +kernel
theorem dX2_ringsAt_21 : decode cX2_ringsAt 21 = .ok (.istore 4, 2) := by decide +kernel
theorem dX2_ringsAt_23 : decode cX2_ringsAt 23 = .ok (.iload_n 2, 1) := by decide +kernel
theorem dX2_ringsAt_24 : decode cX2_ringsAt 24 = .ok (.iload 4, 2) := by decide +kernel
theorem dX2_ringsAt_26 : decode cX2_ringsAt 26 = .ok (.iload 4, 2) := by decide +kernel
theorem dX2_ringsAt_28 : decode cX2_ringsAt 28 = .ok (.iconst 1, 1) := by decide +kernel
theorem dX2_ringsAt_29 : decode cX2_ringsAt 29 = .ok (.isub, 1) := by decide +kernel
theorem dX2_ringsAt_30 : decode cX2_ringsAt 30 = .ok (.imul, 1) := by decide +kernel
theorem dX2_ringsAt_31 : decode cX2_ringsAt 31 = .ok (.iconst 2, 1) := by decide +kernel
theorem dX2_ringsAt_32 : decode cX2_ringsAt 32 = .ok (.idiv, 1) := by decide +kernel
theorem dX2_ringsAt_33 : decode cX2_ringsAt 33 = .ok (.iadd, 1) := by decide +kernel
theorem dX2_ringsAt_34 : decode cX2_ringsAt 34 = .ok (.istore_n 2, 1) := by decide +kernel
theorem dX2_ringsAt_35 : decode cX2_ringsAt 35 = .ok (.iinc 3 1, 3) := by decide +kernel
theorem dX2_ringsAt_38 : decode cX2_ringsAt 38 = .ok (.goto (-34), 3) := by decide +kernel
theorem dX2_ringsAt_41 : decode cX2_ringsAt 41 = .ok (.iload_n 2, 1) := by decide +kernel
theorem dX2_ringsAt_42 : decode cX2_ringsAt 42 = .ok (.ireturn, 1) := by decide +kernel
theorem dX2_rings_0 : decode cX2_rings 0 = .ok (.iconst 0, 1) := by decide +kernel
theorem dX2_rings_1 : decode cX2_rings 1 = .ok (.istore_n 1, 1) := by decide +kernel
theorem dX2_rings_2 : decode cX2_rings 2 = .ok (.iconst 0, 1) := by decide +kernel
theorem dX2_rings_3 : decode cX2_rings 3 = .ok (.istore_n 2, 1) := by decide +kernel
theorem dX2_rings_4 : decode cX2_rings 4 = .ok (.iload_n 2, 1) := by decide +kernel
theorem dX2_rings_5 : decode cX2_rings 5 = .ok (.bipush 40, 2) := by decide +kernel
theorem dX2_rings_7 : decode cX2_rings 7 = .ok (.if_icmp .ge 17, 3) := by decide +kernel
theorem dX2_rings_10 : decode cX2_rings 10 = .ok (.iload_n 1, 1) := by decide +kernel
theorem dX2_rings_11 : decode cX2_rings 11 = .ok (.aload_n 0, 1) := by decide +kernel
theorem dX2_rings_12 : decode cX2_rings 12 = .ok (.iload_n 2, 1) := by decide +kernel
theorem dX2_rings_13 : decode cX2_rings 13 = .ok (.invokestatic 35, 3) := by decide +kernel
theorem dX2_rings_16 : decode cX2_rings 16 = .ok (.iadd, 1) := by decide +kernel
theorem dX2_rings_17 : decode cX2_rings 17 = .ok (.istore_n 1, 1) := by decide +kernel
theorem dX2_rings_18 : decode cX2_rings 18 = .ok (.iinc 2 1, 3) := by decide +kernel
theorem dX2_rings_21 : decode cX2_rings 21 = .ok (.goto (-17), 3) := by decide +kernel
theorem dX2_rings_24 : decode cX2_rings 24 = .ok (.iload_n 1, 1) := by decide +kernel
theorem dX2_rings_25 : decode cX2_rings 25 = .ok (.iconst 4, 1) := by decide +kernel
theorem dX2_rings_26 : decode cX2_rings 26 = .ok (.idiv, 1) := by decide +kernel
theorem dX2_rings_27 : decode cX2_rings 27 = .ok (.ireturn, 1) := by decide +kernel
theorem dX2_foursOn_0 : decode cX2_foursOn 0 = .ok (.aload_n 0, 1) := by decide +kernel
theorem dX2_foursOn_1 : decode cX2_foursOn 1 = .ok (.iload_n 1, 1) := by decide +kernel
theorem dX2_foursOn_2 : decode cX2_foursOn 2 = .ok (.laload, 1) := by decide +kernel
theorem dX2_foursOn_3 : decode cX2_foursOn 3 = .ok (.aload_n 0, 1) := by decide +kernel
theorem dX2_foursOn_4 : decode cX2_foursOn 4 = .ok (.iload_n 2, 1) := by decide +kernel
theorem dX2_foursOn_5 : decode cX2_foursOn 5 = .ok (.laload, 1) := by decide +kernel
theorem dX2_foursOn_6 : decode cX2_foursOn 6 = .ok (.land, 1) := by decide +kernel
theorem dX2_foursOn_7 : decode cX2_foursOn 7 = .ok (.lstore_n 3, 1) := by decide +kernel
theorem dX2_foursOn_8 : decode cX2_foursOn 8 = .ok (.iconst 0, 1) := by decide +kernel
theorem dX2_foursOn_9 : decode cX2_foursOn 9 = .ok (.istore 5, 2) := by decide +kernel
theorem dX2_foursOn_11 : decode cX2_foursOn 11 = .ok (.iconst 0, 1) := by decide +kernel
theorem dX2_foursOn_12 : decode cX2_foursOn 12 = .ok (.istore 6, 2) := by decide +kernel
theorem dX2_foursOn_14 : decode cX2_foursOn 14 = .ok (.iload 6, 2) := by decide +kernel
theorem dX2_foursOn_16 : decode cX2_foursOn 16 = .ok (.bipush 40, 2) := by decide +kernel
theorem dX2_foursOn_18 : decode cX2_foursOn 18 = .ok (.if_icmp .ge 32, 3) := by decide +kernel
theorem dX2_foursOn_21 : decode cX2_foursOn 21 = .ok (.lload_n 3, 1) := by decide +kernel
theorem dX2_foursOn_22 : decode cX2_foursOn 22 = .ok (.iload 6, 2) := by decide +kernel
theorem dX2_foursOn_24 : decode cX2_foursOn 24 = .ok (.invokestatic 15, 3) := by decide +kernel
theorem dX2_foursOn_27 : decode cX2_foursOn 27 = .ok (.ifCond .eq 17, 3) := by decide +kernel
theorem dX2_foursOn_30 : decode cX2_foursOn 30 = .ok (.iload 5, 2) := by decide +kernel
theorem dX2_foursOn_32 : decode cX2_foursOn 32 = .ok (.lload_n 3, 1) := by decide +kernel
theorem dX2_foursOn_33 : decode cX2_foursOn 33 = .ok (.aload_n 0, 1) := by decide +kernel
theorem dX2_foursOn_34 : decode cX2_foursOn 34 = .ok (.iload 6, 2) := by decide +kernel
theorem dX2_foursOn_36 : decode cX2_foursOn 36 = .ok (.laload, 1) := by decide +kernel
theorem dX2_foursOn_37 : decode cX2_foursOn 37 = .ok (.land, 1) := by decide +kernel
theorem dX2_foursOn_38 : decode cX2_foursOn 38 = .ok (.invokestatic 9, 3) := by decide +kernel
theorem dX2_foursOn_41 : decode cX2_foursOn 41 = .ok (.iadd, 1) := by decide +kernel
theorem dX2_foursOn_42 : decode cX2_foursOn 42 = .ok (.istore 5, 2) := by decide +kernel
theorem dX2_foursOn_44 : decode cX2_foursOn 44 = .ok (.iinc 6 1, 3) := by decide +kernel
theorem dX2_foursOn_47 : decode cX2_foursOn 47 = .ok (.goto (-33), 3) := by decide +kernel
theorem dX2_foursOn_50 : decode cX2_foursOn 50 = .ok (.iload 5, 2) := by decide +kernel
theorem dX2_foursOn_52 : decode cX2_foursOn 52 = .ok (.iconst 2, 1) := by decide +kernel
theorem dX2_foursOn_53 : decode cX2_foursOn 53 = .ok (.idiv, 1) := by decide +kernel
theorem dX2_foursOn_54 : decode cX2_foursOn 54 = .ok (.ireturn, 1) := by decide +kernel
theorem dX2_foursAt_0 : decode cX2_foursAt 0 = .ok (.iconst 0, 1) := by decide +kernel
theorem dX2_foursAt_1 : decode cX2_foursAt 1 = .ok (.istore_n 2, 1) := by decide +kernel
theorem dX2_foursAt_2 : decode cX2_foursAt 2 = .ok (.iconst 0, 1) := by decide +kernel
theorem dX2_foursAt_3 : decode cX2_foursAt 3 = .ok (.istore_n 3, 1) := by decide +kernel
theorem dX2_foursAt_4 : decode cX2_foursAt 4 = .ok (.iload_n 3, 1) := by decide +kernel
theorem dX2_foursAt_5 : decode cX2_foursAt 5 = .ok (.bipush 40, 2) := by decide +kernel
theorem dX2_foursAt_7 : decode cX2_foursAt 7 = .ok (.if_icmp .ge 28, 3) := by decide +kernel
theorem dX2_foursAt_10 : decode cX2_foursAt 10 = .ok (.aload_n 0, 1) := by decide +kernel
theorem dX2_foursAt_11 : decode cX2_foursAt 11 = .ok (.iload_n 1, 1) := by decide +kernel
theorem dX2_foursAt_12 : decode cX2_foursAt 12 = .ok (.laload, 1) := by decide +kernel
theorem dX2_foursAt_13 : decode cX2_foursAt 13 = .ok (.iload_n 3, 1) := by decide +kernel
theorem dX2_foursAt_14 : decode cX2_foursAt 14 = .ok (.invokestatic 15, 3) := by decide +kernel
theorem dX2_foursAt_17 : decode cX2_foursAt 17 = .ok (.ifCond .eq 12, 3) := by decide +kernel
theorem dX2_foursAt_20 : decode cX2_foursAt 20 = .ok (.iload_n 2, 1) := by decide +kernel
theorem dX2_foursAt_21 : decode cX2_foursAt 21 = .ok (.aload_n 0, 1) := by decide +kernel
theorem dX2_foursAt_22 : decode cX2_foursAt 22 = .ok (.iload_n 1, 1) := by decide +kernel
theorem dX2_foursAt_23 : decode cX2_foursAt 23 = .ok (.iload_n 3, 1) := by decide +kernel
theorem dX2_foursAt_24 : decode cX2_foursAt 24 = .ok (.invokestatic 38, 3) := by decide +kernel
theorem dX2_foursAt_27 : decode cX2_foursAt 27 = .ok (.iadd, 1) := by decide +kernel
theorem dX2_foursAt_28 : decode cX2_foursAt 28 = .ok (.istore_n 2, 1) := by decide +kernel
theorem dX2_foursAt_29 : decode cX2_foursAt 29 = .ok (.iinc 3 1, 3) := by decide +kernel
theorem dX2_foursAt_32 : decode cX2_foursAt 32 = .ok (.goto (-28), 3) := by decide +kernel
theorem dX2_foursAt_35 : decode cX2_foursAt 35 = .ok (.iload_n 2, 1) := by decide +kernel
theorem dX2_foursAt_36 : decode cX2_foursAt 36 = .ok (.iconst 3, 1) := by decide +kernel
theorem dX2_foursAt_37 : decode cX2_foursAt 37 = .ok (.idiv, 1) := by decide +kernel
theorem dX2_foursAt_38 : decode cX2_foursAt 38 = .ok (.ireturn, 1) := by decide +kernel
theorem dX2_fours_0 : decode cX2_fours 0 = .ok (.iconst 0, 1) := by decide +kernel
theorem dX2_fours_1 : decode cX2_fours 1 = .ok (.istore_n 1, 1) := by decide +kernel
theorem dX2_fours_2 : decode cX2_fours 2 = .ok (.iconst 0, 1) := by decide +kernel
theorem dX2_fours_3 : decode cX2_fours 3 = .ok (.istore_n 2, 1) := by decide +kernel
theorem dX2_fours_4 : decode cX2_fours 4 = .ok (.iload_n 2, 1) := by decide +kernel
theorem dX2_fours_5 : decode cX2_fours 5 = .ok (.bipush 40, 2) := by decide +kernel
theorem dX2_fours_7 : decode cX2_fours 7 = .ok (.if_icmp .ge 17, 3) := by decide +kernel
theorem dX2_fours_10 : decode cX2_fours 10 = .ok (.iload_n 1, 1) := by decide +kernel
theorem dX2_fours_11 : decode cX2_fours 11 = .ok (.aload_n 0, 1) := by decide +kernel
theorem dX2_fours_12 : decode cX2_fours 12 = .ok (.iload_n 2, 1) := by decide +kernel
theorem dX2_fours_13 : decode cX2_fours 13 = .ok (.invokestatic 41, 3) := by decide +kernel
theorem dX2_fours_16 : decode cX2_fours 16 = .ok (.iadd, 1) := by decide +kernel
theorem dX2_fours_17 : decode cX2_fours 17 = .ok (.istore_n 1, 1) := by decide +kernel
theorem dX2_fours_18 : decode cX2_fours 18 = .ok (.iinc 2 1, 3) := by decide +kernel
theorem dX2_fours_21 : decode cX2_fours 21 = .ok (.goto (-17), 3) := by decide +kernel
theorem dX2_fours_24 : decode cX2_fours 24 = .ok (.iload_n 1, 1) := by decide +kernel
theorem dX2_fours_25 : decode cX2_fours 25 = .ok (.iconst 4, 1) := by decide +kernel
theorem dX2_fours_26 : decode cX2_fours 26 = .ok (.idiv, 1) := by decide +kernel
theorem dX2_fours_27 : decode cX2_fours 27 = .ok (.ireturn, 1) := by decide +kernel
theorem dX2_waysByThree_0 : decode cX2_waysByThree 0 = .ok (.aload_n 0, 1) := by decide +kernel
theorem dX2_waysByThree_1 : decode cX2_waysByThree 1 = .ok (.iload_n 1, 1) := by decide +kernel
theorem dX2_waysByThree_2 : decode cX2_waysByThree 2 = .ok (.laload, 1) := by decide +kernel
theorem dX2_waysByThree_3 : decode cX2_waysByThree 3 = .ok (.lconst 1, 1) := by decide +kernel
theorem dX2_waysByThree_4 : decode cX2_waysByThree 4 = .ok (.iload_n 2, 1) := by decide +kernel
theorem dX2_waysByThree_5 : decode cX2_waysByThree 5 = .ok (.lshl, 1) := by decide +kernel
theorem dX2_waysByThree_6 : decode cX2_waysByThree 6 = .ok (.ldc2_w 44, 3) := by decide +kernel
theorem dX2_waysByThree_9 : decode cX2_waysByThree 9 = .ok (.lxor, 1) := by decide +kernel
theorem dX2_waysByThree_10 : decode cX2_waysByThree 10 = .ok (.land, 1) := by decide +kernel
theorem dX2_waysByThree_11 : decode cX2_waysByThree 11 = .ok (.lstore_n 3, 1) := by decide +kernel
theorem dX2_waysByThree_12 : decode cX2_waysByThree 12 = .ok (.aload_n 0, 1) := by decide +kernel
theorem dX2_waysByThree_13 : decode cX2_waysByThree 13 = .ok (.iload_n 2, 1) := by decide +kernel
theorem dX2_waysByThree_14 : decode cX2_waysByThree 14 = .ok (.laload, 1) := by decide +kernel
theorem dX2_waysByThree_15 : decode cX2_waysByThree 15 = .ok (.lconst 1, 1) := by decide +kernel
theorem dX2_waysByThree_16 : decode cX2_waysByThree 16 = .ok (.iload_n 1, 1) := by decide +kernel
theorem dX2_waysByThree_17 : decode cX2_waysByThree 17 = .ok (.lshl, 1) := by decide +kernel
theorem dX2_waysByThree_18 : decode cX2_waysByThree 18 = .ok (.ldc2_w 44, 3) := by decide +kernel
theorem dX2_waysByThree_21 : decode cX2_waysByThree 21 = .ok (.lxor, 1) := by decide +kernel
theorem dX2_waysByThree_22 : decode cX2_waysByThree 22 = .ok (.land, 1) := by decide +kernel
theorem dX2_waysByThree_23 : decode cX2_waysByThree 23 = .ok (.lstore 5, 2) := by decide +kernel
theorem dX2_waysByThree_25 : decode cX2_waysByThree 25 = .ok (.iconst 0, 1) := by decide +kernel
theorem dX2_waysByThree_26 : decode cX2_waysByThree 26 = .ok (.istore 7, 2) := by decide +kernel
theorem dX2_waysByThree_28 : decode cX2_waysByThree 28 = .ok (.iconst 0, 1) := by decide +kernel
theorem dX2_waysByThree_29 : decode cX2_waysByThree 29 = .ok (.istore 8, 2) := by decide +kernel
theorem dX2_waysByThree_31 : decode cX2_waysByThree 31 = .ok (.iload 8, 2) := by decide +kernel
theorem dX2_waysByThree_33 : decode cX2_waysByThree 33 = .ok (.bipush 40, 2) := by decide +kernel
theorem dX2_waysByThree_35 : decode cX2_waysByThree 35 = .ok (.if_icmp .ge 33, 3) := by decide +kernel
theorem dX2_waysByThree_38 : decode cX2_waysByThree 38 = .ok (.lload_n 3, 1) := by decide +kernel
theorem dX2_waysByThree_39 : decode cX2_waysByThree 39 = .ok (.iload 8, 2) := by decide +kernel
theorem dX2_waysByThree_41 : decode cX2_waysByThree 41 = .ok (.invokestatic 15, 3) := by decide +kernel
theorem dX2_waysByThree_44 : decode cX2_waysByThree 44 = .ok (.ifCond .eq 18, 3) := by decide +kernel
theorem dX2_waysByThree_47 : decode cX2_waysByThree 47 = .ok (.iload 7, 2) := by decide +kernel
theorem dX2_waysByThree_49 : decode cX2_waysByThree 49 = .ok (.aload_n 0, 1) := by decide +kernel
theorem dX2_waysByThree_50 : decode cX2_waysByThree 50 = .ok (.iload 8, 2) := by decide +kernel
theorem dX2_waysByThree_52 : decode cX2_waysByThree 52 = .ok (.laload, 1) := by decide +kernel
theorem dX2_waysByThree_53 : decode cX2_waysByThree 53 = .ok (.lload 5, 2) := by decide +kernel
theorem dX2_waysByThree_55 : decode cX2_waysByThree 55 = .ok (.land, 1) := by decide +kernel
theorem dX2_waysByThree_56 : decode cX2_waysByThree 56 = .ok (.invokestatic 9, 3) := by decide +kernel
theorem dX2_waysByThree_59 : decode cX2_waysByThree 59 = .ok (.iadd, 1) := by decide +kernel
theorem dX2_waysByThree_60 : decode cX2_waysByThree 60 = .ok (.istore 7, 2) := by decide +kernel
theorem dX2_waysByThree_62 : decode cX2_waysByThree 62 = .ok (.iinc 8 1, 3) := by decide +kernel
theorem dX2_waysByThree_65 : decode cX2_waysByThree 65 = .ok (.goto (-34), 3) := by decide +kernel
theorem dX2_waysByThree_68 : decode cX2_waysByThree 68 = .ok (.iload 7, 2) := by decide +kernel
theorem dX2_waysByThree_70 : decode cX2_waysByThree 70 = .ok (.ireturn, 1) := by decide +kernel
theorem dX2_far_0 : decode cX2_far 0 = .ok (.lconst 1, 1) := by decide +kernel
theorem dX2_far_1 : decode cX2_far 1 = .ok (.iload_n 1, 1) := by decide +kernel
theorem dX2_far_2 : decode cX2_far 2 = .ok (.lshl, 1) := by decide +kernel
theorem dX2_far_3 : decode cX2_far 3 = .ok (.lstore_n 3, 1) := by decide +kernel
theorem dX2_far_4 : decode cX2_far 4 = .ok (.iconst 1, 1) := by decide +kernel
theorem dX2_far_5 : decode cX2_far 5 = .ok (.istore 5, 2) := by decide +kernel
theorem dX2_far_7 : decode cX2_far 7 = .ok (.iload 5, 2) := by decide +kernel
theorem dX2_far_9 : decode cX2_far 9 = .ok (.bipush 40, 2) := by decide +kernel
theorem dX2_far_11 : decode cX2_far 11 = .ok (.if_icmp .ge 28, 3) := by decide +kernel
theorem dX2_far_14 : decode cX2_far 14 = .ok (.lload_n 3, 1) := by decide +kernel
theorem dX2_far_15 : decode cX2_far 15 = .ok (.aload_n 0, 1) := by decide +kernel
theorem dX2_far_16 : decode cX2_far 16 = .ok (.lload_n 3, 1) := by decide +kernel
theorem dX2_far_17 : decode cX2_far 17 = .ok (.invokestatic 46, 3) := by decide +kernel
theorem dX2_far_20 : decode cX2_far 20 = .ok (.lor, 1) := by decide +kernel
theorem dX2_far_21 : decode cX2_far 21 = .ok (.lstore_n 3, 1) := by decide +kernel
theorem dX2_far_22 : decode cX2_far 22 = .ok (.lload_n 3, 1) := by decide +kernel
theorem dX2_far_23 : decode cX2_far 23 = .ok (.iload_n 2, 1) := by decide +kernel
theorem dX2_far_24 : decode cX2_far 24 = .ok (.invokestatic 15, 3) := by decide +kernel
theorem dX2_far_27 : decode cX2_far 27 = .ok (.ifCond .eq 6, 3) := by decide +kernel
theorem dX2_far_30 : decode cX2_far 30 = .ok (.iload 5, 2) := by decide +kernel
theorem dX2_far_32 : decode cX2_far 32 = .ok (.ireturn, 1) := by decide +kernel
theorem dX2_far_33 : decode cX2_far 33 = .ok (.iinc 5 1, 3) := by decide +kernel
theorem dX2_far_36 : decode cX2_far 36 = .ok (.goto (-29), 3) := by decide +kernel
theorem dX2_far_39 : decode cX2_far 39 = .ok (.bipush (-5), 2) := by decide +kernel
theorem dX2_far_41 : decode cX2_far 41 = .ok (.ireturn, 1) := by decide +kernel
theorem dX2_nearAny_0 : decode cX2_nearAny 0 = .ok (.lconst 0, 1) := by decide +kernel
theorem dX2_nearAny_1 : decode cX2_nearAny 1 = .ok (.lstore_n 3, 1) := by decide +kernel
theorem dX2_nearAny_2 : decode cX2_nearAny 2 = .ok (.iconst 0, 1) := by decide +kernel
theorem dX2_nearAny_3 : decode cX2_nearAny 3 = .ok (.istore 5, 2) := by decide +kernel
theorem dX2_nearAny_5 : decode cX2_nearAny 5 = .ok (.iload 5, 2) := by decide +kernel
theorem dX2_nearAny_7 : decode cX2_nearAny 7 = .ok (.bipush 40, 2) := by decide +kernel
theorem dX2_nearAny_9 : decode cX2_nearAny 9 = .ok (.if_icmp .ge 27, 3) := by decide +kernel
theorem dX2_nearAny_12 : decode cX2_nearAny 12 = .ok (.aload_n 0, 1) := by decide +kernel
theorem dX2_nearAny_13 : decode cX2_nearAny 13 = .ok (.iload 5, 2) := by decide +kernel
theorem dX2_nearAny_15 : decode cX2_nearAny 15 = .ok (.laload, 1) := by decide +kernel
theorem dX2_nearAny_16 : decode cX2_nearAny 16 = .ok (.lload_n 1, 1) := by decide +kernel
theorem dX2_nearAny_17 : decode cX2_nearAny 17 = .ok (.land, 1) := by decide +kernel
theorem dX2_nearAny_18 : decode cX2_nearAny 18 = .ok (.lconst 0, 1) := by decide +kernel
theorem dX2_nearAny_19 : decode cX2_nearAny 19 = .ok (.lcmp, 1) := by decide +kernel
theorem dX2_nearAny_20 : decode cX2_nearAny 20 = .ok (.ifCond .eq 10, 3) := by decide +kernel
theorem dX2_nearAny_23 : decode cX2_nearAny 23 = .ok (.lload_n 3, 1) := by decide +kernel
theorem dX2_nearAny_24 : decode cX2_nearAny 24 = .ok (.lconst 1, 1) := by decide +kernel
theorem dX2_nearAny_25 : decode cX2_nearAny 25 = .ok (.iload 5, 2) := by decide +kernel
theorem dX2_nearAny_27 : decode cX2_nearAny 27 = .ok (.lshl, 1) := by decide +kernel
theorem dX2_nearAny_28 : decode cX2_nearAny 28 = .ok (.lor, 1) := by decide +kernel
theorem dX2_nearAny_29 : decode cX2_nearAny 29 = .ok (.lstore_n 3, 1) := by decide +kernel
theorem dX2_nearAny_30 : decode cX2_nearAny 30 = .ok (.iinc 5 1, 3) := by decide +kernel
theorem dX2_nearAny_33 : decode cX2_nearAny 33 = .ok (.goto (-28), 3) := by decide +kernel
theorem dX2_nearAny_36 : decode cX2_nearAny 36 = .ok (.lload_n 3, 1) := by decide +kernel
theorem dX2_nearAny_37 : decode cX2_nearAny 37 = .ok (.lreturn, 1) := by decide +kernel
theorem dX2_coreWithin_0 : decode cX2_coreWithin 0 = .ok (.lload_n 1, 1) := by decide +kernel
theorem dX2_coreWithin_1 : decode cX2_coreWithin 1 = .ok (.lstore 4, 2) := by decide +kernel
theorem dX2_coreWithin_3 : decode cX2_coreWithin 3 = .ok (.iconst 0, 1) := by decide +kernel
theorem dX2_coreWithin_4 : decode cX2_coreWithin 4 = .ok (.istore 6, 2) := by decide +kernel
theorem dX2_coreWithin_6 : decode cX2_coreWithin 6 = .ok (.iload 6, 2) := by decide +kernel
theorem dX2_coreWithin_8 : decode cX2_coreWithin 8 = .ok (.bipush 40, 2) := by decide +kernel
theorem dX2_coreWithin_10 : decode cX2_coreWithin 10 = .ok (.if_icmp .gt 76, 3) := by decide +kernel
theorem dX2_coreWithin_13 : decode cX2_coreWithin 13 = .ok (.lconst 0, 1) := by decide +kernel
theorem dX2_coreWithin_14 : decode cX2_coreWithin 14 = .ok (.lstore 7, 2) := by decide +kernel
theorem dX2_coreWithin_16 : decode cX2_coreWithin 16 = .ok (.iconst 0, 1) := by decide +kernel
theorem dX2_coreWithin_17 : decode cX2_coreWithin 17 = .ok (.istore 9, 2) := by decide +kernel
theorem dX2_coreWithin_19 : decode cX2_coreWithin 19 = .ok (.iload 9, 2) := by decide +kernel
theorem dX2_coreWithin_21 : decode cX2_coreWithin 21 = .ok (.bipush 40, 2) := by decide +kernel
theorem dX2_coreWithin_23 : decode cX2_coreWithin 23 = .ok (.if_icmp .ge 42, 3) := by decide +kernel
theorem dX2_coreWithin_26 : decode cX2_coreWithin 26 = .ok (.lload 4, 2) := by decide +kernel
theorem dX2_coreWithin_28 : decode cX2_coreWithin 28 = .ok (.iload 9, 2) := by decide +kernel
theorem dX2_coreWithin_30 : decode cX2_coreWithin 30 = .ok (.invokestatic 15, 3) := by decide +kernel
theorem dX2_coreWithin_33 : decode cX2_coreWithin 33 = .ok (.ifCond .eq 26, 3) := by decide +kernel
theorem dX2_coreWithin_36 : decode cX2_coreWithin 36 = .ok (.aload_n 0, 1) := by decide +kernel
theorem dX2_coreWithin_37 : decode cX2_coreWithin 37 = .ok (.iload 9, 2) := by decide +kernel
theorem dX2_coreWithin_39 : decode cX2_coreWithin 39 = .ok (.laload, 1) := by decide +kernel
theorem dX2_coreWithin_40 : decode cX2_coreWithin 40 = .ok (.lload 4, 2) := by decide +kernel
theorem dX2_coreWithin_42 : decode cX2_coreWithin 42 = .ok (.land, 1) := by decide +kernel
theorem dX2_coreWithin_43 : decode cX2_coreWithin 43 = .ok (.invokestatic 9, 3) := by decide +kernel
theorem dX2_coreWithin_46 : decode cX2_coreWithin 46 = .ok (.iload_n 3, 1) := by decide +kernel
theorem dX2_coreWithin_47 : decode cX2_coreWithin 47 = .ok (.if_icmp .lt 12, 3) := by decide +kernel
theorem dX2_coreWithin_50 : decode cX2_coreWithin 50 = .ok (.lload 7, 2) := by decide +kernel
theorem dX2_coreWithin_52 : decode cX2_coreWithin 52 = .ok (.lconst 1, 1) := by decide +kernel
theorem dX2_coreWithin_53 : decode cX2_coreWithin 53 = .ok (.iload 9, 2) := by decide +kernel
theorem dX2_coreWithin_55 : decode cX2_coreWithin 55 = .ok (.lshl, 1) := by decide +kernel
theorem dX2_coreWithin_56 : decode cX2_coreWithin 56 = .ok (.lor, 1) := by decide +kernel
theorem dX2_coreWithin_57 : decode cX2_coreWithin 57 = .ok (.lstore 7, 2) := by decide +kernel
theorem dX2_coreWithin_59 : decode cX2_coreWithin 59 = .ok (.iinc 9 1, 3) := by decide +kernel
theorem dX2_coreWithin_62 : decode cX2_coreWithin 62 = .ok (.goto (-43), 3) := by decide +kernel
theorem dX2_coreWithin_65 : decode cX2_coreWithin 65 = .ok (.lload 7, 2) := by decide +kernel
theorem dX2_coreWithin_67 : decode cX2_coreWithin 67 = .ok (.lload 4, 2) := by decide +kernel
theorem dX2_coreWithin_69 : decode cX2_coreWithin 69 = .ok (.lcmp, 1) := by decide +kernel
theorem dX2_coreWithin_70 : decode cX2_coreWithin 70 = .ok (.ifCond .ne 6, 3) := by decide +kernel
theorem dX2_coreWithin_73 : decode cX2_coreWithin 73 = .ok (.goto 13, 3) := by decide +kernel
theorem dX2_coreWithin_76 : decode cX2_coreWithin 76 = .ok (.lload 7, 2) := by decide +kernel
theorem dX2_coreWithin_78 : decode cX2_coreWithin 78 = .ok (.lstore 4, 2) := by decide +kernel
theorem dX2_coreWithin_80 : decode cX2_coreWithin 80 = .ok (.iinc 6 1, 3) := by decide +kernel
theorem dX2_coreWithin_83 : decode cX2_coreWithin 83 = .ok (.goto (-77), 3) := by decide +kernel
theorem dX2_coreWithin_86 : decode cX2_coreWithin 86 = .ok (.lload 4, 2) := by decide +kernel
theorem dX2_coreWithin_88 : decode cX2_coreWithin 88 = .ok (.lreturn, 1) := by decide +kernel
theorem dX2_layCores_0 : decode cX2_layCores 0 = .ok (.aload_n 1, 1) := by decide +kernel
theorem dX2_layCores_1 : decode cX2_layCores 1 = .ok (.iconst 0, 1) := by decide +kernel
theorem dX2_layCores_2 : decode cX2_layCores 2 = .ok (.invokestatic 50, 3) := by decide +kernel
theorem dX2_layCores_5 : decode cX2_layCores 5 = .ok (.ldc2_w 56, 3) := by decide +kernel
theorem dX2_layCores_8 : decode cX2_layCores 8 = .ok (.lstore_n 2, 1) := by decide +kernel
theorem dX2_layCores_9 : decode cX2_layCores 9 = .ok (.iconst 1, 1) := by decide +kernel
theorem dX2_layCores_10 : decode cX2_layCores 10 = .ok (.istore 4, 2) := by decide +kernel
theorem dX2_layCores_12 : decode cX2_layCores 12 = .ok (.iload 4, 2) := by decide +kernel
theorem dX2_layCores_14 : decode cX2_layCores 14 = .ok (.bipush 40, 2) := by decide +kernel
theorem dX2_layCores_16 : decode cX2_layCores 16 = .ok (.if_icmp .ge 54, 3) := by decide +kernel
theorem dX2_layCores_19 : decode cX2_layCores 19 = .ok (.lload_n 2, 1) := by decide +kernel
theorem dX2_layCores_20 : decode cX2_layCores 20 = .ok (.lconst 0, 1) := by decide +kernel
theorem dX2_layCores_21 : decode cX2_layCores 21 = .ok (.lcmp, 1) := by decide +kernel
theorem dX2_layCores_22 : decode cX2_layCores 22 = .ok (.ifCond .eq 48, 3) := by decide +kernel
theorem dX2_layCores_25 : decode cX2_layCores 25 = .ok (.aload_n 0, 1) := by decide +kernel
theorem dX2_layCores_26 : decode cX2_layCores 26 = .ok (.lload_n 2, 1) := by decide +kernel
theorem dX2_layCores_27 : decode cX2_layCores 27 = .ok (.iload 4, 2) := by decide +kernel
theorem dX2_layCores_29 : decode cX2_layCores 29 = .ok (.invokestatic 58, 3) := by decide +kernel
theorem dX2_layCores_32 : decode cX2_layCores 32 = .ok (.lstore_n 2, 1) := by decide +kernel
theorem dX2_layCores_33 : decode cX2_layCores 33 = .ok (.iconst 0, 1) := by decide +kernel
theorem dX2_layCores_34 : decode cX2_layCores 34 = .ok (.istore 5, 2) := by decide +kernel
theorem dX2_layCores_36 : decode cX2_layCores 36 = .ok (.iload 5, 2) := by decide +kernel
theorem dX2_layCores_38 : decode cX2_layCores 38 = .ok (.bipush 40, 2) := by decide +kernel
theorem dX2_layCores_40 : decode cX2_layCores 40 = .ok (.if_icmp .ge 24, 3) := by decide +kernel
theorem dX2_layCores_43 : decode cX2_layCores 43 = .ok (.lload_n 2, 1) := by decide +kernel
theorem dX2_layCores_44 : decode cX2_layCores 44 = .ok (.iload 5, 2) := by decide +kernel
theorem dX2_layCores_46 : decode cX2_layCores 46 = .ok (.invokestatic 15, 3) := by decide +kernel
theorem dX2_layCores_49 : decode cX2_layCores 49 = .ok (.ifCond .eq 9, 3) := by decide +kernel
theorem dX2_layCores_52 : decode cX2_layCores 52 = .ok (.aload_n 1, 1) := by decide +kernel
theorem dX2_layCores_53 : decode cX2_layCores 53 = .ok (.iload 5, 2) := by decide +kernel
theorem dX2_layCores_55 : decode cX2_layCores 55 = .ok (.iload 4, 2) := by decide +kernel
theorem dX2_layCores_57 : decode cX2_layCores 57 = .ok (.iastore, 1) := by decide +kernel
theorem dX2_layCores_58 : decode cX2_layCores 58 = .ok (.iinc 5 1, 3) := by decide +kernel
theorem dX2_layCores_61 : decode cX2_layCores 61 = .ok (.goto (-25), 3) := by decide +kernel
theorem dX2_layCores_64 : decode cX2_layCores 64 = .ok (.iinc 4 1, 3) := by decide +kernel
theorem dX2_layCores_67 : decode cX2_layCores 67 = .ok (.goto (-55), 3) := by decide +kernel
theorem dX2_layCores_70 : decode cX2_layCores 70 = .ok (.return_, 1) := by decide +kernel
theorem dX3_init_0 : decode cX3_init 0 = .ok (.aload_n 0, 1) := by decide +kernel
theorem dX3_init_1 : decode cX3_init 1 = .ok (.invokespecial 3, 3) := by decide +kernel
theorem dX3_init_4 : decode cX3_init 4 = .ok (.aload_n 0, 1) := by decide +kernel
theorem dX3_init_5 : decode cX3_init 5 = .ok (.bipush 40, 2) := by decide +kernel
theorem dX3_init_7 : decode cX3_init 7 = .ok (.newarray .long, 2) := by decide +kernel
theorem dX3_init_9 : decode cX3_init 9 = .ok (.putfield 9, 3) := by decide +kernel
theorem dX3_init_12 : decode cX3_init 12 = .ok (.aload_n 0, 1) := by decide +kernel
theorem dX3_init_13 : decode cX3_init 13 = .ok (.sipush 1600, 3) := by decide +kernel
theorem dX3_init_16 : decode cX3_init 16 = .ok (.newarray .int, 2) := by decide +kernel
theorem dX3_init_18 : decode cX3_init 18 = .ok (.putfield 15, 3) := by decide +kernel
theorem dX3_init_21 : decode cX3_init 21 = .ok (.aload_n 0, 1) := by decide +kernel
theorem dX3_init_22 : decode cX3_init 22 = .ok (.new 19, 3) := by decide +kernel
theorem dX3_init_25 : decode cX3_init 25 = .ok (.dup, 1) := by decide +kernel
theorem dX3_init_26 : decode cX3_init 26 = .ok (.invokespecial 21, 3) := by decide +kernel
theorem dX3_init_29 : decode cX3_init 29 = .ok (.putfield 22, 3) := by decide +kernel
theorem dX3_init_32 : decode cX3_init 32 = .ok (.aload_n 0, 1) := by decide +kernel
theorem dX3_init_33 : decode cX3_init 33 = .ok (.iconst 0, 1) := by decide +kernel
theorem dX3_init_34 : decode cX3_init 34 = .ok (.putfield 26, 3) := by decide +kernel
theorem dX3_init_37 : decode cX3_init 37 = .ok (.aload_n 0, 1) := by decide +kernel
theorem dX3_init_38 : decode cX3_init 38 = .ok (.iconst 1, 1) := by decide +kernel
theorem dX3_init_39 : decode cX3_init 39 = .ok (.putfield 30, 3) := by decide +kernel
theorem dX3_init_42 : decode cX3_init 42 = .ok (.aload_n 0, 1) := by decide +kernel
theorem dX3_init_43 : decode cX3_init 43 = .ok (.lconst 0, 1) := by decide +kernel
theorem dX3_init_44 : decode cX3_init 44 = .ok (.putfield 33, 3) := by decide +kernel
theorem dX3_init_47 : decode cX3_init 47 = .ok (.aload_n 0, 1) := by decide +kernel
theorem dX3_init_48 : decode cX3_init 48 = .ok (.lconst 0, 1) := by decide +kernel
theorem dX3_init_49 : decode cX3_init 49 = .ok (.putfield 37, 3) := by decide +kernel
theorem dX3_init_52 : decode cX3_init 52 = .ok (.aload_n 0, 1) := by decide +kernel
theorem dX3_init_53 : decode cX3_init 53 = .ok (.lconst 0, 1) := by decide +kernel
theorem dX3_init_54 : decode cX3_init 54 = .ok (.putfield 40, 3) := by decide +kernel
theorem dX3_init_57 : decode cX3_init 57 = .ok (.aload_n 0, 1) := by decide +kernel
theorem dX3_init_58 : decode cX3_init 58 = .ok (.lconst 0, 1) := by decide +kernel
theorem dX3_init_59 : decode cX3_init 59 = .ok (.putfield 43, 3) := by decide +kernel
theorem dX3_init_62 : decode cX3_init 62 = .ok (.aload_n 0, 1) := by decide +kernel
theorem dX3_init_63 : decode cX3_init 63 = .ok (.lconst 0, 1) := by decide +kernel
theorem dX3_init_64 : decode cX3_init 64 = .ok (.putfield 46, 3) := by decide +kernel
theorem dX3_init_67 : decode cX3_init 67 = .ok (.aload_n 0, 1) := by decide +kernel
theorem dX3_init_68 : decode cX3_init 68 = .ok (.lconst 0, 1) := by decide +kernel
theorem dX3_init_69 : decode cX3_init 69 = .ok (.putfield 49, 3) := by decide +kernel
theorem dX3_init_72 : decode cX3_init 72 = .ok (.return_, 1) := by decide +kernel
theorem dX3_joins_0 : decode cX3_joins 0 = .ok (.aload_n 0, 1) := by decide +kernel
theorem dX3_joins_1 : decode cX3_joins 1 = .ok (.getfield 9, 3) := by decide +kernel
theorem dX3_joins_4 : decode cX3_joins 4 = .ok (.iload_n 1, 1) := by decide +kernel
theorem dX3_joins_5 : decode cX3_joins 5 = .ok (.laload, 1) := by decide +kernel
theorem dX3_joins_6 : decode cX3_joins 6 = .ok (.iload_n 2, 1) := by decide +kernel
theorem dX3_joins_7 : decode cX3_joins 7 = .ok (.invokestatic 52, 3) := by decide +kernel
theorem dX3_joins_10 : decode cX3_joins 10 = .ok (.ireturn, 1) := by decide +kernel
theorem dX3_isHeavy_0 : decode cX3_isHeavy 0 = .ok (.aload_n 0, 1) := by decide +kernel
theorem dX3_isHeavy_1 : decode cX3_isHeavy 1 = .ok (.getfield 33, 3) := by decide +kernel
theorem dX3_isHeavy_4 : decode cX3_isHeavy 4 = .ok (.iload_n 1, 1) := by decide +kernel
theorem dX3_isHeavy_5 : decode cX3_isHeavy 5 = .ok (.invokestatic 52, 3) := by decide +kernel
theorem dX3_isHeavy_8 : decode cX3_isHeavy 8 = .ok (.ireturn, 1) := by decide +kernel
theorem dX3_bound_0 : decode cX3_bound 0 = .ok (.iconst 1, 1) := by decide +kernel
theorem dX3_bound_1 : decode cX3_bound 1 = .ok (.istore_n 1, 1) := by decide +kernel
theorem dX3_bound_2 : decode cX3_bound 2 = .ok (.iload_n 1, 1) := by decide +kernel
theorem dX3_bound_3 : decode cX3_bound 3 = .ok (.bipush 40, 2) := by decide +kernel
theorem dX3_bound_5 : decode cX3_bound 5 = .ok (.if_icmp .ge 21, 3) := by decide +kernel
theorem dX3_bound_8 : decode cX3_bound 8 = .ok (.iload_n 1, 1) := by decide +kernel
theorem dX3_bound_9 : decode cX3_bound 9 = .ok (.iload_n 1, 1) := by decide +kernel
theorem dX3_bound_10 : decode cX3_bound 10 = .ok (.imul, 1) := by decide +kernel
theorem dX3_bound_11 : decode cX3_bound 11 = .ok (.aload_n 0, 1) := by decide +kernel
theorem dX3_bound_12 : decode cX3_bound 12 = .ok (.getfield 30, 3) := by decide +kernel
theorem dX3_bound_15 : decode cX3_bound 15 = .ok (.if_icmp .lt 5, 3) := by decide +kernel
theorem dX3_bound_18 : decode cX3_bound 18 = .ok (.iload_n 1, 1) := by decide +kernel
theorem dX3_bound_19 : decode cX3_bound 19 = .ok (.ireturn, 1) := by decide +kernel
theorem dX3_bound_20 : decode cX3_bound 20 = .ok (.iinc 1 1, 3) := by decide +kernel
theorem dX3_bound_23 : decode cX3_bound 23 = .ok (.goto (-21), 3) := by decide +kernel
theorem dX3_bound_26 : decode cX3_bound 26 = .ok (.bipush 40, 2) := by decide +kernel
theorem dX3_bound_28 : decode cX3_bound 28 = .ok (.ireturn, 1) := by decide +kernel
theorem dX3_bring_0 : decode cX3_bring 0 = .ok (.aload_n 0, 1) := by decide +kernel
theorem dX3_bring_1 : decode cX3_bring 1 = .ok (.getfield 22, 3) := by decide +kernel
theorem dX3_bring_4 : decode cX3_bring 4 = .ok (.iconst 1, 1) := by decide +kernel
theorem dX3_bring_5 : decode cX3_bring 5 = .ok (.iload_n 1, 1) := by decide +kernel
theorem dX3_bring_6 : decode cX3_bring 6 = .ok (.iload_n 2, 1) := by decide +kernel
theorem dX3_bring_7 : decode cX3_bring 7 = .ok (.iload_n 3, 1) := by decide +kernel
theorem dX3_bring_8 : decode cX3_bring 8 = .ok (.invokevirtual 56, 3) := by decide +kernel
theorem dX3_bring_11 : decode cX3_bring 11 = .ok (.aload_n 0, 1) := by decide +kernel
theorem dX3_bring_12 : decode cX3_bring 12 = .ok (.iload_n 1, 1) := by decide +kernel
theorem dX3_bring_13 : decode cX3_bring 13 = .ok (.iload_n 2, 1) := by decide +kernel
theorem dX3_bring_14 : decode cX3_bring 14 = .ok (.iload_n 3, 1) := by decide +kernel
theorem dX3_bring_15 : decode cX3_bring 15 = .ok (.invokevirtual 60, 3) := by decide +kernel
theorem dX3_bring_18 : decode cX3_bring 18 = .ok (.return_, 1) := by decide +kernel
theorem dX3_drop_0 : decode cX3_drop 0 = .ok (.aload_n 0, 1) := by decide +kernel
theorem dX3_drop_1 : decode cX3_drop 1 = .ok (.getfield 22, 3) := by decide +kernel
theorem dX3_drop_4 : decode cX3_drop 4 = .ok (.iconst 0, 1) := by decide +kernel
theorem dX3_drop_5 : decode cX3_drop 5 = .ok (.iload_n 1, 1) := by decide +kernel
theorem dX3_drop_6 : decode cX3_drop 6 = .ok (.iload_n 2, 1) := by decide +kernel
theorem dX3_drop_7 : decode cX3_drop 7 = .ok (.aload_n 0, 1) := by decide +kernel
theorem dX3_drop_8 : decode cX3_drop 8 = .ok (.getfield 15, 3) := by decide +kernel
theorem dX3_drop_11 : decode cX3_drop 11 = .ok (.iload_n 1, 1) := by decide +kernel
theorem dX3_drop_12 : decode cX3_drop 12 = .ok (.iload_n 2, 1) := by decide +kernel
theorem dX3_drop_13 : decode cX3_drop 13 = .ok (.invokestatic 64, 3) := by decide +kernel
theorem dX3_drop_16 : decode cX3_drop 16 = .ok (.iaload, 1) := by decide +kernel
theorem dX3_drop_17 : decode cX3_drop 17 = .ok (.invokevirtual 56, 3) := by decide +kernel
theorem dX3_drop_20 : decode cX3_drop 20 = .ok (.aload_n 0, 1) := by decide +kernel
theorem dX3_drop_21 : decode cX3_drop 21 = .ok (.iload_n 1, 1) := by decide +kernel
theorem dX3_drop_22 : decode cX3_drop 22 = .ok (.iload_n 2, 1) := by decide +kernel
theorem dX3_drop_23 : decode cX3_drop 23 = .ok (.invokevirtual 68, 3) := by decide +kernel
theorem dX3_drop_26 : decode cX3_drop 26 = .ok (.return_, 1) := by decide +kernel
theorem dX3_takeBack_0 : decode cX3_takeBack 0 = .ok (.iconst 0, 1) := by decide +kernel
theorem dX3_takeBack_1 : decode cX3_takeBack 1 = .ok (.istore_n 2, 1) := by decide +kernel
theorem dX3_takeBack_2 : decode cX3_takeBack 2 = .ok (.iload_n 2, 1) := by decide +kernel
theorem dX3_takeBack_3 : decode cX3_takeBack 3 = .ok (.iload_n 1, 1) := by decide +kernel
theorem dX3_takeBack_4 : decode cX3_takeBack 4 = .ok (.if_icmp .ge 111, 3) := by decide +kernel
theorem dX3_takeBack_7 : decode cX3_takeBack 7 = .ok (.aload_n 0, 1) := by decide +kernel
theorem dX3_takeBack_8 : decode cX3_takeBack 8 = .ok (.getfield 22, 3) := by decide +kernel
theorem dX3_takeBack_11 : decode cX3_takeBack 11 = .ok (.getfield 72, 3) := by decide +kernel
theorem dX3_takeBack_14 : decode cX3_takeBack 14 = .ok (.ifCond .le 101, 3) := by decide +kernel
theorem dX3_takeBack_17 : decode cX3_takeBack 17 = .ok (.aload_n 0, 1) := by decide +kernel
theorem dX3_takeBack_18 : decode cX3_takeBack 18 = .ok (.getfield 22, 3) := by decide +kernel
theorem dX3_takeBack_21 : decode cX3_takeBack 21 = .ok (.dup, 1) := by decide +kernel
theorem dX3_takeBack_22 : decode cX3_takeBack 22 = .ok (.getfield 72, 3) := by decide +kernel
theorem dX3_takeBack_25 : decode cX3_takeBack 25 = .ok (.iconst 1, 1) := by decide +kernel
theorem dX3_takeBack_26 : decode cX3_takeBack 26 = .ok (.isub, 1) := by decide +kernel
theorem dX3_takeBack_27 : decode cX3_takeBack 27 = .ok (.putfield 72, 3) := by decide +kernel
theorem dX3_takeBack_30 : decode cX3_takeBack 30 = .ok (.aload_n 0, 1) := by decide +kernel
theorem dX3_takeBack_31 : decode cX3_takeBack 31 = .ok (.getfield 22, 3) := by decide +kernel
theorem dX3_takeBack_34 : decode cX3_takeBack 34 = .ok (.aload_n 0, 1) := by decide +kernel
theorem dX3_takeBack_35 : decode cX3_takeBack 35 = .ok (.getfield 22, 3) := by decide +kernel
theorem dX3_takeBack_38 : decode cX3_takeBack 38 = .ok (.getfield 72, 3) := by decide +kernel
theorem dX3_takeBack_41 : decode cX3_takeBack 41 = .ok (.invokevirtual 75, 3) := by decide +kernel
theorem dX3_takeBack_44 : decode cX3_takeBack 44 = .ok (.istore_n 3, 1) := by decide +kernel
theorem dX3_takeBack_45 : decode cX3_takeBack 45 = .ok (.aload_n 0, 1) := by decide +kernel
theorem dX3_takeBack_46 : decode cX3_takeBack 46 = .ok (.getfield 22, 3) := by decide +kernel
theorem dX3_takeBack_49 : decode cX3_takeBack 49 = .ok (.aload_n 0, 1) := by decide +kernel
theorem dX3_takeBack_50 : decode cX3_takeBack 50 = .ok (.getfield 22, 3) := by decide +kernel
theorem dX3_takeBack_53 : decode cX3_takeBack 53 = .ok (.getfield 72, 3) := by decide +kernel
theorem dX3_takeBack_56 : decode cX3_takeBack 56 = .ok (.invokevirtual 79, 3) := by decide +kernel
theorem dX3_takeBack_59 : decode cX3_takeBack 59 = .ok (.istore 4, 2) := by decide +kernel
theorem dX3_takeBack_61 : decode cX3_takeBack 61 = .ok (.aload_n 0, 1) := by decide +kernel
theorem dX3_takeBack_62 : decode cX3_takeBack 62 = .ok (.getfield 22, 3) := by decide +kernel
theorem dX3_takeBack_65 : decode cX3_takeBack 65 = .ok (.aload_n 0, 1) := by decide +kernel
theorem dX3_takeBack_66 : decode cX3_takeBack 66 = .ok (.getfield 22, 3) := by decide +kernel
theorem dX3_takeBack_69 : decode cX3_takeBack 69 = .ok (.getfield 72, 3) := by decide +kernel
theorem dX3_takeBack_72 : decode cX3_takeBack 72 = .ok (.invokevirtual 82, 3) := by decide +kernel
theorem dX3_takeBack_75 : decode cX3_takeBack 75 = .ok (.ifCond .eq 13, 3) := by decide +kernel
theorem dX3_takeBack_78 : decode cX3_takeBack 78 = .ok (.aload_n 0, 1) := by decide +kernel
theorem dX3_takeBack_79 : decode cX3_takeBack 79 = .ok (.iload_n 3, 1) := by decide +kernel
theorem dX3_takeBack_80 : decode cX3_takeBack 80 = .ok (.iload 4, 2) := by decide +kernel
theorem dX3_takeBack_82 : decode cX3_takeBack 82 = .ok (.invokevirtual 68, 3) := by decide +kernel
theorem dX3_takeBack_85 : decode cX3_takeBack 85 = .ok (.goto 24, 3) := by decide +kernel
theorem dX3_takeBack_88 : decode cX3_takeBack 88 = .ok (.aload_n 0, 1) := by decide +kernel
theorem dX3_takeBack_89 : decode cX3_takeBack 89 = .ok (.iload_n 3, 1) := by decide +kernel
theorem dX3_takeBack_90 : decode cX3_takeBack 90 = .ok (.iload 4, 2) := by decide +kernel
theorem dX3_takeBack_92 : decode cX3_takeBack 92 = .ok (.aload_n 0, 1) := by decide +kernel
theorem dX3_takeBack_93 : decode cX3_takeBack 93 = .ok (.getfield 22, 3) := by decide +kernel
theorem dX3_takeBack_96 : decode cX3_takeBack 96 = .ok (.aload_n 0, 1) := by decide +kernel
theorem dX3_takeBack_97 : decode cX3_takeBack 97 = .ok (.getfield 22, 3) := by decide +kernel
theorem dX3_takeBack_100 : decode cX3_takeBack 100 = .ok (.getfield 72, 3) := by decide +kernel
theorem dX3_takeBack_103 : decode cX3_takeBack 103 = .ok (.invokevirtual 86, 3) := by decide +kernel
theorem dX3_takeBack_106 : decode cX3_takeBack 106 = .ok (.invokevirtual 60, 3) := by decide +kernel
theorem dX3_takeBack_109 : decode cX3_takeBack 109 = .ok (.iinc 2 1, 3) := by decide +kernel
theorem dX3_takeBack_112 : decode cX3_takeBack 112 = .ok (.goto (-110), 3) := by decide +kernel
theorem dX3_takeBack_115 : decode cX3_takeBack 115 = .ok (.iload_n 2, 1) := by decide +kernel
theorem dX3_takeBack_116 : decode cX3_takeBack 116 = .ok (.ireturn, 1) := by decide +kernel
theorem dX3_become_0 : decode cX3_become 0 = .ok (.aload_n 1, 1) := by decide +kernel
theorem dX3_become_1 : decode cX3_become 1 = .ok (.getfield 9, 3) := by decide +kernel
theorem dX3_become_4 : decode cX3_become 4 = .ok (.iconst 0, 1) := by decide +kernel
theorem dX3_become_5 : decode cX3_become 5 = .ok (.aload_n 0, 1) := by decide +kernel
theorem dX3_become_6 : decode cX3_become 6 = .ok (.getfield 9, 3) := by decide +kernel
theorem dX3_become_9 : decode cX3_become 9 = .ok (.iconst 0, 1) := by decide +kernel
theorem dX3_become_10 : decode cX3_become 10 = .ok (.bipush 40, 2) := by decide +kernel
theorem dX3_become_12 : decode cX3_become 12 = .ok (.invokestatic 89, 3) := by decide +kernel
theorem dX3_become_15 : decode cX3_become 15 = .ok (.aload_n 1, 1) := by decide +kernel
theorem dX3_become_16 : decode cX3_become 16 = .ok (.getfield 15, 3) := by decide +kernel
theorem dX3_become_19 : decode cX3_become 19 = .ok (.iconst 0, 1) := by decide +kernel
theorem dX3_become_20 : decode cX3_become 20 = .ok (.aload_n 0, 1) := by decide +kernel
theorem dX3_become_21 : decode cX3_become 21 = .ok (.getfield 15, 3) := by decide +kernel
theorem dX3_become_24 : decode cX3_become 24 = .ok (.iconst 0, 1) := by decide +kernel
theorem dX3_become_25 : decode cX3_become 25 = .ok (.sipush 1600, 3) := by decide +kernel
theorem dX3_become_28 : decode cX3_become 28 = .ok (.invokestatic 89, 3) := by decide +kernel
theorem dX3_become_31 : decode cX3_become 31 = .ok (.aload_n 0, 1) := by decide +kernel
theorem dX3_become_32 : decode cX3_become 32 = .ok (.getfield 22, 3) := by decide +kernel
theorem dX3_become_35 : decode cX3_become 35 = .ok (.aload_n 1, 1) := by decide +kernel
theorem dX3_become_36 : decode cX3_become 36 = .ok (.getfield 22, 3) := by decide +kernel
theorem dX3_become_39 : decode cX3_become 39 = .ok (.invokevirtual 95, 3) := by decide +kernel
theorem dX3_become_42 : decode cX3_become 42 = .ok (.aload_n 0, 1) := by decide +kernel
theorem dX3_become_43 : decode cX3_become 43 = .ok (.aload_n 1, 1) := by decide +kernel
theorem dX3_become_44 : decode cX3_become 44 = .ok (.getfield 26, 3) := by decide +kernel
theorem dX3_become_47 : decode cX3_become 47 = .ok (.putfield 26, 3) := by decide +kernel
theorem dX3_become_50 : decode cX3_become 50 = .ok (.aload_n 0, 1) := by decide +kernel
theorem dX3_become_51 : decode cX3_become 51 = .ok (.aload_n 1, 1) := by decide +kernel
theorem dX3_become_52 : decode cX3_become 52 = .ok (.getfield 30, 3) := by decide +kernel
theorem dX3_become_55 : decode cX3_become 55 = .ok (.putfield 30, 3) := by decide +kernel
theorem dX3_become_58 : decode cX3_become 58 = .ok (.aload_n 0, 1) := by decide +kernel
theorem dX3_become_59 : decode cX3_become 59 = .ok (.aload_n 1, 1) := by decide +kernel
theorem dX3_become_60 : decode cX3_become 60 = .ok (.getfield 33, 3) := by decide +kernel
theorem dX3_become_63 : decode cX3_become 63 = .ok (.putfield 33, 3) := by decide +kernel
theorem dX3_become_66 : decode cX3_become 66 = .ok (.aload_n 0, 1) := by decide +kernel
theorem dX3_become_67 : decode cX3_become 67 = .ok (.aload_n 1, 1) := by decide +kernel
theorem dX3_become_68 : decode cX3_become 68 = .ok (.getfield 37, 3) := by decide +kernel
theorem dX3_become_71 : decode cX3_become 71 = .ok (.putfield 37, 3) := by decide +kernel
theorem dX3_become_74 : decode cX3_become 74 = .ok (.aload_n 0, 1) := by decide +kernel
theorem dX3_become_75 : decode cX3_become 75 = .ok (.aload_n 1, 1) := by decide +kernel
theorem dX3_become_76 : decode cX3_become 76 = .ok (.getfield 40, 3) := by decide +kernel
theorem dX3_become_79 : decode cX3_become 79 = .ok (.putfield 40, 3) := by decide +kernel
theorem dX3_become_82 : decode cX3_become 82 = .ok (.aload_n 0, 1) := by decide +kernel
theorem dX3_become_83 : decode cX3_become 83 = .ok (.aload_n 1, 1) := by decide +kernel
theorem dX3_become_84 : decode cX3_become 84 = .ok (.getfield 43, 3) := by decide +kernel
theorem dX3_become_87 : decode cX3_become 87 = .ok (.putfield 43, 3) := by decide +kernel
theorem dX3_become_90 : decode cX3_become 90 = .ok (.aload_n 0, 1) := by decide +kernel
theorem dX3_become_91 : decode cX3_become 91 = .ok (.aload_n 1, 1) := by decide +kernel
theorem dX3_become_92 : decode cX3_become 92 = .ok (.getfield 46, 3) := by decide +kernel
theorem dX3_become_95 : decode cX3_become 95 = .ok (.putfield 46, 3) := by decide +kernel
theorem dX3_become_98 : decode cX3_become 98 = .ok (.aload_n 0, 1) := by decide +kernel
theorem dX3_become_99 : decode cX3_become 99 = .ok (.aload_n 1, 1) := by decide +kernel
theorem dX3_become_100 : decode cX3_become 100 = .ok (.getfield 49, 3) := by decide +kernel
theorem dX3_become_103 : decode cX3_become 103 = .ok (.putfield 49, 3) := by decide +kernel
theorem dX3_become_106 : decode cX3_become 106 = .ok (.return_, 1) := by decide +kernel
theorem dX3_come_0 : decode cX3_come 0 = .ok (.aload_n 0, 1) := by decide +kernel
theorem dX3_come_1 : decode cX3_come 1 = .ok (.getfield 9, 3) := by decide +kernel
theorem dX3_come_4 : decode cX3_come 4 = .ok (.iload_n 1, 1) := by decide +kernel
theorem dX3_come_5 : decode cX3_come 5 = .ok (.dup2, 1) := by decide +kernel
theorem dX3_come_6 : decode cX3_come 6 = .ok (.laload, 1) := by decide +kernel
theorem dX3_come_7 : decode cX3_come 7 = .ok (.lconst 1, 1) := by decide +kernel
theorem dX3_come_8 : decode cX3_come 8 = .ok (.iload_n 2, 1) := by decide +kernel
theorem dX3_come_9 : decode cX3_come 9 = .ok (.lshl, 1) := by decide +kernel
theorem dX3_come_10 : decode cX3_come 10 = .ok (.lor, 1) := by decide +kernel
theorem dX3_come_11 : decode cX3_come 11 = .ok (.lastore, 1) := by decide +kernel
theorem dX3_come_12 : decode cX3_come 12 = .ok (.aload_n 0, 1) := by decide +kernel
theorem dX3_come_13 : decode cX3_come 13 = .ok (.getfield 9, 3) := by decide +kernel
theorem dX3_come_16 : decode cX3_come 16 = .ok (.iload_n 2, 1) := by decide +kernel
theorem dX3_come_17 : decode cX3_come 17 = .ok (.dup2, 1) := by decide +kernel
theorem dX3_come_18 : decode cX3_come 18 = .ok (.laload, 1) := by decide +kernel
theorem dX3_come_19 : decode cX3_come 19 = .ok (.lconst 1, 1) := by decide +kernel
theorem dX3_come_20 : decode cX3_come 20 = .ok (.iload_n 1, 1) := by decide +kernel
theorem dX3_come_21 : decode cX3_come 21 = .ok (.lshl, 1) := by decide +kernel
theorem dX3_come_22 : decode cX3_come 22 = .ok (.lor, 1) := by decide +kernel
theorem dX3_come_23 : decode cX3_come 23 = .ok (.lastore, 1) := by decide +kernel
theorem dX3_come_24 : decode cX3_come 24 = .ok (.aload_n 0, 1) := by decide +kernel
theorem dX3_come_25 : decode cX3_come 25 = .ok (.getfield 15, 3) := by decide +kernel
theorem dX3_come_28 : decode cX3_come 28 = .ok (.iload_n 1, 1) := by decide +kernel
theorem dX3_come_29 : decode cX3_come 29 = .ok (.iload_n 2, 1) := by decide +kernel
theorem dX3_come_30 : decode cX3_come 30 = .ok (.invokestatic 64, 3) := by decide +kernel
theorem dX3_come_33 : decode cX3_come 33 = .ok (.iload_n 3, 1) := by decide +kernel
theorem dX3_come_34 : decode cX3_come 34 = .ok (.iastore, 1) := by decide +kernel
theorem dX3_come_35 : decode cX3_come 35 = .ok (.aload_n 0, 1) := by decide +kernel
theorem dX3_come_36 : decode cX3_come 36 = .ok (.dup, 1) := by decide +kernel
theorem dX3_come_37 : decode cX3_come 37 = .ok (.getfield 26, 3) := by decide +kernel
theorem dX3_come_40 : decode cX3_come 40 = .ok (.iconst 1, 1) := by decide +kernel
theorem dX3_come_41 : decode cX3_come 41 = .ok (.iadd, 1) := by decide +kernel
theorem dX3_come_42 : decode cX3_come 42 = .ok (.putfield 26, 3) := by decide +kernel
theorem dX3_come_45 : decode cX3_come 45 = .ok (.aload_n 0, 1) := by decide +kernel
theorem dX3_come_46 : decode cX3_come 46 = .ok (.dup, 1) := by decide +kernel
theorem dX3_come_47 : decode cX3_come 47 = .ok (.getfield 46, 3) := by decide +kernel
theorem dX3_come_50 : decode cX3_come 50 = .ok (.lconst 1, 1) := by decide +kernel
theorem dX3_come_51 : decode cX3_come 51 = .ok (.ladd, 1) := by decide +kernel
theorem dX3_come_52 : decode cX3_come 52 = .ok (.putfield 46, 3) := by decide +kernel
theorem dX3_come_55 : decode cX3_come 55 = .ok (.aload_n 0, 1) := by decide +kernel
theorem dX3_come_56 : decode cX3_come 56 = .ok (.getfield 26, 3) := by decide +kernel
theorem dX3_come_59 : decode cX3_come 59 = .ok (.aload_n 0, 1) := by decide +kernel
theorem dX3_come_60 : decode cX3_come 60 = .ok (.getfield 30, 3) := by decide +kernel
theorem dX3_come_63 : decode cX3_come 63 = .ok (.if_icmp .ne 16, 3) := by decide +kernel
theorem dX3_come_66 : decode cX3_come 66 = .ok (.aload_n 0, 1) := by decide +kernel
theorem dX3_come_67 : decode cX3_come 67 = .ok (.aload_n 0, 1) := by decide +kernel
theorem dX3_come_68 : decode cX3_come 68 = .ok (.getfield 30, 3) := by decide +kernel
theorem dX3_come_71 : decode cX3_come 71 = .ok (.iconst 2, 1) := by decide +kernel
theorem dX3_come_72 : decode cX3_come 72 = .ok (.imul, 1) := by decide +kernel
theorem dX3_come_73 : decode cX3_come 73 = .ok (.invokevirtual 99, 3) := by decide +kernel
theorem dX3_come_76 : decode cX3_come 76 = .ok (.goto 21, 3) := by decide +kernel
theorem dX3_come_79 : decode cX3_come 79 = .ok (.aload_n 0, 1) := by decide +kernel
theorem dX3_come_80 : decode cX3_come 80 = .ok (.iload_n 1, 1) := by decide +kernel
theorem dX3_come_81 : decode cX3_come 81 = .ok (.iload_n 2, 1) := by decide +kernel
theorem dX3_come_82 : decode cX3_come 82 = .ok (.invokestatic 103, 3) := by decide +kernel
theorem dX3_come_85 : decode cX3_come 85 = .ok (.invokevirtual 108, 3) := by decide +kernel
theorem dX3_come_88 : decode cX3_come 88 = .ok (.aload_n 0, 1) := by decide +kernel
theorem dX3_come_89 : decode cX3_come 89 = .ok (.iload_n 1, 1) := by decide +kernel
theorem dX3_come_90 : decode cX3_come 90 = .ok (.iload_n 2, 1) := by decide +kernel
theorem dX3_come_91 : decode cX3_come 91 = .ok (.invokestatic 111, 3) := by decide +kernel
theorem dX3_come_94 : decode cX3_come 94 = .ok (.invokevirtual 108, 3) := by decide +kernel
theorem dX3_come_97 : decode cX3_come 97 = .ok (.return_, 1) := by decide +kernel
theorem dX3_go_0 : decode cX3_go 0 = .ok (.aload_n 0, 1) := by decide +kernel
theorem dX3_go_1 : decode cX3_go 1 = .ok (.getfield 9, 3) := by decide +kernel
theorem dX3_go_4 : decode cX3_go 4 = .ok (.iload_n 1, 1) := by decide +kernel
theorem dX3_go_5 : decode cX3_go 5 = .ok (.dup2, 1) := by decide +kernel
theorem dX3_go_6 : decode cX3_go 6 = .ok (.laload, 1) := by decide +kernel
theorem dX3_go_7 : decode cX3_go 7 = .ok (.lconst 1, 1) := by decide +kernel
theorem dX3_go_8 : decode cX3_go 8 = .ok (.iload_n 2, 1) := by decide +kernel
theorem dX3_go_9 : decode cX3_go 9 = .ok (.lshl, 1) := by decide +kernel
theorem dX3_go_10 : decode cX3_go 10 = .ok (.ldc2_w 114, 3) := by decide +kernel
theorem dX3_go_13 : decode cX3_go 13 = .ok (.lxor, 1) := by decide +kernel
theorem dX3_go_14 : decode cX3_go 14 = .ok (.land, 1) := by decide +kernel
theorem dX3_go_15 : decode cX3_go 15 = .ok (.lastore, 1) := by decide +kernel
theorem dX3_go_16 : decode cX3_go 16 = .ok (.aload_n 0, 1) := by decide +kernel
theorem dX3_go_17 : decode cX3_go 17 = .ok (.getfield 9, 3) := by decide +kernel
theorem dX3_go_20 : decode cX3_go 20 = .ok (.iload_n 2, 1) := by decide +kernel
theorem dX3_go_21 : decode cX3_go 21 = .ok (.dup2, 1) := by decide +kernel
theorem dX3_go_22 : decode cX3_go 22 = .ok (.laload, 1) := by decide +kernel
theorem dX3_go_23 : decode cX3_go 23 = .ok (.lconst 1, 1) := by decide +kernel
theorem dX3_go_24 : decode cX3_go 24 = .ok (.iload_n 1, 1) := by decide +kernel
theorem dX3_go_25 : decode cX3_go 25 = .ok (.lshl, 1) := by decide +kernel
theorem dX3_go_26 : decode cX3_go 26 = .ok (.ldc2_w 114, 3) := by decide +kernel
theorem dX3_go_29 : decode cX3_go 29 = .ok (.lxor, 1) := by decide +kernel
theorem dX3_go_30 : decode cX3_go 30 = .ok (.land, 1) := by decide +kernel
theorem dX3_go_31 : decode cX3_go 31 = .ok (.lastore, 1) := by decide +kernel
theorem dX3_go_32 : decode cX3_go 32 = .ok (.aload_n 0, 1) := by decide +kernel
theorem dX3_go_33 : decode cX3_go 33 = .ok (.dup, 1) := by decide +kernel
theorem dX3_go_34 : decode cX3_go 34 = .ok (.getfield 26, 3) := by decide +kernel
theorem dX3_go_37 : decode cX3_go 37 = .ok (.iconst 1, 1) := by decide +kernel
theorem dX3_go_38 : decode cX3_go 38 = .ok (.isub, 1) := by decide +kernel
theorem dX3_go_39 : decode cX3_go 39 = .ok (.putfield 26, 3) := by decide +kernel
theorem dX3_go_42 : decode cX3_go 42 = .ok (.aload_n 0, 1) := by decide +kernel
theorem dX3_go_43 : decode cX3_go 43 = .ok (.dup, 1) := by decide +kernel
theorem dX3_go_44 : decode cX3_go 44 = .ok (.getfield 46, 3) := by decide +kernel
theorem dX3_go_47 : decode cX3_go 47 = .ok (.lconst 1, 1) := by decide +kernel
theorem dX3_go_48 : decode cX3_go 48 = .ok (.ladd, 1) := by decide +kernel
theorem dX3_go_49 : decode cX3_go 49 = .ok (.putfield 46, 3) := by decide +kernel
theorem dX3_go_52 : decode cX3_go 52 = .ok (.aload_n 0, 1) := by decide +kernel
theorem dX3_go_53 : decode cX3_go 53 = .ok (.getfield 26, 3) := by decide +kernel
theorem dX3_go_56 : decode cX3_go 56 = .ok (.aload_n 0, 1) := by decide +kernel
theorem dX3_go_57 : decode cX3_go 57 = .ok (.getfield 30, 3) := by decide +kernel
theorem dX3_go_60 : decode cX3_go 60 = .ok (.iconst 4, 1) := by decide +kernel
theorem dX3_go_61 : decode cX3_go 61 = .ok (.idiv, 1) := by decide +kernel
theorem dX3_go_62 : decode cX3_go 62 = .ok (.if_icmp .ge 22, 3) := by decide +kernel
theorem dX3_go_65 : decode cX3_go 65 = .ok (.aload_n 0, 1) := by decide +kernel
theorem dX3_go_66 : decode cX3_go 66 = .ok (.iconst 1, 1) := by decide +kernel
theorem dX3_go_67 : decode cX3_go 67 = .ok (.aload_n 0, 1) := by decide +kernel
theorem dX3_go_68 : decode cX3_go 68 = .ok (.getfield 30, 3) := by decide +kernel
theorem dX3_go_71 : decode cX3_go 71 = .ok (.iconst 2, 1) := by decide +kernel
theorem dX3_go_72 : decode cX3_go 72 = .ok (.idiv, 1) := by decide +kernel
theorem dX3_go_73 : decode cX3_go 73 = .ok (.iconst 1, 1) := by decide +kernel
theorem dX3_go_74 : decode cX3_go 74 = .ok (.isub, 1) := by decide +kernel
theorem dX3_go_75 : decode cX3_go 75 = .ok (.invokestatic 111, 3) := by decide +kernel
theorem dX3_go_78 : decode cX3_go 78 = .ok (.invokevirtual 99, 3) := by decide +kernel
theorem dX3_go_81 : decode cX3_go 81 = .ok (.goto 21, 3) := by decide +kernel
theorem dX3_go_84 : decode cX3_go 84 = .ok (.aload_n 0, 1) := by decide +kernel
theorem dX3_go_85 : decode cX3_go 85 = .ok (.iload_n 1, 1) := by decide +kernel
theorem dX3_go_86 : decode cX3_go 86 = .ok (.iload_n 2, 1) := by decide +kernel
theorem dX3_go_87 : decode cX3_go 87 = .ok (.invokestatic 103, 3) := by decide +kernel
theorem dX3_go_90 : decode cX3_go 90 = .ok (.invokevirtual 108, 3) := by decide +kernel
theorem dX3_go_93 : decode cX3_go 93 = .ok (.aload_n 0, 1) := by decide +kernel
theorem dX3_go_94 : decode cX3_go 94 = .ok (.iload_n 1, 1) := by decide +kernel
theorem dX3_go_95 : decode cX3_go 95 = .ok (.iload_n 2, 1) := by decide +kernel
theorem dX3_go_96 : decode cX3_go 96 = .ok (.invokestatic 111, 3) := by decide +kernel
theorem dX3_go_99 : decode cX3_go 99 = .ok (.invokevirtual 108, 3) := by decide +kernel
theorem dX3_go_102 : decode cX3_go 102 = .ok (.return_, 1) := by decide +kernel
theorem dX3_rebase_0 : decode cX3_rebase 0 = .ok (.aload_n 0, 1) := by decide +kernel
theorem dX3_rebase_1 : decode cX3_rebase 1 = .ok (.iload_n 1, 1) := by decide +kernel
theorem dX3_rebase_2 : decode cX3_rebase 2 = .ok (.putfield 30, 3) := by decide +kernel
theorem dX3_rebase_5 : decode cX3_rebase 5 = .ok (.aload_n 0, 1) := by decide +kernel
theorem dX3_rebase_6 : decode cX3_rebase 6 = .ok (.lconst 0, 1) := by decide +kernel
theorem dX3_rebase_7 : decode cX3_rebase 7 = .ok (.putfield 33, 3) := by decide +kernel
theorem dX3_rebase_10 : decode cX3_rebase 10 = .ok (.aload_n 0, 1) := by decide +kernel
theorem dX3_rebase_11 : decode cX3_rebase 11 = .ok (.dup, 1) := by decide +kernel
theorem dX3_rebase_12 : decode cX3_rebase 12 = .ok (.getfield 43, 3) := by decide +kernel
theorem dX3_rebase_15 : decode cX3_rebase 15 = .ok (.lconst 1, 1) := by decide +kernel
theorem dX3_rebase_16 : decode cX3_rebase 16 = .ok (.ladd, 1) := by decide +kernel
theorem dX3_rebase_17 : decode cX3_rebase 17 = .ok (.putfield 43, 3) := by decide +kernel
theorem dX3_rebase_20 : decode cX3_rebase 20 = .ok (.aload_n 0, 1) := by decide +kernel
theorem dX3_rebase_21 : decode cX3_rebase 21 = .ok (.invokevirtual 116, 3) := by decide +kernel
theorem dX3_rebase_24 : decode cX3_rebase 24 = .ok (.istore_n 2, 1) := by decide +kernel
theorem dX3_rebase_25 : decode cX3_rebase 25 = .ok (.iconst 0, 1) := by decide +kernel
theorem dX3_rebase_26 : decode cX3_rebase 26 = .ok (.istore_n 3, 1) := by decide +kernel
theorem dX3_rebase_27 : decode cX3_rebase 27 = .ok (.iload_n 3, 1) := by decide +kernel
theorem dX3_rebase_28 : decode cX3_rebase 28 = .ok (.bipush 40, 2) := by decide +kernel
theorem dX3_rebase_30 : decode cX3_rebase 30 = .ok (.if_icmp .ge 33, 3) := by decide +kernel
theorem dX3_rebase_33 : decode cX3_rebase 33 = .ok (.aload_n 0, 1) := by decide +kernel
theorem dX3_rebase_34 : decode cX3_rebase 34 = .ok (.getfield 9, 3) := by decide +kernel
theorem dX3_rebase_37 : decode cX3_rebase 37 = .ok (.iload_n 3, 1) := by decide +kernel
theorem dX3_rebase_38 : decode cX3_rebase 38 = .ok (.invokestatic 120, 3) := by decide +kernel
theorem dX3_rebase_41 : decode cX3_rebase 41 = .ok (.iload_n 2, 1) := by decide +kernel
theorem dX3_rebase_42 : decode cX3_rebase 42 = .ok (.if_icmp .lt 15, 3) := by decide +kernel
theorem dX3_rebase_45 : decode cX3_rebase 45 = .ok (.aload_n 0, 1) := by decide +kernel
theorem dX3_rebase_46 : decode cX3_rebase 46 = .ok (.dup, 1) := by decide +kernel
theorem dX3_rebase_47 : decode cX3_rebase 47 = .ok (.getfield 33, 3) := by decide +kernel
theorem dX3_rebase_50 : decode cX3_rebase 50 = .ok (.lconst 1, 1) := by decide +kernel
theorem dX3_rebase_51 : decode cX3_rebase 51 = .ok (.iload_n 3, 1) := by decide +kernel
theorem dX3_rebase_52 : decode cX3_rebase 52 = .ok (.lshl, 1) := by decide +kernel
theorem dX3_rebase_53 : decode cX3_rebase 53 = .ok (.lor, 1) := by decide +kernel
theorem dX3_rebase_54 : decode cX3_rebase 54 = .ok (.putfield 33, 3) := by decide +kernel
theorem dX3_rebase_57 : decode cX3_rebase 57 = .ok (.iinc 3 1, 3) := by decide +kernel
theorem dX3_rebase_60 : decode cX3_rebase 60 = .ok (.goto (-33), 3) := by decide +kernel
theorem dX3_rebase_63 : decode cX3_rebase 63 = .ok (.return_, 1) := by decide +kernel
theorem dX3_lookAt_0 : decode cX3_lookAt 0 = .ok (.aload_n 0, 1) := by decide +kernel
theorem dX3_lookAt_1 : decode cX3_lookAt 1 = .ok (.getfield 9, 3) := by decide +kernel
theorem dX3_lookAt_4 : decode cX3_lookAt 4 = .ok (.iload_n 1, 1) := by decide +kernel
theorem dX3_lookAt_5 : decode cX3_lookAt 5 = .ok (.invokestatic 120, 3) := by decide +kernel
theorem dX3_lookAt_8 : decode cX3_lookAt 8 = .ok (.istore_n 2, 1) := by decide +kernel
theorem dX3_lookAt_9 : decode cX3_lookAt 9 = .ok (.aload_n 0, 1) := by decide +kernel
theorem dX3_lookAt_10 : decode cX3_lookAt 10 = .ok (.invokevirtual 116, 3) := by decide +kernel
theorem dX3_lookAt_13 : decode cX3_lookAt 13 = .ok (.istore_n 3, 1) := by decide +kernel
theorem dX3_lookAt_14 : decode cX3_lookAt 14 = .ok (.aload_n 0, 1) := by decide +kernel
theorem dX3_lookAt_15 : decode cX3_lookAt 15 = .ok (.iload_n 1, 1) := by decide +kernel
theorem dX3_lookAt_16 : decode cX3_lookAt 16 = .ok (.invokevirtual 126, 3) := by decide +kernel
theorem dX3_lookAt_19 : decode cX3_lookAt 19 = .ok (.ifCond .eq 18, 3) := by decide +kernel
theorem dX3_lookAt_22 : decode cX3_lookAt 22 = .ok (.iconst 2, 1) := by decide +kernel
theorem dX3_lookAt_23 : decode cX3_lookAt 23 = .ok (.iload_n 2, 1) := by decide +kernel
theorem dX3_lookAt_24 : decode cX3_lookAt 24 = .ok (.imul, 1) := by decide +kernel
theorem dX3_lookAt_25 : decode cX3_lookAt 25 = .ok (.iload_n 3, 1) := by decide +kernel
theorem dX3_lookAt_26 : decode cX3_lookAt 26 = .ok (.if_icmp .ge 7, 3) := by decide +kernel
theorem dX3_lookAt_29 : decode cX3_lookAt 29 = .ok (.iconst 1, 1) := by decide +kernel
theorem dX3_lookAt_30 : decode cX3_lookAt 30 = .ok (.goto 21, 3) := by decide +kernel
theorem dX3_lookAt_33 : decode cX3_lookAt 33 = .ok (.iconst 0, 1) := by decide +kernel
theorem dX3_lookAt_34 : decode cX3_lookAt 34 = .ok (.goto 17, 3) := by decide +kernel
theorem dX3_lookAt_37 : decode cX3_lookAt 37 = .ok (.iconst 2, 1) := by decide +kernel
theorem dX3_lookAt_38 : decode cX3_lookAt 38 = .ok (.iload_n 2, 1) := by decide +kernel
theorem dX3_lookAt_39 : decode cX3_lookAt 39 = .ok (.imul, 1) := by decide +kernel
theorem dX3_lookAt_40 : decode cX3_lookAt 40 = .ok (.iconst 3, 1) := by decide +kernel
theorem dX3_lookAt_41 : decode cX3_lookAt 41 = .ok (.iload_n 3, 1) := by decide +kernel
theorem dX3_lookAt_42 : decode cX3_lookAt 42 = .ok (.imul, 1) := by decide +kernel
theorem dX3_lookAt_43 : decode cX3_lookAt 43 = .ok (.if_icmp .lt 7, 3) := by decide +kernel
theorem dX3_lookAt_46 : decode cX3_lookAt 46 = .ok (.iconst 1, 1) := by decide +kernel
theorem dX3_lookAt_47 : decode cX3_lookAt 47 = .ok (.goto 4, 3) := by decide +kernel
theorem dX3_lookAt_50 : decode cX3_lookAt 50 = .ok (.iconst 0, 1) := by decide +kernel
theorem dX3_lookAt_51 : decode cX3_lookAt 51 = .ok (.istore 4, 2) := by decide +kernel
theorem dX3_lookAt_53 : decode cX3_lookAt 53 = .ok (.iload 4, 2) := by decide +kernel
theorem dX3_lookAt_55 : decode cX3_lookAt 55 = .ok (.ifCond .eq 36, 3) := by decide +kernel
theorem dX3_lookAt_58 : decode cX3_lookAt 58 = .ok (.aload_n 0, 1) := by decide +kernel
theorem dX3_lookAt_59 : decode cX3_lookAt 59 = .ok (.dup, 1) := by decide +kernel
theorem dX3_lookAt_60 : decode cX3_lookAt 60 = .ok (.getfield 33, 3) := by decide +kernel
theorem dX3_lookAt_63 : decode cX3_lookAt 63 = .ok (.lconst 1, 1) := by decide +kernel
theorem dX3_lookAt_64 : decode cX3_lookAt 64 = .ok (.iload_n 1, 1) := by decide +kernel
theorem dX3_lookAt_65 : decode cX3_lookAt 65 = .ok (.lshl, 1) := by decide +kernel
theorem dX3_lookAt_66 : decode cX3_lookAt 66 = .ok (.lxor, 1) := by decide +kernel
theorem dX3_lookAt_67 : decode cX3_lookAt 67 = .ok (.putfield 33, 3) := by decide +kernel
theorem dX3_lookAt_70 : decode cX3_lookAt 70 = .ok (.aload_n 0, 1) := by decide +kernel
theorem dX3_lookAt_71 : decode cX3_lookAt 71 = .ok (.dup, 1) := by decide +kernel
theorem dX3_lookAt_72 : decode cX3_lookAt 72 = .ok (.getfield 37, 3) := by decide +kernel
theorem dX3_lookAt_75 : decode cX3_lookAt 75 = .ok (.lconst 1, 1) := by decide +kernel
theorem dX3_lookAt_76 : decode cX3_lookAt 76 = .ok (.ladd, 1) := by decide +kernel
theorem dX3_lookAt_77 : decode cX3_lookAt 77 = .ok (.putfield 37, 3) := by decide +kernel
theorem dX3_lookAt_80 : decode cX3_lookAt 80 = .ok (.aload_n 0, 1) := by decide +kernel
theorem dX3_lookAt_81 : decode cX3_lookAt 81 = .ok (.dup, 1) := by decide +kernel
theorem dX3_lookAt_82 : decode cX3_lookAt 82 = .ok (.getfield 40, 3) := by decide +kernel
theorem dX3_lookAt_85 : decode cX3_lookAt 85 = .ok (.iload_n 2, 1) := by decide +kernel
theorem dX3_lookAt_86 : decode cX3_lookAt 86 = .ok (.i2l, 1) := by decide +kernel
theorem dX3_lookAt_87 : decode cX3_lookAt 87 = .ok (.ladd, 1) := by decide +kernel
theorem dX3_lookAt_88 : decode cX3_lookAt 88 = .ok (.putfield 40, 3) := by decide +kernel
theorem dX3_lookAt_91 : decode cX3_lookAt 91 = .ok (.return_, 1) := by decide +kernel
theorem dX4_init_0 : decode cX4_init 0 = .ok (.aload_n 0, 1) := by decide +kernel
theorem dX4_init_1 : decode cX4_init 1 = .ok (.invokespecial 3, 3) := by decide +kernel
theorem dX4_init_4 : decode cX4_init 4 = .ok (.aload_n 0, 1) := by decide +kernel
theorem dX4_init_5 : decode cX4_init 5 = .ok (.sipush 128, 3) := by decide +kernel
theorem dX4_init_8 : decode cX4_init 8 = .ok (.newarray .byte, 2) := by decide +kernel
theorem dX4_init_10 : decode cX4_init 10 = .ok (.putfield 11, 3) := by decide +kernel
theorem dX4_init_13 : decode cX4_init 13 = .ok (.aload_n 0, 1) := by decide +kernel
theorem dX4_init_14 : decode cX4_init 14 = .ok (.iconst 0, 1) := by decide +kernel
theorem dX4_init_15 : decode cX4_init 15 = .ok (.putfield 15, 3) := by decide +kernel
theorem dX4_init_18 : decode cX4_init 18 = .ok (.return_, 1) := by decide +kernel
theorem dX4_writeEdge_0 : decode cX4_writeEdge 0 = .ok (.aload_n 0, 1) := by decide +kernel
theorem dX4_writeEdge_1 : decode cX4_writeEdge 1 = .ok (.getfield 15, 3) := by decide +kernel
theorem dX4_writeEdge_4 : decode cX4_writeEdge 4 = .ok (.ifCond .le 9, 3) := by decide +kernel
theorem dX4_writeEdge_7 : decode cX4_writeEdge 7 = .ok (.aload_n 0, 1) := by decide +kernel
theorem dX4_writeEdge_8 : decode cX4_writeEdge 8 = .ok (.bipush 59, 2) := by decide +kernel
theorem dX4_writeEdge_10 : decode cX4_writeEdge 10 = .ok (.invokevirtual 19, 3) := by decide +kernel
theorem dX4_writeEdge_13 : decode cX4_writeEdge 13 = .ok (.aload_n 0, 1) := by decide +kernel
theorem dX4_writeEdge_14 : decode cX4_writeEdge 14 = .ok (.bipush 43, 2) := by decide +kernel
theorem dX4_writeEdge_16 : decode cX4_writeEdge 16 = .ok (.invokevirtual 19, 3) := by decide +kernel
theorem dX4_writeEdge_19 : decode cX4_writeEdge 19 = .ok (.aload_n 0, 1) := by decide +kernel
theorem dX4_writeEdge_20 : decode cX4_writeEdge 20 = .ok (.iload_n 1, 1) := by decide +kernel
theorem dX4_writeEdge_21 : decode cX4_writeEdge 21 = .ok (.invokevirtual 23, 3) := by decide +kernel
theorem dX4_writeEdge_24 : decode cX4_writeEdge 24 = .ok (.aload_n 0, 1) := by decide +kernel
theorem dX4_writeEdge_25 : decode cX4_writeEdge 25 = .ok (.bipush 44, 2) := by decide +kernel
theorem dX4_writeEdge_27 : decode cX4_writeEdge 27 = .ok (.invokevirtual 19, 3) := by decide +kernel
theorem dX4_writeEdge_30 : decode cX4_writeEdge 30 = .ok (.aload_n 0, 1) := by decide +kernel
theorem dX4_writeEdge_31 : decode cX4_writeEdge 31 = .ok (.iload_n 2, 1) := by decide +kernel
theorem dX4_writeEdge_32 : decode cX4_writeEdge 32 = .ok (.invokevirtual 23, 3) := by decide +kernel
theorem dX4_writeEdge_35 : decode cX4_writeEdge 35 = .ok (.iload_n 3, 1) := by decide +kernel
theorem dX4_writeEdge_36 : decode cX4_writeEdge 36 = .ok (.iconst 1, 1) := by decide +kernel
theorem dX4_writeEdge_37 : decode cX4_writeEdge 37 = .ok (.if_icmp .eq 27, 3) := by decide +kernel
theorem dX4_writeEdge_40 : decode cX4_writeEdge 40 = .ok (.aload_n 0, 1) := by decide +kernel
theorem dX4_writeEdge_41 : decode cX4_writeEdge 41 = .ok (.bipush 61, 2) := by decide +kernel
theorem dX4_writeEdge_43 : decode cX4_writeEdge 43 = .ok (.invokevirtual 19, 3) := by decide +kernel
theorem dX4_writeEdge_46 : decode cX4_writeEdge 46 = .ok (.iload_n 3, 1) := by decide +kernel
theorem dX4_writeEdge_47 : decode cX4_writeEdge 47 = .ok (.ifCond .ge 9, 3) := by decide +kernel
theorem dX4_writeEdge_50 : decode cX4_writeEdge 50 = .ok (.aload_n 0, 1) := by decide +kernel
theorem dX4_writeEdge_51 : decode cX4_writeEdge 51 = .ok (.bipush 45, 2) := by decide +kernel
theorem dX4_writeEdge_53 : decode cX4_writeEdge 53 = .ok (.invokevirtual 19, 3) := by decide +kernel
theorem dX4_writeEdge_56 : decode cX4_writeEdge 56 = .ok (.aload_n 0, 1) := by decide +kernel
theorem dX4_writeEdge_57 : decode cX4_writeEdge 57 = .ok (.iload_n 3, 1) := by decide +kernel
theorem dX4_writeEdge_58 : decode cX4_writeEdge 58 = .ok (.invokestatic 26, 3) := by decide +kernel
theorem dX4_writeEdge_61 : decode cX4_writeEdge 61 = .ok (.invokevirtual 23, 3) := by decide +kernel
theorem dX4_writeEdge_64 : decode cX4_writeEdge 64 = .ok (.return_, 1) := by decide +kernel
theorem dX4_writeNumber_0 : decode cX4_writeNumber 0 = .ok (.iconst 0, 1) := by decide +kernel
theorem dX4_writeNumber_1 : decode cX4_writeNumber 1 = .ok (.istore_n 2, 1) := by decide +kernel
theorem dX4_writeNumber_2 : decode cX4_writeNumber 2 = .ok (.ldc 32, 2) := by decide +kernel
theorem dX4_writeNumber_4 : decode cX4_writeNumber 4 = .ok (.istore_n 3, 1) := by decide +kernel
theorem dX4_writeNumber_5 : decode cX4_writeNumber 5 = .ok (.iload_n 3, 1) := by decide +kernel
theorem dX4_writeNumber_6 : decode cX4_writeNumber 6 = .ok (.ifCond .le 48, 3) := by decide +kernel
theorem dX4_writeNumber_9 : decode cX4_writeNumber 9 = .ok (.iload_n 2, 1) := by decide +kernel
theorem dX4_writeNumber_10 : decode cX4_writeNumber 10 = .ok (.ifCond .ne 13, 3) := by decide +kernel
theorem dX4_writeNumber_13 : decode cX4_writeNumber 13 = .ok (.iload_n 1, 1) := by decide +kernel
theorem dX4_writeNumber_14 : decode cX4_writeNumber 14 = .ok (.iload_n 3, 1) := by decide +kernel
theorem dX4_writeNumber_15 : decode cX4_writeNumber 15 = .ok (.if_icmp .ge 8, 3) := by decide +kernel
theorem dX4_writeNumber_18 : decode cX4_writeNumber 18 = .ok (.iload_n 3, 1) := by decide +kernel
theorem dX4_writeNumber_19 : decode cX4_writeNumber 19 = .ok (.iconst 1, 1) := by decide +kernel
theorem dX4_writeNumber_20 : decode cX4_writeNumber 20 = .ok (.if_icmp .ne 7, 3) := by decide +kernel
theorem dX4_writeNumber_23 : decode cX4_writeNumber 23 = .ok (.iconst 1, 1) := by decide +kernel
theorem dX4_writeNumber_24 : decode cX4_writeNumber 24 = .ok (.goto 4, 3) := by decide +kernel
theorem dX4_writeNumber_27 : decode cX4_writeNumber 27 = .ok (.iconst 0, 1) := by decide +kernel
theorem dX4_writeNumber_28 : decode cX4_writeNumber 28 = .ok (.istore_n 2, 1) := by decide +kernel
theorem dX4_writeNumber_29 : decode cX4_writeNumber 29 = .ok (.iload_n 2, 1) := by decide +kernel
theorem dX4_writeNumber_30 : decode cX4_writeNumber 30 = .ok (.ifCond .eq 16, 3) := by decide +kernel
theorem dX4_writeNumber_33 : decode cX4_writeNumber 33 = .ok (.aload_n 0, 1) := by decide +kernel
theorem dX4_writeNumber_34 : decode cX4_writeNumber 34 = .ok (.bipush 48, 2) := by decide +kernel
theorem dX4_writeNumber_36 : decode cX4_writeNumber 36 = .ok (.iload_n 1, 1) := by decide +kernel
theorem dX4_writeNumber_37 : decode cX4_writeNumber 37 = .ok (.iload_n 3, 1) := by decide +kernel
theorem dX4_writeNumber_38 : decode cX4_writeNumber 38 = .ok (.idiv, 1) := by decide +kernel
theorem dX4_writeNumber_39 : decode cX4_writeNumber 39 = .ok (.bipush 10, 2) := by decide +kernel
theorem dX4_writeNumber_41 : decode cX4_writeNumber 41 = .ok (.irem, 1) := by decide +kernel
theorem dX4_writeNumber_42 : decode cX4_writeNumber 42 = .ok (.iadd, 1) := by decide +kernel
theorem dX4_writeNumber_43 : decode cX4_writeNumber 43 = .ok (.invokevirtual 19, 3) := by decide +kernel
theorem dX4_writeNumber_46 : decode cX4_writeNumber 46 = .ok (.iload_n 3, 1) := by decide +kernel
theorem dX4_writeNumber_47 : decode cX4_writeNumber 47 = .ok (.bipush 10, 2) := by decide +kernel
theorem dX4_writeNumber_49 : decode cX4_writeNumber 49 = .ok (.idiv, 1) := by decide +kernel
theorem dX4_writeNumber_50 : decode cX4_writeNumber 50 = .ok (.istore_n 3, 1) := by decide +kernel
theorem dX4_writeNumber_51 : decode cX4_writeNumber 51 = .ok (.goto (-46), 3) := by decide +kernel
theorem dX4_writeNumber_54 : decode cX4_writeNumber 54 = .ok (.return_, 1) := by decide +kernel
theorem dX4_write_0 : decode cX4_write 0 = .ok (.aload_n 0, 1) := by decide +kernel
theorem dX4_write_1 : decode cX4_write 1 = .ok (.getfield 15, 3) := by decide +kernel
theorem dX4_write_4 : decode cX4_write 4 = .ok (.sipush 12480, 3) := by decide +kernel
theorem dX4_write_7 : decode cX4_write 7 = .ok (.if_icmp .lt 4, 3) := by decide +kernel
theorem dX4_write_10 : decode cX4_write 10 = .ok (.return_, 1) := by decide +kernel
theorem dX4_write_11 : decode cX4_write 11 = .ok (.aload_n 0, 1) := by decide +kernel
theorem dX4_write_12 : decode cX4_write 12 = .ok (.getfield 15, 3) := by decide +kernel
theorem dX4_write_15 : decode cX4_write 15 = .ok (.aload_n 0, 1) := by decide +kernel
theorem dX4_write_16 : decode cX4_write 16 = .ok (.getfield 11, 3) := by decide +kernel
theorem dX4_write_19 : decode cX4_write 19 = .ok (.arraylength, 1) := by decide +kernel
theorem dX4_write_20 : decode cX4_write 20 = .ok (.if_icmp .lt 21, 3) := by decide +kernel
theorem dX4_write_23 : decode cX4_write 23 = .ok (.aload_n 0, 1) := by decide +kernel
theorem dX4_write_24 : decode cX4_write 24 = .ok (.aload_n 0, 1) := by decide +kernel
theorem dX4_write_25 : decode cX4_write 25 = .ok (.getfield 11, 3) := by decide +kernel
theorem dX4_write_28 : decode cX4_write 28 = .ok (.iconst 2, 1) := by decide +kernel
theorem dX4_write_29 : decode cX4_write 29 = .ok (.aload_n 0, 1) := by decide +kernel
theorem dX4_write_30 : decode cX4_write 30 = .ok (.getfield 11, 3) := by decide +kernel
theorem dX4_write_33 : decode cX4_write 33 = .ok (.arraylength, 1) := by decide +kernel
theorem dX4_write_34 : decode cX4_write 34 = .ok (.imul, 1) := by decide +kernel
theorem dX4_write_35 : decode cX4_write 35 = .ok (.invokestatic 33, 3) := by decide +kernel
theorem dX4_write_38 : decode cX4_write 38 = .ok (.putfield 11, 3) := by decide +kernel
theorem dX4_write_41 : decode cX4_write 41 = .ok (.aload_n 0, 1) := by decide +kernel
theorem dX4_write_42 : decode cX4_write 42 = .ok (.getfield 11, 3) := by decide +kernel
theorem dX4_write_45 : decode cX4_write 45 = .ok (.aload_n 0, 1) := by decide +kernel
theorem dX4_write_46 : decode cX4_write 46 = .ok (.getfield 15, 3) := by decide +kernel
theorem dX4_write_49 : decode cX4_write 49 = .ok (.iload_n 1, 1) := by decide +kernel
theorem dX4_write_50 : decode cX4_write 50 = .ok (.i2b, 1) := by decide +kernel
theorem dX4_write_51 : decode cX4_write 51 = .ok (.bastore, 1) := by decide +kernel
theorem dX4_write_52 : decode cX4_write 52 = .ok (.aload_n 0, 1) := by decide +kernel
theorem dX4_write_53 : decode cX4_write 53 = .ok (.dup, 1) := by decide +kernel
theorem dX4_write_54 : decode cX4_write 54 = .ok (.getfield 15, 3) := by decide +kernel
theorem dX4_write_57 : decode cX4_write 57 = .ok (.iconst 1, 1) := by decide +kernel
theorem dX4_write_58 : decode cX4_write 58 = .ok (.iadd, 1) := by decide +kernel
theorem dX4_write_59 : decode cX4_write 59 = .ok (.putfield 15, 3) := by decide +kernel
theorem dX4_write_62 : decode cX4_write 62 = .ok (.return_, 1) := by decide +kernel
theorem dX5_init_0 : decode cX5_init 0 = .ok (.aload_n 0, 1) := by decide +kernel
theorem dX5_init_1 : decode cX5_init 1 = .ok (.invokespecial 3, 3) := by decide +kernel
theorem dX5_init_4 : decode cX5_init 4 = .ok (.aload_n 0, 1) := by decide +kernel
theorem dX5_init_5 : decode cX5_init 5 = .ok (.sipush 240, 3) := by decide +kernel
theorem dX5_init_8 : decode cX5_init 8 = .ok (.newarray .int, 2) := by decide +kernel
theorem dX5_init_10 : decode cX5_init 10 = .ok (.putfield 11, 3) := by decide +kernel
theorem dX5_init_13 : decode cX5_init 13 = .ok (.aload_n 0, 1) := by decide +kernel
theorem dX5_init_14 : decode cX5_init 14 = .ok (.iconst 0, 1) := by decide +kernel
theorem dX5_init_15 : decode cX5_init 15 = .ok (.putfield 15, 3) := by decide +kernel
theorem dX5_init_18 : decode cX5_init 18 = .ok (.return_, 1) := by decide +kernel
theorem dX5_keep_0 : decode cX5_keep 0 = .ok (.aload_n 0, 1) := by decide +kernel
theorem dX5_keep_1 : decode cX5_keep 1 = .ok (.getfield 15, 3) := by decide +kernel
theorem dX5_keep_4 : decode cX5_keep 4 = .ok (.bipush 60, 2) := by decide +kernel
theorem dX5_keep_6 : decode cX5_keep 6 = .ok (.if_icmp .lt 25, 3) := by decide +kernel
theorem dX5_keep_9 : decode cX5_keep 9 = .ok (.aload_n 0, 1) := by decide +kernel
theorem dX5_keep_10 : decode cX5_keep 10 = .ok (.getfield 11, 3) := by decide +kernel
theorem dX5_keep_13 : decode cX5_keep 13 = .ok (.iconst 4, 1) := by decide +kernel
theorem dX5_keep_14 : decode cX5_keep 14 = .ok (.aload_n 0, 1) := by decide +kernel
theorem dX5_keep_15 : decode cX5_keep 15 = .ok (.getfield 11, 3) := by decide +kernel
theorem dX5_keep_18 : decode cX5_keep 18 = .ok (.iconst 0, 1) := by decide +kernel
theorem dX5_keep_19 : decode cX5_keep 19 = .ok (.sipush 236, 3) := by decide +kernel
theorem dX5_keep_22 : decode cX5_keep 22 = .ok (.invokestatic 19, 3) := by decide +kernel
theorem dX5_keep_25 : decode cX5_keep 25 = .ok (.aload_n 0, 1) := by decide +kernel
theorem dX5_keep_26 : decode cX5_keep 26 = .ok (.bipush 59, 2) := by decide +kernel
theorem dX5_keep_28 : decode cX5_keep 28 = .ok (.putfield 15, 3) := by decide +kernel
theorem dX5_keep_31 : decode cX5_keep 31 = .ok (.aload_n 0, 1) := by decide +kernel
theorem dX5_keep_32 : decode cX5_keep 32 = .ok (.getfield 15, 3) := by decide +kernel
theorem dX5_keep_35 : decode cX5_keep 35 = .ok (.iconst 4, 1) := by decide +kernel
theorem dX5_keep_36 : decode cX5_keep 36 = .ok (.imul, 1) := by decide +kernel
theorem dX5_keep_37 : decode cX5_keep 37 = .ok (.istore 5, 2) := by decide +kernel
theorem dX5_keep_39 : decode cX5_keep 39 = .ok (.aload_n 0, 1) := by decide +kernel
theorem dX5_keep_40 : decode cX5_keep 40 = .ok (.getfield 11, 3) := by decide +kernel
theorem dX5_keep_43 : decode cX5_keep 43 = .ok (.iload 5, 2) := by decide +kernel
theorem dX5_keep_45 : decode cX5_keep 45 = .ok (.iload_n 1, 1) := by decide +kernel
theorem dX5_keep_46 : decode cX5_keep 46 = .ok (.ifCond .eq 7, 3) := by decide +kernel
theorem dX5_keep_49 : decode cX5_keep 49 = .ok (.iconst 1, 1) := by decide +kernel
theorem dX5_keep_50 : decode cX5_keep 50 = .ok (.goto 4, 3) := by decide +kernel
theorem dX5_keep_53 : decode cX5_keep 53 = .ok (.iconst 0, 1) := by decide +kernel
theorem dX5_keep_54 : decode cX5_keep 54 = .ok (.iastore, 1) := by decide +kernel
theorem dX5_keep_55 : decode cX5_keep 55 = .ok (.aload_n 0, 1) := by decide +kernel
theorem dX5_keep_56 : decode cX5_keep 56 = .ok (.getfield 11, 3) := by decide +kernel
theorem dX5_keep_59 : decode cX5_keep 59 = .ok (.iload 5, 2) := by decide +kernel
theorem dX5_keep_61 : decode cX5_keep 61 = .ok (.iconst 1, 1) := by decide +kernel
theorem dX5_keep_62 : decode cX5_keep 62 = .ok (.iadd, 1) := by decide +kernel
theorem dX5_keep_63 : decode cX5_keep 63 = .ok (.iload_n 2, 1) := by decide +kernel
theorem dX5_keep_64 : decode cX5_keep 64 = .ok (.iastore, 1) := by decide +kernel
theorem dX5_keep_65 : decode cX5_keep 65 = .ok (.aload_n 0, 1) := by decide +kernel
theorem dX5_keep_66 : decode cX5_keep 66 = .ok (.getfield 11, 3) := by decide +kernel
theorem dX5_keep_69 : decode cX5_keep 69 = .ok (.iload 5, 2) := by decide +kernel
theorem dX5_keep_71 : decode cX5_keep 71 = .ok (.iconst 2, 1) := by decide +kernel
theorem dX5_keep_72 : decode cX5_keep 72 = .ok (.iadd, 1) := by decide +kernel
theorem dX5_keep_73 : decode cX5_keep 73 = .ok (.iload_n 3, 1) := by decide +kernel
theorem dX5_keep_74 : decode cX5_keep 74 = .ok (.iastore, 1) := by decide +kernel
theorem dX5_keep_75 : decode cX5_keep 75 = .ok (.aload_n 0, 1) := by decide +kernel
theorem dX5_keep_76 : decode cX5_keep 76 = .ok (.getfield 11, 3) := by decide +kernel
theorem dX5_keep_79 : decode cX5_keep 79 = .ok (.iload 5, 2) := by decide +kernel
theorem dX5_keep_81 : decode cX5_keep 81 = .ok (.iconst 3, 1) := by decide +kernel
theorem dX5_keep_82 : decode cX5_keep 82 = .ok (.iadd, 1) := by decide +kernel
theorem dX5_keep_83 : decode cX5_keep 83 = .ok (.iload 4, 2) := by decide +kernel
theorem dX5_keep_85 : decode cX5_keep 85 = .ok (.iastore, 1) := by decide +kernel
theorem dX5_keep_86 : decode cX5_keep 86 = .ok (.aload_n 0, 1) := by decide +kernel
theorem dX5_keep_87 : decode cX5_keep 87 = .ok (.dup, 1) := by decide +kernel
theorem dX5_keep_88 : decode cX5_keep 88 = .ok (.getfield 15, 3) := by decide +kernel
theorem dX5_keep_91 : decode cX5_keep 91 = .ok (.iconst 1, 1) := by decide +kernel
theorem dX5_keep_92 : decode cX5_keep 92 = .ok (.iadd, 1) := by decide +kernel
theorem dX5_keep_93 : decode cX5_keep 93 = .ok (.putfield 15, 3) := by decide +kernel
theorem dX5_keep_96 : decode cX5_keep 96 = .ok (.return_, 1) := by decide +kernel
theorem dX5_hadCome_0 : decode cX5_hadCome 0 = .ok (.aload_n 0, 1) := by decide +kernel
theorem dX5_hadCome_1 : decode cX5_hadCome 1 = .ok (.getfield 11, 3) := by decide +kernel
theorem dX5_hadCome_4 : decode cX5_hadCome 4 = .ok (.iload_n 1, 1) := by decide +kernel
theorem dX5_hadCome_5 : decode cX5_hadCome 5 = .ok (.iconst 4, 1) := by decide +kernel
theorem dX5_hadCome_6 : decode cX5_hadCome 6 = .ok (.imul, 1) := by decide +kernel
theorem dX5_hadCome_7 : decode cX5_hadCome 7 = .ok (.iaload, 1) := by decide +kernel
theorem dX5_hadCome_8 : decode cX5_hadCome 8 = .ok (.iconst 1, 1) := by decide +kernel
theorem dX5_hadCome_9 : decode cX5_hadCome 9 = .ok (.if_icmp .ne 7, 3) := by decide +kernel
theorem dX5_hadCome_12 : decode cX5_hadCome 12 = .ok (.iconst 1, 1) := by decide +kernel
theorem dX5_hadCome_13 : decode cX5_hadCome 13 = .ok (.goto 4, 3) := by decide +kernel
theorem dX5_hadCome_16 : decode cX5_hadCome 16 = .ok (.iconst 0, 1) := by decide +kernel
theorem dX5_hadCome_17 : decode cX5_hadCome 17 = .ok (.ireturn, 1) := by decide +kernel
theorem dX5_firstOf_0 : decode cX5_firstOf 0 = .ok (.aload_n 0, 1) := by decide +kernel
theorem dX5_firstOf_1 : decode cX5_firstOf 1 = .ok (.getfield 11, 3) := by decide +kernel
theorem dX5_firstOf_4 : decode cX5_firstOf 4 = .ok (.iload_n 1, 1) := by decide +kernel
theorem dX5_firstOf_5 : decode cX5_firstOf 5 = .ok (.iconst 4, 1) := by decide +kernel
theorem dX5_firstOf_6 : decode cX5_firstOf 6 = .ok (.imul, 1) := by decide +kernel
theorem dX5_firstOf_7 : decode cX5_firstOf 7 = .ok (.iconst 1, 1) := by decide +kernel
theorem dX5_firstOf_8 : decode cX5_firstOf 8 = .ok (.iadd, 1) := by decide +kernel
theorem dX5_firstOf_9 : decode cX5_firstOf 9 = .ok (.iaload, 1) := by decide +kernel
theorem dX5_firstOf_10 : decode cX5_firstOf 10 = .ok (.ireturn, 1) := by decide +kernel
theorem dX5_secondOf_0 : decode cX5_secondOf 0 = .ok (.aload_n 0, 1) := by decide +kernel
theorem dX5_secondOf_1 : decode cX5_secondOf 1 = .ok (.getfield 11, 3) := by decide +kernel
theorem dX5_secondOf_4 : decode cX5_secondOf 4 = .ok (.iload_n 1, 1) := by decide +kernel
theorem dX5_secondOf_5 : decode cX5_secondOf 5 = .ok (.iconst 4, 1) := by decide +kernel
theorem dX5_secondOf_6 : decode cX5_secondOf 6 = .ok (.imul, 1) := by decide +kernel
theorem dX5_secondOf_7 : decode cX5_secondOf 7 = .ok (.iconst 2, 1) := by decide +kernel
theorem dX5_secondOf_8 : decode cX5_secondOf 8 = .ok (.iadd, 1) := by decide +kernel
theorem dX5_secondOf_9 : decode cX5_secondOf 9 = .ok (.iaload, 1) := by decide +kernel
theorem dX5_secondOf_10 : decode cX5_secondOf 10 = .ok (.ireturn, 1) := by decide +kernel
theorem dX5_worthOf_0 : decode cX5_worthOf 0 = .ok (.aload_n 0, 1) := by decide +kernel
theorem dX5_worthOf_1 : decode cX5_worthOf 1 = .ok (.getfield 11, 3) := by decide +kernel
theorem dX5_worthOf_4 : decode cX5_worthOf 4 = .ok (.iload_n 1, 1) := by decide +kernel
theorem dX5_worthOf_5 : decode cX5_worthOf 5 = .ok (.iconst 4, 1) := by decide +kernel
theorem dX5_worthOf_6 : decode cX5_worthOf 6 = .ok (.imul, 1) := by decide +kernel
theorem dX5_worthOf_7 : decode cX5_worthOf 7 = .ok (.iconst 3, 1) := by decide +kernel
theorem dX5_worthOf_8 : decode cX5_worthOf 8 = .ok (.iadd, 1) := by decide +kernel
theorem dX5_worthOf_9 : decode cX5_worthOf 9 = .ok (.iaload, 1) := by decide +kernel
theorem dX5_worthOf_10 : decode cX5_worthOf 10 = .ok (.ireturn, 1) := by decide +kernel
theorem dX5_become_0 : decode cX5_become 0 = .ok (.aload_n 1, 1) := by decide +kernel
theorem dX5_become_1 : decode cX5_become 1 = .ok (.getfield 11, 3) := by decide +kernel
theorem dX5_become_4 : decode cX5_become 4 = .ok (.iconst 0, 1) := by decide +kernel
theorem dX5_become_5 : decode cX5_become 5 = .ok (.aload_n 0, 1) := by decide +kernel
theorem dX5_become_6 : decode cX5_become 6 = .ok (.getfield 11, 3) := by decide +kernel
theorem dX5_become_9 : decode cX5_become 9 = .ok (.iconst 0, 1) := by decide +kernel
theorem dX5_become_10 : decode cX5_become 10 = .ok (.aload_n 0, 1) := by decide +kernel
theorem dX5_become_11 : decode cX5_become 11 = .ok (.getfield 11, 3) := by decide +kernel
theorem dX5_become_14 : decode cX5_become 14 = .ok (.arraylength, 1) := by decide +kernel
theorem dX5_become_15 : decode cX5_become 15 = .ok (.invokestatic 19, 3) := by decide +kernel
theorem dX5_become_18 : decode cX5_become 18 = .ok (.aload_n 0, 1) := by decide +kernel
theorem dX5_become_19 : decode cX5_become 19 = .ok (.aload_n 1, 1) := by decide +kernel
theorem dX5_become_20 : decode cX5_become 20 = .ok (.getfield 15, 3) := by decide +kernel
theorem dX5_become_23 : decode cX5_become 23 = .ok (.putfield 15, 3) := by decide +kernel
theorem dX5_become_26 : decode cX5_become 26 = .ok (.return_, 1) := by decide +kernel
theorem dX6_init_0 : decode cX6_init 0 = .ok (.aload_n 0, 1) := by decide +kernel
theorem dX6_init_1 : decode cX6_init 1 = .ok (.invokespecial 3, 3) := by decide +kernel
theorem dX6_init_4 : decode cX6_init 4 = .ok (.aload_n 0, 1) := by decide +kernel
theorem dX6_init_5 : decode cX6_init 5 = .ok (.bipush 40, 2) := by decide +kernel
theorem dX6_init_7 : decode cX6_init 7 = .ok (.newarray .long, 2) := by decide +kernel
theorem dX6_init_9 : decode cX6_init 9 = .ok (.putfield 9, 3) := by decide +kernel
theorem dX6_init_12 : decode cX6_init 12 = .ok (.aload_n 0, 1) := by decide +kernel
theorem dX6_init_13 : decode cX6_init 13 = .ok (.bipush 40, 2) := by decide +kernel
theorem dX6_init_15 : decode cX6_init 15 = .ok (.newarray .long, 2) := by decide +kernel
theorem dX6_init_17 : decode cX6_init 17 = .ok (.putfield 15, 3) := by decide +kernel
theorem dX6_init_20 : decode cX6_init 20 = .ok (.aload_n 0, 1) := by decide +kernel
theorem dX6_init_21 : decode cX6_init 21 = .ok (.sipush 1600, 3) := by decide +kernel
theorem dX6_init_24 : decode cX6_init 24 = .ok (.newarray .int, 2) := by decide +kernel
theorem dX6_init_26 : decode cX6_init 26 = .ok (.putfield 18, 3) := by decide +kernel
theorem dX6_init_29 : decode cX6_init 29 = .ok (.aload_n 0, 1) := by decide +kernel
theorem dX6_init_30 : decode cX6_init 30 = .ok (.sipush 1600, 3) := by decide +kernel
theorem dX6_init_33 : decode cX6_init 33 = .ok (.newarray .int, 2) := by decide +kernel
theorem dX6_init_35 : decode cX6_init 35 = .ok (.putfield 22, 3) := by decide +kernel
theorem dX6_init_38 : decode cX6_init 38 = .ok (.aload_n 0, 1) := by decide +kernel
theorem dX6_init_39 : decode cX6_init 39 = .ok (.sipush 1600, 3) := by decide +kernel
theorem dX6_init_42 : decode cX6_init 42 = .ok (.newarray .int, 2) := by decide +kernel
theorem dX6_init_44 : decode cX6_init 44 = .ok (.putfield 25, 3) := by decide +kernel
theorem dX6_init_47 : decode cX6_init 47 = .ok (.aload_n 0, 1) := by decide +kernel
theorem dX6_init_48 : decode cX6_init 48 = .ok (.sipush 780, 3) := by decide +kernel
theorem dX6_init_51 : decode cX6_init 51 = .ok (.newarray .int, 2) := by decide +kernel
theorem dX6_init_53 : decode cX6_init 53 = .ok (.putfield 28, 3) := by decide +kernel
theorem dX6_init_56 : decode cX6_init 56 = .ok (.aload_n 0, 1) := by decide +kernel
theorem dX6_init_57 : decode cX6_init 57 = .ok (.sipush 780, 3) := by decide +kernel
theorem dX6_init_60 : decode cX6_init 60 = .ok (.newarray .int, 2) := by decide +kernel
theorem dX6_init_62 : decode cX6_init 62 = .ok (.putfield 31, 3) := by decide +kernel
theorem dX6_init_65 : decode cX6_init 65 = .ok (.aload_n 0, 1) := by decide +kernel
theorem dX6_init_66 : decode cX6_init 66 = .ok (.sipush 1600, 3) := by decide +kernel
theorem dX6_init_69 : decode cX6_init 69 = .ok (.newarray .int, 2) := by decide +kernel
theorem dX6_init_71 : decode cX6_init 71 = .ok (.putfield 34, 3) := by decide +kernel
theorem dX6_init_74 : decode cX6_init 74 = .ok (.aload_n 0, 1) := by decide +kernel
theorem dX6_init_75 : decode cX6_init 75 = .ok (.iconst 0, 1) := by decide +kernel
theorem dX6_init_76 : decode cX6_init 76 = .ok (.putfield 37, 3) := by decide +kernel
theorem dX6_init_79 : decode cX6_init 79 = .ok (.return_, 1) := by decide +kernel
theorem dX6_follow_0 : decode cX6_follow 0 = .ok (.iconst 1, 1) := by decide +kernel
theorem dX6_follow_1 : decode cX6_follow 1 = .ok (.istore_n 2, 1) := by decide +kernel
theorem dX6_follow_2 : decode cX6_follow 2 = .ok (.iconst 0, 1) := by decide +kernel
theorem dX6_follow_3 : decode cX6_follow 3 = .ok (.istore_n 3, 1) := by decide +kernel
theorem dX6_follow_4 : decode cX6_follow 4 = .ok (.iload_n 3, 1) := by decide +kernel
theorem dX6_follow_5 : decode cX6_follow 5 = .ok (.bipush 40, 2) := by decide +kernel
theorem dX6_follow_7 : decode cX6_follow 7 = .ok (.if_icmp .ge 32, 3) := by decide +kernel
theorem dX6_follow_10 : decode cX6_follow 10 = .ok (.iload_n 2, 1) := by decide +kernel
theorem dX6_follow_11 : decode cX6_follow 11 = .ok (.ifCond .eq 20, 3) := by decide +kernel
theorem dX6_follow_14 : decode cX6_follow 14 = .ok (.aload_n 0, 1) := by decide +kernel
theorem dX6_follow_15 : decode cX6_follow 15 = .ok (.getfield 9, 3) := by decide +kernel
theorem dX6_follow_18 : decode cX6_follow 18 = .ok (.iload_n 3, 1) := by decide +kernel
theorem dX6_follow_19 : decode cX6_follow 19 = .ok (.laload, 1) := by decide +kernel
theorem dX6_follow_20 : decode cX6_follow 20 = .ok (.aload_n 1, 1) := by decide +kernel
theorem dX6_follow_21 : decode cX6_follow 21 = .ok (.iload_n 3, 1) := by decide +kernel
theorem dX6_follow_22 : decode cX6_follow 22 = .ok (.laload, 1) := by decide +kernel
theorem dX6_follow_23 : decode cX6_follow 23 = .ok (.lcmp, 1) := by decide +kernel
theorem dX6_follow_24 : decode cX6_follow 24 = .ok (.ifCond .ne 7, 3) := by decide +kernel
theorem dX6_follow_27 : decode cX6_follow 27 = .ok (.iconst 1, 1) := by decide +kernel
theorem dX6_follow_28 : decode cX6_follow 28 = .ok (.goto 4, 3) := by decide +kernel
theorem dX6_follow_31 : decode cX6_follow 31 = .ok (.iconst 0, 1) := by decide +kernel
theorem dX6_follow_32 : decode cX6_follow 32 = .ok (.istore_n 2, 1) := by decide +kernel
theorem dX6_follow_33 : decode cX6_follow 33 = .ok (.iinc 3 1, 3) := by decide +kernel
theorem dX6_follow_36 : decode cX6_follow 36 = .ok (.goto (-32), 3) := by decide +kernel
theorem dX6_follow_39 : decode cX6_follow 39 = .ok (.iload_n 2, 1) := by decide +kernel
theorem dX6_follow_40 : decode cX6_follow 40 = .ok (.ifCond .ne 23, 3) := by decide +kernel
theorem dX6_follow_43 : decode cX6_follow 43 = .ok (.aload_n 1, 1) := by decide +kernel
theorem dX6_follow_44 : decode cX6_follow 44 = .ok (.iconst 0, 1) := by decide +kernel
theorem dX6_follow_45 : decode cX6_follow 45 = .ok (.aload_n 0, 1) := by decide +kernel
theorem dX6_follow_46 : decode cX6_follow 46 = .ok (.getfield 9, 3) := by decide +kernel
theorem dX6_follow_49 : decode cX6_follow 49 = .ok (.iconst 0, 1) := by decide +kernel
theorem dX6_follow_50 : decode cX6_follow 50 = .ok (.bipush 40, 2) := by decide +kernel
theorem dX6_follow_52 : decode cX6_follow 52 = .ok (.invokestatic 41, 3) := by decide +kernel
theorem dX6_follow_55 : decode cX6_follow 55 = .ok (.aload_n 0, 1) := by decide +kernel
theorem dX6_follow_56 : decode cX6_follow 56 = .ok (.invokevirtual 47, 3) := by decide +kernel
theorem dX6_follow_59 : decode cX6_follow 59 = .ok (.aload_n 0, 1) := by decide +kernel
theorem dX6_follow_60 : decode cX6_follow 60 = .ok (.invokevirtual 50, 3) := by decide +kernel
theorem dX6_follow_63 : decode cX6_follow 63 = .ok (.return_, 1) := by decide +kernel
theorem dX6_gather_0 : decode cX6_gather 0 = .ok (.aload_n 0, 1) := by decide +kernel
theorem dX6_gather_1 : decode cX6_gather 1 = .ok (.getfield 9, 3) := by decide +kernel
theorem dX6_gather_4 : decode cX6_gather 4 = .ok (.iconst 0, 1) := by decide +kernel
theorem dX6_gather_5 : decode cX6_gather 5 = .ok (.aload_n 0, 1) := by decide +kernel
theorem dX6_gather_6 : decode cX6_gather 6 = .ok (.getfield 15, 3) := by decide +kernel
theorem dX6_gather_9 : decode cX6_gather 9 = .ok (.iconst 0, 1) := by decide +kernel
theorem dX6_gather_10 : decode cX6_gather 10 = .ok (.bipush 40, 2) := by decide +kernel
theorem dX6_gather_12 : decode cX6_gather 12 = .ok (.invokestatic 41, 3) := by decide +kernel
theorem dX6_gather_15 : decode cX6_gather 15 = .ok (.aload_n 0, 1) := by decide +kernel
theorem dX6_gather_16 : decode cX6_gather 16 = .ok (.iconst 0, 1) := by decide +kernel
theorem dX6_gather_17 : decode cX6_gather 17 = .ok (.putfield 37, 3) := by decide +kernel
theorem dX6_gather_20 : decode cX6_gather 20 = .ok (.iconst 0, 1) := by decide +kernel
theorem dX6_gather_21 : decode cX6_gather 21 = .ok (.istore_n 1, 1) := by decide +kernel
theorem dX6_gather_22 : decode cX6_gather 22 = .ok (.iload_n 1, 1) := by decide +kernel
theorem dX6_gather_23 : decode cX6_gather 23 = .ok (.bipush 40, 2) := by decide +kernel
theorem dX6_gather_25 : decode cX6_gather 25 = .ok (.if_icmp .ge 89, 3) := by decide +kernel
theorem dX6_gather_28 : decode cX6_gather 28 = .ok (.iload_n 1, 1) := by decide +kernel
theorem dX6_gather_29 : decode cX6_gather 29 = .ok (.iconst 1, 1) := by decide +kernel
theorem dX6_gather_30 : decode cX6_gather 30 = .ok (.iadd, 1) := by decide +kernel
theorem dX6_gather_31 : decode cX6_gather 31 = .ok (.istore_n 2, 1) := by decide +kernel
theorem dX6_gather_32 : decode cX6_gather 32 = .ok (.iload_n 2, 1) := by decide +kernel
theorem dX6_gather_33 : decode cX6_gather 33 = .ok (.bipush 40, 2) := by decide +kernel
theorem dX6_gather_35 : decode cX6_gather 35 = .ok (.if_icmp .ge 73, 3) := by decide +kernel
theorem dX6_gather_38 : decode cX6_gather 38 = .ok (.aload_n 0, 1) := by decide +kernel
theorem dX6_gather_39 : decode cX6_gather 39 = .ok (.getfield 9, 3) := by decide +kernel
theorem dX6_gather_42 : decode cX6_gather 42 = .ok (.iload_n 1, 1) := by decide +kernel
theorem dX6_gather_43 : decode cX6_gather 43 = .ok (.laload, 1) := by decide +kernel
theorem dX6_gather_44 : decode cX6_gather 44 = .ok (.iload_n 2, 1) := by decide +kernel
theorem dX6_gather_45 : decode cX6_gather 45 = .ok (.invokestatic 53, 3) := by decide +kernel
theorem dX6_gather_48 : decode cX6_gather 48 = .ok (.ifCond .eq 54, 3) := by decide +kernel
theorem dX6_gather_51 : decode cX6_gather 51 = .ok (.aload_n 0, 1) := by decide +kernel
theorem dX6_gather_52 : decode cX6_gather 52 = .ok (.getfield 37, 3) := by decide +kernel
theorem dX6_gather_55 : decode cX6_gather 55 = .ok (.sipush 780, 3) := by decide +kernel
theorem dX6_gather_58 : decode cX6_gather 58 = .ok (.if_icmp .ge 44, 3) := by decide +kernel
theorem dX6_gather_61 : decode cX6_gather 61 = .ok (.iload_n 1, 1) := by decide +kernel
theorem dX6_gather_62 : decode cX6_gather 62 = .ok (.iload_n 2, 1) := by decide +kernel
theorem dX6_gather_63 : decode cX6_gather 63 = .ok (.invokestatic 57, 3) := by decide +kernel
theorem dX6_gather_66 : decode cX6_gather 66 = .ok (.istore_n 3, 1) := by decide +kernel
theorem dX6_gather_67 : decode cX6_gather 67 = .ok (.aload_n 0, 1) := by decide +kernel
theorem dX6_gather_68 : decode cX6_gather 68 = .ok (.getfield 28, 3) := by decide +kernel
theorem dX6_gather_71 : decode cX6_gather 71 = .ok (.aload_n 0, 1) := by decide +kernel
theorem dX6_gather_72 : decode cX6_gather 72 = .ok (.getfield 37, 3) := by decide +kernel
theorem dX6_gather_75 : decode cX6_gather 75 = .ok (.iload_n 3, 1) := by decide +kernel
theorem dX6_gather_76 : decode cX6_gather 76 = .ok (.iastore, 1) := by decide +kernel
theorem dX6_gather_77 : decode cX6_gather 77 = .ok (.aload_n 0, 1) := by decide +kernel
theorem dX6_gather_78 : decode cX6_gather 78 = .ok (.getfield 18, 3) := by decide +kernel
theorem dX6_gather_81 : decode cX6_gather 81 = .ok (.iload_n 3, 1) := by decide +kernel
theorem dX6_gather_82 : decode cX6_gather 82 = .ok (.aload_n 0, 1) := by decide +kernel
theorem dX6_gather_83 : decode cX6_gather 83 = .ok (.getfield 9, 3) := by decide +kernel
theorem dX6_gather_86 : decode cX6_gather 86 = .ok (.iload_n 1, 1) := by decide +kernel
theorem dX6_gather_87 : decode cX6_gather 87 = .ok (.iload_n 2, 1) := by decide +kernel
theorem dX6_gather_88 : decode cX6_gather 88 = .ok (.invokestatic 61, 3) := by decide +kernel
theorem dX6_gather_91 : decode cX6_gather 91 = .ok (.iastore, 1) := by decide +kernel
theorem dX6_gather_92 : decode cX6_gather 92 = .ok (.aload_n 0, 1) := by decide +kernel
theorem dX6_gather_93 : decode cX6_gather 93 = .ok (.dup, 1) := by decide +kernel
theorem dX6_gather_94 : decode cX6_gather 94 = .ok (.getfield 37, 3) := by decide +kernel
theorem dX6_gather_97 : decode cX6_gather 97 = .ok (.iconst 1, 1) := by decide +kernel
theorem dX6_gather_98 : decode cX6_gather 98 = .ok (.iadd, 1) := by decide +kernel
theorem dX6_gather_99 : decode cX6_gather 99 = .ok (.putfield 37, 3) := by decide +kernel
theorem dX6_gather_102 : decode cX6_gather 102 = .ok (.iinc 2 1, 3) := by decide +kernel
theorem dX6_gather_105 : decode cX6_gather 105 = .ok (.goto (-73), 3) := by decide +kernel
theorem dX6_gather_108 : decode cX6_gather 108 = .ok (.iinc 1 1, 3) := by decide +kernel
theorem dX6_gather_111 : decode cX6_gather 111 = .ok (.goto (-89), 3) := by decide +kernel
theorem dX6_gather_114 : decode cX6_gather 114 = .ok (.return_, 1) := by decide +kernel
theorem dX6_peel_0 : decode cX6_peel 0 = .ok (.iconst 2, 1) := by decide +kernel
theorem dX6_peel_1 : decode cX6_peel 1 = .ok (.istore_n 1, 1) := by decide +kernel
theorem dX6_peel_2 : decode cX6_peel 2 = .ok (.iconst 0, 1) := by decide +kernel
theorem dX6_peel_3 : decode cX6_peel 3 = .ok (.istore_n 2, 1) := by decide +kernel
theorem dX6_peel_4 : decode cX6_peel 4 = .ok (.iload_n 2, 1) := by decide +kernel
theorem dX6_peel_5 : decode cX6_peel 5 = .ok (.aload_n 0, 1) := by decide +kernel
theorem dX6_peel_6 : decode cX6_peel 6 = .ok (.getfield 37, 3) := by decide +kernel
theorem dX6_peel_9 : decode cX6_peel 9 = .ok (.if_icmp .ge 87, 3) := by decide +kernel
theorem dX6_peel_12 : decode cX6_peel 12 = .ok (.aload_n 0, 1) := by decide +kernel
theorem dX6_peel_13 : decode cX6_peel 13 = .ok (.iload_n 2, 1) := by decide +kernel
theorem dX6_peel_14 : decode cX6_peel 14 = .ok (.invokevirtual 67, 3) := by decide +kernel
theorem dX6_peel_17 : decode cX6_peel 17 = .ok (.istore_n 3, 1) := by decide +kernel
theorem dX6_peel_18 : decode cX6_peel 18 = .ok (.aload_n 0, 1) := by decide +kernel
theorem dX6_peel_19 : decode cX6_peel 19 = .ok (.getfield 28, 3) := by decide +kernel
theorem dX6_peel_22 : decode cX6_peel 22 = .ok (.iload_n 3, 1) := by decide +kernel
theorem dX6_peel_23 : decode cX6_peel 23 = .ok (.iaload, 1) := by decide +kernel
theorem dX6_peel_24 : decode cX6_peel 24 = .ok (.istore 4, 2) := by decide +kernel
theorem dX6_peel_26 : decode cX6_peel 26 = .ok (.aload_n 0, 1) := by decide +kernel
theorem dX6_peel_27 : decode cX6_peel 27 = .ok (.getfield 28, 3) := by decide +kernel
theorem dX6_peel_30 : decode cX6_peel 30 = .ok (.iload_n 3, 1) := by decide +kernel
theorem dX6_peel_31 : decode cX6_peel 31 = .ok (.aload_n 0, 1) := by decide +kernel
theorem dX6_peel_32 : decode cX6_peel 32 = .ok (.getfield 28, 3) := by decide +kernel
theorem dX6_peel_35 : decode cX6_peel 35 = .ok (.iload_n 2, 1) := by decide +kernel
theorem dX6_peel_36 : decode cX6_peel 36 = .ok (.iaload, 1) := by decide +kernel
theorem dX6_peel_37 : decode cX6_peel 37 = .ok (.iastore, 1) := by decide +kernel
theorem dX6_peel_38 : decode cX6_peel 38 = .ok (.aload_n 0, 1) := by decide +kernel
theorem dX6_peel_39 : decode cX6_peel 39 = .ok (.getfield 28, 3) := by decide +kernel
theorem dX6_peel_42 : decode cX6_peel 42 = .ok (.iload_n 2, 1) := by decide +kernel
theorem dX6_peel_43 : decode cX6_peel 43 = .ok (.iload 4, 2) := by decide +kernel
theorem dX6_peel_45 : decode cX6_peel 45 = .ok (.iastore, 1) := by decide +kernel
theorem dX6_peel_46 : decode cX6_peel 46 = .ok (.iload_n 1, 1) := by decide +kernel
theorem dX6_peel_47 : decode cX6_peel 47 = .ok (.aload_n 0, 1) := by decide +kernel
theorem dX6_peel_48 : decode cX6_peel 48 = .ok (.getfield 18, 3) := by decide +kernel
theorem dX6_peel_51 : decode cX6_peel 51 = .ok (.iload 4, 2) := by decide +kernel
theorem dX6_peel_53 : decode cX6_peel 53 = .ok (.iaload, 1) := by decide +kernel
theorem dX6_peel_54 : decode cX6_peel 54 = .ok (.iconst 2, 1) := by decide +kernel
theorem dX6_peel_55 : decode cX6_peel 55 = .ok (.iadd, 1) := by decide +kernel
theorem dX6_peel_56 : decode cX6_peel 56 = .ok (.invokestatic 71, 3) := by decide +kernel
theorem dX6_peel_59 : decode cX6_peel 59 = .ok (.istore_n 1, 1) := by decide +kernel
theorem dX6_peel_60 : decode cX6_peel 60 = .ok (.aload_n 0, 1) := by decide +kernel
theorem dX6_peel_61 : decode cX6_peel 61 = .ok (.getfield 22, 3) := by decide +kernel
theorem dX6_peel_64 : decode cX6_peel 64 = .ok (.iload 4, 2) := by decide +kernel
theorem dX6_peel_66 : decode cX6_peel 66 = .ok (.iload_n 1, 1) := by decide +kernel
theorem dX6_peel_67 : decode cX6_peel 67 = .ok (.iastore, 1) := by decide +kernel
theorem dX6_peel_68 : decode cX6_peel 68 = .ok (.aload_n 0, 1) := by decide +kernel
theorem dX6_peel_69 : decode cX6_peel 69 = .ok (.getfield 25, 3) := by decide +kernel
theorem dX6_peel_72 : decode cX6_peel 72 = .ok (.iload 4, 2) := by decide +kernel
theorem dX6_peel_74 : decode cX6_peel 74 = .ok (.iload_n 2, 1) := by decide +kernel
theorem dX6_peel_75 : decode cX6_peel 75 = .ok (.iastore, 1) := by decide +kernel
theorem dX6_peel_76 : decode cX6_peel 76 = .ok (.aload_n 0, 1) := by decide +kernel
theorem dX6_peel_77 : decode cX6_peel 77 = .ok (.iload 4, 2) := by decide +kernel
theorem dX6_peel_79 : decode cX6_peel 79 = .ok (.bipush 40, 2) := by decide +kernel
theorem dX6_peel_81 : decode cX6_peel 81 = .ok (.idiv, 1) := by decide +kernel
theorem dX6_peel_82 : decode cX6_peel 82 = .ok (.iload 4, 2) := by decide +kernel
theorem dX6_peel_84 : decode cX6_peel 84 = .ok (.bipush 40, 2) := by decide +kernel
theorem dX6_peel_86 : decode cX6_peel 86 = .ok (.irem, 1) := by decide +kernel
theorem dX6_peel_87 : decode cX6_peel 87 = .ok (.invokevirtual 76, 3) := by decide +kernel
theorem dX6_peel_90 : decode cX6_peel 90 = .ok (.iinc 2 1, 3) := by decide +kernel
theorem dX6_peel_93 : decode cX6_peel 93 = .ok (.goto (-89), 3) := by decide +kernel
theorem dX6_peel_96 : decode cX6_peel 96 = .ok (.return_, 1) := by decide +kernel
theorem dX6_leastFrom_0 : decode cX6_leastFrom 0 = .ok (.iload_n 1, 1) := by decide +kernel
theorem dX6_leastFrom_1 : decode cX6_leastFrom 1 = .ok (.istore_n 2, 1) := by decide +kernel
theorem dX6_leastFrom_2 : decode cX6_leastFrom 2 = .ok (.iload_n 1, 1) := by decide +kernel
theorem dX6_leastFrom_3 : decode cX6_leastFrom 3 = .ok (.iconst 1, 1) := by decide +kernel
theorem dX6_leastFrom_4 : decode cX6_leastFrom 4 = .ok (.iadd, 1) := by decide +kernel
theorem dX6_leastFrom_5 : decode cX6_leastFrom 5 = .ok (.istore_n 3, 1) := by decide +kernel
theorem dX6_leastFrom_6 : decode cX6_leastFrom 6 = .ok (.iload_n 3, 1) := by decide +kernel
theorem dX6_leastFrom_7 : decode cX6_leastFrom 7 = .ok (.aload_n 0, 1) := by decide +kernel
theorem dX6_leastFrom_8 : decode cX6_leastFrom 8 = .ok (.getfield 37, 3) := by decide +kernel
theorem dX6_leastFrom_11 : decode cX6_leastFrom 11 = .ok (.if_icmp .ge 61, 3) := by decide +kernel
theorem dX6_leastFrom_14 : decode cX6_leastFrom 14 = .ok (.aload_n 0, 1) := by decide +kernel
theorem dX6_leastFrom_15 : decode cX6_leastFrom 15 = .ok (.getfield 18, 3) := by decide +kernel
theorem dX6_leastFrom_18 : decode cX6_leastFrom 18 = .ok (.aload_n 0, 1) := by decide +kernel
theorem dX6_leastFrom_19 : decode cX6_leastFrom 19 = .ok (.getfield 28, 3) := by decide +kernel
theorem dX6_leastFrom_22 : decode cX6_leastFrom 22 = .ok (.iload_n 3, 1) := by decide +kernel
theorem dX6_leastFrom_23 : decode cX6_leastFrom 23 = .ok (.iaload, 1) := by decide +kernel
theorem dX6_leastFrom_24 : decode cX6_leastFrom 24 = .ok (.iaload, 1) := by decide +kernel
theorem dX6_leastFrom_25 : decode cX6_leastFrom 25 = .ok (.aload_n 0, 1) := by decide +kernel
theorem dX6_leastFrom_26 : decode cX6_leastFrom 26 = .ok (.getfield 18, 3) := by decide +kernel
theorem dX6_leastFrom_29 : decode cX6_leastFrom 29 = .ok (.aload_n 0, 1) := by decide +kernel
theorem dX6_leastFrom_30 : decode cX6_leastFrom 30 = .ok (.getfield 28, 3) := by decide +kernel
theorem dX6_leastFrom_33 : decode cX6_leastFrom 33 = .ok (.iload_n 2, 1) := by decide +kernel
theorem dX6_leastFrom_34 : decode cX6_leastFrom 34 = .ok (.iaload, 1) := by decide +kernel
theorem dX6_leastFrom_35 : decode cX6_leastFrom 35 = .ok (.iaload, 1) := by decide +kernel
theorem dX6_leastFrom_36 : decode cX6_leastFrom 36 = .ok (.isub, 1) := by decide +kernel
theorem dX6_leastFrom_37 : decode cX6_leastFrom 37 = .ok (.istore 4, 2) := by decide +kernel
theorem dX6_leastFrom_39 : decode cX6_leastFrom 39 = .ok (.iload 4, 2) := by decide +kernel
theorem dX6_leastFrom_41 : decode cX6_leastFrom 41 = .ok (.ifCond .lt 23, 3) := by decide +kernel
theorem dX6_leastFrom_44 : decode cX6_leastFrom 44 = .ok (.iload 4, 2) := by decide +kernel
theorem dX6_leastFrom_46 : decode cX6_leastFrom 46 = .ok (.ifCond .ne 20, 3) := by decide +kernel
theorem dX6_leastFrom_49 : decode cX6_leastFrom 49 = .ok (.aload_n 0, 1) := by decide +kernel
theorem dX6_leastFrom_50 : decode cX6_leastFrom 50 = .ok (.getfield 28, 3) := by decide +kernel
theorem dX6_leastFrom_53 : decode cX6_leastFrom 53 = .ok (.iload_n 3, 1) := by decide +kernel
theorem dX6_leastFrom_54 : decode cX6_leastFrom 54 = .ok (.iaload, 1) := by decide +kernel
theorem dX6_leastFrom_55 : decode cX6_leastFrom 55 = .ok (.aload_n 0, 1) := by decide +kernel
theorem dX6_leastFrom_56 : decode cX6_leastFrom 56 = .ok (.getfield 28, 3) := by decide +kernel
theorem dX6_leastFrom_59 : decode cX6_leastFrom 59 = .ok (.iload_n 2, 1) := by decide +kernel
theorem dX6_leastFrom_60 : decode cX6_leastFrom 60 = .ok (.iaload, 1) := by decide +kernel
theorem dX6_leastFrom_61 : decode cX6_leastFrom 61 = .ok (.if_icmp .ge 5, 3) := by decide +kernel
theorem dX6_leastFrom_64 : decode cX6_leastFrom 64 = .ok (.iload_n 3, 1) := by decide +kernel
theorem dX6_leastFrom_65 : decode cX6_leastFrom 65 = .ok (.istore_n 2, 1) := by decide +kernel
theorem dX6_leastFrom_66 : decode cX6_leastFrom 66 = .ok (.iinc 3 1, 3) := by decide +kernel
theorem dX6_leastFrom_69 : decode cX6_leastFrom 69 = .ok (.goto (-63), 3) := by decide +kernel
theorem dX6_leastFrom_72 : decode cX6_leastFrom 72 = .ok (.iload_n 2, 1) := by decide +kernel
theorem dX6_leastFrom_73 : decode cX6_leastFrom 73 = .ok (.ireturn, 1) := by decide +kernel
theorem dX6_takeAway_0 : decode cX6_takeAway 0 = .ok (.aload_n 0, 1) := by decide +kernel
theorem dX6_takeAway_1 : decode cX6_takeAway 1 = .ok (.getfield 15, 3) := by decide +kernel
theorem dX6_takeAway_4 : decode cX6_takeAway 4 = .ok (.iload_n 1, 1) := by decide +kernel
theorem dX6_takeAway_5 : decode cX6_takeAway 5 = .ok (.dup2, 1) := by decide +kernel
theorem dX6_takeAway_6 : decode cX6_takeAway 6 = .ok (.laload, 1) := by decide +kernel
theorem dX6_takeAway_7 : decode cX6_takeAway 7 = .ok (.lconst 1, 1) := by decide +kernel
theorem dX6_takeAway_8 : decode cX6_takeAway 8 = .ok (.iload_n 2, 1) := by decide +kernel
theorem dX6_takeAway_9 : decode cX6_takeAway 9 = .ok (.lshl, 1) := by decide +kernel
theorem dX6_takeAway_10 : decode cX6_takeAway 10 = .ok (.ldc2_w 80, 3) := by decide +kernel
theorem dX6_takeAway_13 : decode cX6_takeAway 13 = .ok (.lxor, 1) := by decide +kernel
theorem dX6_takeAway_14 : decode cX6_takeAway 14 = .ok (.land, 1) := by decide +kernel
theorem dX6_takeAway_15 : decode cX6_takeAway 15 = .ok (.lastore, 1) := by decide +kernel
theorem dX6_takeAway_16 : decode cX6_takeAway 16 = .ok (.aload_n 0, 1) := by decide +kernel
theorem dX6_takeAway_17 : decode cX6_takeAway 17 = .ok (.getfield 15, 3) := by decide +kernel
theorem dX6_takeAway_20 : decode cX6_takeAway 20 = .ok (.iload_n 2, 1) := by decide +kernel
theorem dX6_takeAway_21 : decode cX6_takeAway 21 = .ok (.dup2, 1) := by decide +kernel
theorem dX6_takeAway_22 : decode cX6_takeAway 22 = .ok (.laload, 1) := by decide +kernel
theorem dX6_takeAway_23 : decode cX6_takeAway 23 = .ok (.lconst 1, 1) := by decide +kernel
theorem dX6_takeAway_24 : decode cX6_takeAway 24 = .ok (.iload_n 1, 1) := by decide +kernel
theorem dX6_takeAway_25 : decode cX6_takeAway 25 = .ok (.lshl, 1) := by decide +kernel
theorem dX6_takeAway_26 : decode cX6_takeAway 26 = .ok (.ldc2_w 80, 3) := by decide +kernel
theorem dX6_takeAway_29 : decode cX6_takeAway 29 = .ok (.lxor, 1) := by decide +kernel
theorem dX6_takeAway_30 : decode cX6_takeAway 30 = .ok (.land, 1) := by decide +kernel
theorem dX6_takeAway_31 : decode cX6_takeAway 31 = .ok (.lastore, 1) := by decide +kernel
theorem dX6_takeAway_32 : decode cX6_takeAway 32 = .ok (.aload_n 0, 1) := by decide +kernel
theorem dX6_takeAway_33 : decode cX6_takeAway 33 = .ok (.getfield 15, 3) := by decide +kernel
theorem dX6_takeAway_36 : decode cX6_takeAway 36 = .ok (.iload_n 1, 1) := by decide +kernel
theorem dX6_takeAway_37 : decode cX6_takeAway 37 = .ok (.laload, 1) := by decide +kernel
theorem dX6_takeAway_38 : decode cX6_takeAway 38 = .ok (.aload_n 0, 1) := by decide +kernel
theorem dX6_takeAway_39 : decode cX6_takeAway 39 = .ok (.getfield 15, 3) := by decide +kernel
theorem dX6_takeAway_42 : decode cX6_takeAway 42 = .ok (.iload_n 2, 1) := by decide +kernel
theorem dX6_takeAway_43 : decode cX6_takeAway 43 = .ok (.laload, 1) := by decide +kernel
theorem dX6_takeAway_44 : decode cX6_takeAway 44 = .ok (.land, 1) := by decide +kernel
theorem dX6_takeAway_45 : decode cX6_takeAway 45 = .ok (.lstore_n 3, 1) := by decide +kernel
theorem dX6_takeAway_46 : decode cX6_takeAway 46 = .ok (.iconst 0, 1) := by decide +kernel
theorem dX6_takeAway_47 : decode cX6_takeAway 47 = .ok (.istore 5, 2) := by decide +kernel
theorem dX6_takeAway_49 : decode cX6_takeAway 49 = .ok (.iload 5, 2) := by decide +kernel
theorem dX6_takeAway_51 : decode cX6_takeAway 51 = .ok (.bipush 40, 2) := by decide +kernel
theorem dX6_takeAway_53 : decode cX6_takeAway 53 = .ok (.if_icmp .ge 48, 3) := by decide +kernel
theorem dX6_takeAway_56 : decode cX6_takeAway 56 = .ok (.lload_n 3, 1) := by decide +kernel
theorem dX6_takeAway_57 : decode cX6_takeAway 57 = .ok (.iload 5, 2) := by decide +kernel
theorem dX6_takeAway_59 : decode cX6_takeAway 59 = .ok (.invokestatic 53, 3) := by decide +kernel
theorem dX6_takeAway_62 : decode cX6_takeAway 62 = .ok (.ifCond .eq 33, 3) := by decide +kernel
theorem dX6_takeAway_65 : decode cX6_takeAway 65 = .ok (.aload_n 0, 1) := by decide +kernel
theorem dX6_takeAway_66 : decode cX6_takeAway 66 = .ok (.getfield 18, 3) := by decide +kernel
theorem dX6_takeAway_69 : decode cX6_takeAway 69 = .ok (.iload_n 1, 1) := by decide +kernel
theorem dX6_takeAway_70 : decode cX6_takeAway 70 = .ok (.iload 5, 2) := by decide +kernel
theorem dX6_takeAway_72 : decode cX6_takeAway 72 = .ok (.invokestatic 57, 3) := by decide +kernel
theorem dX6_takeAway_75 : decode cX6_takeAway 75 = .ok (.dup2, 1) := by decide +kernel
theorem dX6_takeAway_76 : decode cX6_takeAway 76 = .ok (.iaload, 1) := by decide +kernel
theorem dX6_takeAway_77 : decode cX6_takeAway 77 = .ok (.iconst 1, 1) := by decide +kernel
theorem dX6_takeAway_78 : decode cX6_takeAway 78 = .ok (.isub, 1) := by decide +kernel
theorem dX6_takeAway_79 : decode cX6_takeAway 79 = .ok (.iastore, 1) := by decide +kernel
theorem dX6_takeAway_80 : decode cX6_takeAway 80 = .ok (.aload_n 0, 1) := by decide +kernel
theorem dX6_takeAway_81 : decode cX6_takeAway 81 = .ok (.getfield 18, 3) := by decide +kernel
theorem dX6_takeAway_84 : decode cX6_takeAway 84 = .ok (.iload_n 2, 1) := by decide +kernel
theorem dX6_takeAway_85 : decode cX6_takeAway 85 = .ok (.iload 5, 2) := by decide +kernel
theorem dX6_takeAway_87 : decode cX6_takeAway 87 = .ok (.invokestatic 57, 3) := by decide +kernel
theorem dX6_takeAway_90 : decode cX6_takeAway 90 = .ok (.dup2, 1) := by decide +kernel
theorem dX6_takeAway_91 : decode cX6_takeAway 91 = .ok (.iaload, 1) := by decide +kernel
theorem dX6_takeAway_92 : decode cX6_takeAway 92 = .ok (.iconst 1, 1) := by decide +kernel
theorem dX6_takeAway_93 : decode cX6_takeAway 93 = .ok (.isub, 1) := by decide +kernel
theorem dX6_takeAway_94 : decode cX6_takeAway 94 = .ok (.iastore, 1) := by decide +kernel
theorem dX6_takeAway_95 : decode cX6_takeAway 95 = .ok (.iinc 5 1, 3) := by decide +kernel
theorem dX6_takeAway_98 : decode cX6_takeAway 98 = .ok (.goto (-49), 3) := by decide +kernel
theorem dX6_takeAway_101 : decode cX6_takeAway 101 = .ok (.return_, 1) := by decide +kernel
theorem dX6_edgesFrom_0 : decode cX6_edgesFrom 0 = .ok (.iconst 0, 1) := by decide +kernel
theorem dX6_edgesFrom_1 : decode cX6_edgesFrom 1 = .ok (.istore_n 2, 1) := by decide +kernel
theorem dX6_edgesFrom_2 : decode cX6_edgesFrom 2 = .ok (.iconst 0, 1) := by decide +kernel
theorem dX6_edgesFrom_3 : decode cX6_edgesFrom 3 = .ok (.istore_n 3, 1) := by decide +kernel
theorem dX6_edgesFrom_4 : decode cX6_edgesFrom 4 = .ok (.iload_n 3, 1) := by decide +kernel
theorem dX6_edgesFrom_5 : decode cX6_edgesFrom 5 = .ok (.aload_n 0, 1) := by decide +kernel
theorem dX6_edgesFrom_6 : decode cX6_edgesFrom 6 = .ok (.getfield 37, 3) := by decide +kernel
theorem dX6_edgesFrom_9 : decode cX6_edgesFrom 9 = .ok (.if_icmp .ge 27, 3) := by decide +kernel
theorem dX6_edgesFrom_12 : decode cX6_edgesFrom 12 = .ok (.aload_n 0, 1) := by decide +kernel
theorem dX6_edgesFrom_13 : decode cX6_edgesFrom 13 = .ok (.getfield 22, 3) := by decide +kernel
theorem dX6_edgesFrom_16 : decode cX6_edgesFrom 16 = .ok (.aload_n 0, 1) := by decide +kernel
theorem dX6_edgesFrom_17 : decode cX6_edgesFrom 17 = .ok (.getfield 28, 3) := by decide +kernel
theorem dX6_edgesFrom_20 : decode cX6_edgesFrom 20 = .ok (.iload_n 3, 1) := by decide +kernel
theorem dX6_edgesFrom_21 : decode cX6_edgesFrom 21 = .ok (.iaload, 1) := by decide +kernel
theorem dX6_edgesFrom_22 : decode cX6_edgesFrom 22 = .ok (.iaload, 1) := by decide +kernel
theorem dX6_edgesFrom_23 : decode cX6_edgesFrom 23 = .ok (.iload_n 1, 1) := by decide +kernel
theorem dX6_edgesFrom_24 : decode cX6_edgesFrom 24 = .ok (.if_icmp .lt 6, 3) := by decide +kernel
theorem dX6_edgesFrom_27 : decode cX6_edgesFrom 27 = .ok (.iinc 2 1, 3) := by decide +kernel
theorem dX6_edgesFrom_30 : decode cX6_edgesFrom 30 = .ok (.iinc 3 1, 3) := by decide +kernel
theorem dX6_edgesFrom_33 : decode cX6_edgesFrom 33 = .ok (.goto (-29), 3) := by decide +kernel
theorem dX6_edgesFrom_36 : decode cX6_edgesFrom 36 = .ok (.iload_n 2, 1) := by decide +kernel
theorem dX6_edgesFrom_37 : decode cX6_edgesFrom 37 = .ok (.ireturn, 1) := by decide +kernel
theorem dX6_hoodOf_0 : decode cX6_hoodOf 0 = .ok (.aload_n 0, 1) := by decide +kernel
theorem dX6_hoodOf_1 : decode cX6_hoodOf 1 = .ok (.getfield 22, 3) := by decide +kernel
theorem dX6_hoodOf_4 : decode cX6_hoodOf 4 = .ok (.iload_n 1, 1) := by decide +kernel
theorem dX6_hoodOf_5 : decode cX6_hoodOf 5 = .ok (.iaload, 1) := by decide +kernel
theorem dX6_hoodOf_6 : decode cX6_hoodOf 6 = .ok (.iload_n 2, 1) := by decide +kernel
theorem dX6_hoodOf_7 : decode cX6_hoodOf 7 = .ok (.if_icmp .ge 5, 3) := by decide +kernel
theorem dX6_hoodOf_10 : decode cX6_hoodOf 10 = .ok (.iconst 0, 1) := by decide +kernel
theorem dX6_hoodOf_11 : decode cX6_hoodOf 11 = .ok (.ireturn, 1) := by decide +kernel
theorem dX6_hoodOf_12 : decode cX6_hoodOf 12 = .ok (.aload_n 0, 1) := by decide +kernel
theorem dX6_hoodOf_13 : decode cX6_hoodOf 13 = .ok (.getfield 34, 3) := by decide +kernel
theorem dX6_hoodOf_16 : decode cX6_hoodOf 16 = .ok (.iconst 0, 1) := by decide +kernel
theorem dX6_hoodOf_17 : decode cX6_hoodOf 17 = .ok (.invokestatic 96, 3) := by decide +kernel
theorem dX6_hoodOf_20 : decode cX6_hoodOf 20 = .ok (.aload_n 0, 1) := by decide +kernel
theorem dX6_hoodOf_21 : decode cX6_hoodOf 21 = .ok (.iload_n 1, 1) := by decide +kernel
theorem dX6_hoodOf_22 : decode cX6_hoodOf 22 = .ok (.iload_n 2, 1) := by decide +kernel
theorem dX6_hoodOf_23 : decode cX6_hoodOf 23 = .ok (.invokevirtual 99, 3) := by decide +kernel
theorem dX6_hoodOf_26 : decode cX6_hoodOf 26 = .ok (.ireturn, 1) := by decide +kernel
theorem dX6_hoodsFrom_0 : decode cX6_hoodsFrom 0 = .ok (.aload_n 0, 1) := by decide +kernel
theorem dX6_hoodsFrom_1 : decode cX6_hoodsFrom 1 = .ok (.getfield 34, 3) := by decide +kernel
theorem dX6_hoodsFrom_4 : decode cX6_hoodsFrom 4 = .ok (.iconst 0, 1) := by decide +kernel
theorem dX6_hoodsFrom_5 : decode cX6_hoodsFrom 5 = .ok (.invokestatic 96, 3) := by decide +kernel
theorem dX6_hoodsFrom_8 : decode cX6_hoodsFrom 8 = .ok (.iconst 0, 1) := by decide +kernel
theorem dX6_hoodsFrom_9 : decode cX6_hoodsFrom 9 = .ok (.istore_n 2, 1) := by decide +kernel
theorem dX6_hoodsFrom_10 : decode cX6_hoodsFrom 10 = .ok (.iconst 0, 1) := by decide +kernel
theorem dX6_hoodsFrom_11 : decode cX6_hoodsFrom 11 = .ok (.istore_n 3, 1) := by decide +kernel
theorem dX6_hoodsFrom_12 : decode cX6_hoodsFrom 12 = .ok (.iload_n 3, 1) := by decide +kernel
theorem dX6_hoodsFrom_13 : decode cX6_hoodsFrom 13 = .ok (.aload_n 0, 1) := by decide +kernel
theorem dX6_hoodsFrom_14 : decode cX6_hoodsFrom 14 = .ok (.getfield 37, 3) := by decide +kernel
theorem dX6_hoodsFrom_17 : decode cX6_hoodsFrom 17 = .ok (.if_icmp .ge 53, 3) := by decide +kernel
theorem dX6_hoodsFrom_20 : decode cX6_hoodsFrom 20 = .ok (.aload_n 0, 1) := by decide +kernel
theorem dX6_hoodsFrom_21 : decode cX6_hoodsFrom 21 = .ok (.getfield 22, 3) := by decide +kernel
theorem dX6_hoodsFrom_24 : decode cX6_hoodsFrom 24 = .ok (.aload_n 0, 1) := by decide +kernel
theorem dX6_hoodsFrom_25 : decode cX6_hoodsFrom 25 = .ok (.getfield 28, 3) := by decide +kernel
theorem dX6_hoodsFrom_28 : decode cX6_hoodsFrom 28 = .ok (.iload_n 3, 1) := by decide +kernel
theorem dX6_hoodsFrom_29 : decode cX6_hoodsFrom 29 = .ok (.iaload, 1) := by decide +kernel
theorem dX6_hoodsFrom_30 : decode cX6_hoodsFrom 30 = .ok (.iaload, 1) := by decide +kernel
theorem dX6_hoodsFrom_31 : decode cX6_hoodsFrom 31 = .ok (.iload_n 1, 1) := by decide +kernel
theorem dX6_hoodsFrom_32 : decode cX6_hoodsFrom 32 = .ok (.if_icmp .lt 32, 3) := by decide +kernel
theorem dX6_hoodsFrom_35 : decode cX6_hoodsFrom 35 = .ok (.aload_n 0, 1) := by decide +kernel
theorem dX6_hoodsFrom_36 : decode cX6_hoodsFrom 36 = .ok (.getfield 34, 3) := by decide +kernel
theorem dX6_hoodsFrom_39 : decode cX6_hoodsFrom 39 = .ok (.aload_n 0, 1) := by decide +kernel
theorem dX6_hoodsFrom_40 : decode cX6_hoodsFrom 40 = .ok (.getfield 28, 3) := by decide +kernel
theorem dX6_hoodsFrom_43 : decode cX6_hoodsFrom 43 = .ok (.iload_n 3, 1) := by decide +kernel
theorem dX6_hoodsFrom_44 : decode cX6_hoodsFrom 44 = .ok (.iaload, 1) := by decide +kernel
theorem dX6_hoodsFrom_45 : decode cX6_hoodsFrom 45 = .ok (.iaload, 1) := by decide +kernel
theorem dX6_hoodsFrom_46 : decode cX6_hoodsFrom 46 = .ok (.ifCond .ne 18, 3) := by decide +kernel
theorem dX6_hoodsFrom_49 : decode cX6_hoodsFrom 49 = .ok (.aload_n 0, 1) := by decide +kernel
theorem dX6_hoodsFrom_50 : decode cX6_hoodsFrom 50 = .ok (.aload_n 0, 1) := by decide +kernel
theorem dX6_hoodsFrom_51 : decode cX6_hoodsFrom 51 = .ok (.getfield 28, 3) := by decide +kernel
theorem dX6_hoodsFrom_54 : decode cX6_hoodsFrom 54 = .ok (.iload_n 3, 1) := by decide +kernel
theorem dX6_hoodsFrom_55 : decode cX6_hoodsFrom 55 = .ok (.iaload, 1) := by decide +kernel
theorem dX6_hoodsFrom_56 : decode cX6_hoodsFrom 56 = .ok (.iload_n 1, 1) := by decide +kernel
theorem dX6_hoodsFrom_57 : decode cX6_hoodsFrom 57 = .ok (.invokevirtual 99, 3) := by decide +kernel
theorem dX6_hoodsFrom_60 : decode cX6_hoodsFrom 60 = .ok (.pop, 1) := by decide +kernel
theorem dX6_hoodsFrom_61 : decode cX6_hoodsFrom 61 = .ok (.iinc 2 1, 3) := by decide +kernel
theorem dX6_hoodsFrom_64 : decode cX6_hoodsFrom 64 = .ok (.iinc 3 1, 3) := by decide +kernel
theorem dX6_hoodsFrom_67 : decode cX6_hoodsFrom 67 = .ok (.goto (-55), 3) := by decide +kernel
theorem dX6_hoodsFrom_70 : decode cX6_hoodsFrom 70 = .ok (.iload_n 2, 1) := by decide +kernel
theorem dX6_hoodsFrom_71 : decode cX6_hoodsFrom 71 = .ok (.ireturn, 1) := by decide +kernel
theorem dX6_walkFrom_0 : decode cX6_walkFrom 0 = .ok (.aload_n 0, 1) := by decide +kernel
theorem dX6_walkFrom_1 : decode cX6_walkFrom 1 = .ok (.getfield 34, 3) := by decide +kernel
theorem dX6_walkFrom_4 : decode cX6_walkFrom 4 = .ok (.iload_n 1, 1) := by decide +kernel
theorem dX6_walkFrom_5 : decode cX6_walkFrom 5 = .ok (.iconst 1, 1) := by decide +kernel
theorem dX6_walkFrom_6 : decode cX6_walkFrom 6 = .ok (.iastore, 1) := by decide +kernel
theorem dX6_walkFrom_7 : decode cX6_walkFrom 7 = .ok (.aload_n 0, 1) := by decide +kernel
theorem dX6_walkFrom_8 : decode cX6_walkFrom 8 = .ok (.getfield 31, 3) := by decide +kernel
theorem dX6_walkFrom_11 : decode cX6_walkFrom 11 = .ok (.iconst 0, 1) := by decide +kernel
theorem dX6_walkFrom_12 : decode cX6_walkFrom 12 = .ok (.iload_n 1, 1) := by decide +kernel
theorem dX6_walkFrom_13 : decode cX6_walkFrom 13 = .ok (.iastore, 1) := by decide +kernel
theorem dX6_walkFrom_14 : decode cX6_walkFrom 14 = .ok (.iconst 1, 1) := by decide +kernel
theorem dX6_walkFrom_15 : decode cX6_walkFrom 15 = .ok (.istore_n 3, 1) := by decide +kernel
theorem dX6_walkFrom_16 : decode cX6_walkFrom 16 = .ok (.iconst 0, 1) := by decide +kernel
theorem dX6_walkFrom_17 : decode cX6_walkFrom 17 = .ok (.istore 4, 2) := by decide +kernel
theorem dX6_walkFrom_19 : decode cX6_walkFrom 19 = .ok (.iload 4, 2) := by decide +kernel
theorem dX6_walkFrom_21 : decode cX6_walkFrom 21 = .ok (.iload_n 3, 1) := by decide +kernel
theorem dX6_walkFrom_22 : decode cX6_walkFrom 22 = .ok (.if_icmp .ge 142, 3) := by decide +kernel
theorem dX6_walkFrom_25 : decode cX6_walkFrom 25 = .ok (.iload 4, 2) := by decide +kernel
theorem dX6_walkFrom_27 : decode cX6_walkFrom 27 = .ok (.sipush 780, 3) := by decide +kernel
theorem dX6_walkFrom_30 : decode cX6_walkFrom 30 = .ok (.if_icmp .ge 134, 3) := by decide +kernel
theorem dX6_walkFrom_33 : decode cX6_walkFrom 33 = .ok (.aload_n 0, 1) := by decide +kernel
theorem dX6_walkFrom_34 : decode cX6_walkFrom 34 = .ok (.getfield 31, 3) := by decide +kernel
theorem dX6_walkFrom_37 : decode cX6_walkFrom 37 = .ok (.iload 4, 2) := by decide +kernel
theorem dX6_walkFrom_39 : decode cX6_walkFrom 39 = .ok (.iaload, 1) := by decide +kernel
theorem dX6_walkFrom_40 : decode cX6_walkFrom 40 = .ok (.bipush 40, 2) := by decide +kernel
theorem dX6_walkFrom_42 : decode cX6_walkFrom 42 = .ok (.idiv, 1) := by decide +kernel
theorem dX6_walkFrom_43 : decode cX6_walkFrom 43 = .ok (.istore 5, 2) := by decide +kernel
theorem dX6_walkFrom_45 : decode cX6_walkFrom 45 = .ok (.aload_n 0, 1) := by decide +kernel
theorem dX6_walkFrom_46 : decode cX6_walkFrom 46 = .ok (.getfield 31, 3) := by decide +kernel
theorem dX6_walkFrom_49 : decode cX6_walkFrom 49 = .ok (.iload 4, 2) := by decide +kernel
theorem dX6_walkFrom_51 : decode cX6_walkFrom 51 = .ok (.iaload, 1) := by decide +kernel
theorem dX6_walkFrom_52 : decode cX6_walkFrom 52 = .ok (.bipush 40, 2) := by decide +kernel
theorem dX6_walkFrom_54 : decode cX6_walkFrom 54 = .ok (.irem, 1) := by decide +kernel
theorem dX6_walkFrom_55 : decode cX6_walkFrom 55 = .ok (.istore 6, 2) := by decide +kernel
theorem dX6_walkFrom_57 : decode cX6_walkFrom 57 = .ok (.aload_n 0, 1) := by decide +kernel
theorem dX6_walkFrom_58 : decode cX6_walkFrom 58 = .ok (.getfield 9, 3) := by decide +kernel
theorem dX6_walkFrom_61 : decode cX6_walkFrom 61 = .ok (.iload 5, 2) := by decide +kernel
theorem dX6_walkFrom_63 : decode cX6_walkFrom 63 = .ok (.laload, 1) := by decide +kernel
theorem dX6_walkFrom_64 : decode cX6_walkFrom 64 = .ok (.aload_n 0, 1) := by decide +kernel
theorem dX6_walkFrom_65 : decode cX6_walkFrom 65 = .ok (.getfield 9, 3) := by decide +kernel
theorem dX6_walkFrom_68 : decode cX6_walkFrom 68 = .ok (.iload 6, 2) := by decide +kernel
theorem dX6_walkFrom_70 : decode cX6_walkFrom 70 = .ok (.laload, 1) := by decide +kernel
theorem dX6_walkFrom_71 : decode cX6_walkFrom 71 = .ok (.land, 1) := by decide +kernel
theorem dX6_walkFrom_72 : decode cX6_walkFrom 72 = .ok (.lstore 7, 2) := by decide +kernel
theorem dX6_walkFrom_74 : decode cX6_walkFrom 74 = .ok (.iconst 0, 1) := by decide +kernel
theorem dX6_walkFrom_75 : decode cX6_walkFrom 75 = .ok (.istore 9, 2) := by decide +kernel
theorem dX6_walkFrom_77 : decode cX6_walkFrom 77 = .ok (.iload 9, 2) := by decide +kernel
theorem dX6_walkFrom_79 : decode cX6_walkFrom 79 = .ok (.bipush 40, 2) := by decide +kernel
theorem dX6_walkFrom_81 : decode cX6_walkFrom 81 = .ok (.if_icmp .ge 77, 3) := by decide +kernel
theorem dX6_walkFrom_84 : decode cX6_walkFrom 84 = .ok (.lload 7, 2) := by decide +kernel
theorem dX6_walkFrom_86 : decode cX6_walkFrom 86 = .ok (.iload 9, 2) := by decide +kernel
theorem dX6_walkFrom_88 : decode cX6_walkFrom 88 = .ok (.invokestatic 53, 3) := by decide +kernel
theorem dX6_walkFrom_91 : decode cX6_walkFrom 91 = .ok (.ifCond .eq 61, 3) := by decide +kernel
theorem dX6_walkFrom_94 : decode cX6_walkFrom 94 = .ok (.aload_n 0, 1) := by decide +kernel
theorem dX6_walkFrom_95 : decode cX6_walkFrom 95 = .ok (.getfield 22, 3) := by decide +kernel
theorem dX6_walkFrom_98 : decode cX6_walkFrom 98 = .ok (.iload 5, 2) := by decide +kernel
theorem dX6_walkFrom_100 : decode cX6_walkFrom 100 = .ok (.iload 9, 2) := by decide +kernel
theorem dX6_walkFrom_102 : decode cX6_walkFrom 102 = .ok (.invokestatic 57, 3) := by decide +kernel
theorem dX6_walkFrom_105 : decode cX6_walkFrom 105 = .ok (.iaload, 1) := by decide +kernel
theorem dX6_walkFrom_106 : decode cX6_walkFrom 106 = .ok (.iload_n 2, 1) := by decide +kernel
theorem dX6_walkFrom_107 : decode cX6_walkFrom 107 = .ok (.if_icmp .lt 45, 3) := by decide +kernel
theorem dX6_walkFrom_110 : decode cX6_walkFrom 110 = .ok (.aload_n 0, 1) := by decide +kernel
theorem dX6_walkFrom_111 : decode cX6_walkFrom 111 = .ok (.getfield 22, 3) := by decide +kernel
theorem dX6_walkFrom_114 : decode cX6_walkFrom 114 = .ok (.iload 6, 2) := by decide +kernel
theorem dX6_walkFrom_116 : decode cX6_walkFrom 116 = .ok (.iload 9, 2) := by decide +kernel
theorem dX6_walkFrom_118 : decode cX6_walkFrom 118 = .ok (.invokestatic 57, 3) := by decide +kernel
theorem dX6_walkFrom_121 : decode cX6_walkFrom 121 = .ok (.iaload, 1) := by decide +kernel
theorem dX6_walkFrom_122 : decode cX6_walkFrom 122 = .ok (.iload_n 2, 1) := by decide +kernel
theorem dX6_walkFrom_123 : decode cX6_walkFrom 123 = .ok (.if_icmp .lt 29, 3) := by decide +kernel
theorem dX6_walkFrom_126 : decode cX6_walkFrom 126 = .ok (.aload_n 0, 1) := by decide +kernel
theorem dX6_walkFrom_127 : decode cX6_walkFrom 127 = .ok (.iload 5, 2) := by decide +kernel
theorem dX6_walkFrom_129 : decode cX6_walkFrom 129 = .ok (.iload 9, 2) := by decide +kernel
theorem dX6_walkFrom_131 : decode cX6_walkFrom 131 = .ok (.invokestatic 57, 3) := by decide +kernel
theorem dX6_walkFrom_134 : decode cX6_walkFrom 134 = .ok (.iload_n 3, 1) := by decide +kernel
theorem dX6_walkFrom_135 : decode cX6_walkFrom 135 = .ok (.invokevirtual 102, 3) := by decide +kernel
theorem dX6_walkFrom_138 : decode cX6_walkFrom 138 = .ok (.istore_n 3, 1) := by decide +kernel
theorem dX6_walkFrom_139 : decode cX6_walkFrom 139 = .ok (.aload_n 0, 1) := by decide +kernel
theorem dX6_walkFrom_140 : decode cX6_walkFrom 140 = .ok (.iload 6, 2) := by decide +kernel
theorem dX6_walkFrom_142 : decode cX6_walkFrom 142 = .ok (.iload 9, 2) := by decide +kernel
theorem dX6_walkFrom_144 : decode cX6_walkFrom 144 = .ok (.invokestatic 57, 3) := by decide +kernel
theorem dX6_walkFrom_147 : decode cX6_walkFrom 147 = .ok (.iload_n 3, 1) := by decide +kernel
theorem dX6_walkFrom_148 : decode cX6_walkFrom 148 = .ok (.invokevirtual 102, 3) := by decide +kernel
theorem dX6_walkFrom_151 : decode cX6_walkFrom 151 = .ok (.istore_n 3, 1) := by decide +kernel
theorem dX6_walkFrom_152 : decode cX6_walkFrom 152 = .ok (.iinc 9 1, 3) := by decide +kernel
theorem dX6_walkFrom_155 : decode cX6_walkFrom 155 = .ok (.goto (-78), 3) := by decide +kernel
theorem dX6_walkFrom_158 : decode cX6_walkFrom 158 = .ok (.iinc 4 1, 3) := by decide +kernel
theorem dX6_walkFrom_161 : decode cX6_walkFrom 161 = .ok (.goto (-142), 3) := by decide +kernel
theorem dX6_walkFrom_164 : decode cX6_walkFrom 164 = .ok (.iload_n 3, 1) := by decide +kernel
theorem dX6_walkFrom_165 : decode cX6_walkFrom 165 = .ok (.ireturn, 1) := by decide +kernel
theorem dX6_meet_0 : decode cX6_meet 0 = .ok (.aload_n 0, 1) := by decide +kernel
theorem dX6_meet_1 : decode cX6_meet 1 = .ok (.getfield 34, 3) := by decide +kernel
theorem dX6_meet_4 : decode cX6_meet 4 = .ok (.iload_n 1, 1) := by decide +kernel
theorem dX6_meet_5 : decode cX6_meet 5 = .ok (.iaload, 1) := by decide +kernel
theorem dX6_meet_6 : decode cX6_meet 6 = .ok (.ifCond .ne 10, 3) := by decide +kernel
theorem dX6_meet_9 : decode cX6_meet 9 = .ok (.iload_n 2, 1) := by decide +kernel
theorem dX6_meet_10 : decode cX6_meet 10 = .ok (.sipush 780, 3) := by decide +kernel
theorem dX6_meet_13 : decode cX6_meet 13 = .ok (.if_icmp .lt 5, 3) := by decide +kernel
theorem dX6_meet_16 : decode cX6_meet 16 = .ok (.iload_n 2, 1) := by decide +kernel
theorem dX6_meet_17 : decode cX6_meet 17 = .ok (.ireturn, 1) := by decide +kernel
theorem dX6_meet_18 : decode cX6_meet 18 = .ok (.aload_n 0, 1) := by decide +kernel
theorem dX6_meet_19 : decode cX6_meet 19 = .ok (.getfield 34, 3) := by decide +kernel
theorem dX6_meet_22 : decode cX6_meet 22 = .ok (.iload_n 1, 1) := by decide +kernel
theorem dX6_meet_23 : decode cX6_meet 23 = .ok (.iconst 1, 1) := by decide +kernel
theorem dX6_meet_24 : decode cX6_meet 24 = .ok (.iastore, 1) := by decide +kernel
theorem dX6_meet_25 : decode cX6_meet 25 = .ok (.aload_n 0, 1) := by decide +kernel
theorem dX6_meet_26 : decode cX6_meet 26 = .ok (.getfield 31, 3) := by decide +kernel
theorem dX6_meet_29 : decode cX6_meet 29 = .ok (.iload_n 2, 1) := by decide +kernel
theorem dX6_meet_30 : decode cX6_meet 30 = .ok (.iload_n 1, 1) := by decide +kernel
theorem dX6_meet_31 : decode cX6_meet 31 = .ok (.iastore, 1) := by decide +kernel
theorem dX6_meet_32 : decode cX6_meet 32 = .ok (.iload_n 2, 1) := by decide +kernel
theorem dX6_meet_33 : decode cX6_meet 33 = .ok (.iconst 1, 1) := by decide +kernel
theorem dX6_meet_34 : decode cX6_meet 34 = .ok (.iadd, 1) := by decide +kernel
theorem dX6_meet_35 : decode cX6_meet 35 = .ok (.ireturn, 1) := by decide +kernel
theorem dX7_init_0 : decode cX7_init 0 = .ok (.aload_n 0, 1) := by decide +kernel
theorem dX7_init_1 : decode cX7_init 1 = .ok (.invokespecial 3, 3) := by decide +kernel
theorem dX7_init_4 : decode cX7_init 4 = .ok (.aload_n 0, 1) := by decide +kernel
theorem dX7_init_5 : decode cX7_init 5 = .ok (.bipush 40, 2) := by decide +kernel
theorem dX7_init_7 : decode cX7_init 7 = .ok (.newarray .long, 2) := by decide +kernel
theorem dX7_init_9 : decode cX7_init 9 = .ok (.putfield 9, 3) := by decide +kernel
theorem dX7_init_12 : decode cX7_init 12 = .ok (.aload_n 0, 1) := by decide +kernel
theorem dX7_init_13 : decode cX7_init 13 = .ok (.bipush 40, 2) := by decide +kernel
theorem dX7_init_15 : decode cX7_init 15 = .ok (.newarray .int, 2) := by decide +kernel
theorem dX7_init_17 : decode cX7_init 17 = .ok (.putfield 15, 3) := by decide +kernel
theorem dX7_init_20 : decode cX7_init 20 = .ok (.aload_n 0, 1) := by decide +kernel
theorem dX7_init_21 : decode cX7_init 21 = .ok (.bipush 40, 2) := by decide +kernel
theorem dX7_init_23 : decode cX7_init 23 = .ok (.newarray .int, 2) := by decide +kernel
theorem dX7_init_25 : decode cX7_init 25 = .ok (.putfield 19, 3) := by decide +kernel
theorem dX7_init_28 : decode cX7_init 28 = .ok (.aload_n 0, 1) := by decide +kernel
theorem dX7_init_29 : decode cX7_init 29 = .ok (.bipush 40, 2) := by decide +kernel
theorem dX7_init_31 : decode cX7_init 31 = .ok (.newarray .int, 2) := by decide +kernel
theorem dX7_init_33 : decode cX7_init 33 = .ok (.putfield 22, 3) := by decide +kernel
theorem dX7_init_36 : decode cX7_init 36 = .ok (.aload_n 0, 1) := by decide +kernel
theorem dX7_init_37 : decode cX7_init 37 = .ok (.bipush 40, 2) := by decide +kernel
theorem dX7_init_39 : decode cX7_init 39 = .ok (.newarray .int, 2) := by decide +kernel
theorem dX7_init_41 : decode cX7_init 41 = .ok (.putfield 25, 3) := by decide +kernel
theorem dX7_init_44 : decode cX7_init 44 = .ok (.aload_n 0, 1) := by decide +kernel
theorem dX7_init_45 : decode cX7_init 45 = .ok (.bipush 40, 2) := by decide +kernel
theorem dX7_init_47 : decode cX7_init 47 = .ok (.newarray .int, 2) := by decide +kernel
theorem dX7_init_49 : decode cX7_init 49 = .ok (.putfield 28, 3) := by decide +kernel
theorem dX7_init_52 : decode cX7_init 52 = .ok (.return_, 1) := by decide +kernel
theorem dX8_init_0 : decode cX8_init 0 = .ok (.aload_n 0, 1) := by decide +kernel
theorem dX8_init_1 : decode cX8_init 1 = .ok (.invokespecial 3, 3) := by decide +kernel
theorem dX8_init_4 : decode cX8_init 4 = .ok (.aload_n 0, 1) := by decide +kernel
theorem dX8_init_5 : decode cX8_init 5 = .ok (.bipush 60, 2) := by decide +kernel
theorem dX8_init_7 : decode cX8_init 7 = .ok (.newarray .long, 2) := by decide +kernel
theorem dX8_init_9 : decode cX8_init 9 = .ok (.putfield 9, 3) := by decide +kernel
theorem dX8_init_12 : decode cX8_init 12 = .ok (.aload_n 0, 1) := by decide +kernel
theorem dX8_init_13 : decode cX8_init 13 = .ok (.iconst 0, 1) := by decide +kernel
theorem dX8_init_14 : decode cX8_init 14 = .ok (.putfield 15, 3) := by decide +kernel
theorem dX8_init_17 : decode cX8_init 17 = .ok (.aload_n 0, 1) := by decide +kernel
theorem dX8_init_18 : decode cX8_init 18 = .ok (.iconst 0, 1) := by decide +kernel
theorem dX8_init_19 : decode cX8_init 19 = .ok (.putfield 19, 3) := by decide +kernel
theorem dX8_init_22 : decode cX8_init 22 = .ok (.aload_n 0, 1) := by decide +kernel
theorem dX8_init_23 : decode cX8_init 23 = .ok (.iload_n 1, 1) := by decide +kernel
theorem dX8_init_24 : decode cX8_init 24 = .ok (.putfield 23, 3) := by decide +kernel
theorem dX8_init_27 : decode cX8_init 27 = .ok (.return_, 1) := by decide +kernel
theorem dX9_init_0 : decode cX9_init 0 = .ok (.aload_n 0, 1) := by decide +kernel
theorem dX9_init_1 : decode cX9_init 1 = .ok (.invokespecial 3, 3) := by decide +kernel
theorem dX9_init_4 : decode cX9_init 4 = .ok (.aload_n 0, 1) := by decide +kernel
theorem dX9_init_5 : decode cX9_init 5 = .ok (.sipush 160, 3) := by decide +kernel
theorem dX9_init_8 : decode cX9_init 8 = .ok (.newarray .byte, 2) := by decide +kernel
theorem dX9_init_10 : decode cX9_init 10 = .ok (.putfield 9, 3) := by decide +kernel
theorem dX9_init_13 : decode cX9_init 13 = .ok (.aload_n 0, 1) := by decide +kernel
theorem dX9_init_14 : decode cX9_init 14 = .ok (.iconst 0, 1) := by decide +kernel
theorem dX9_init_15 : decode cX9_init 15 = .ok (.putfield 15, 3) := by decide +kernel
theorem dX9_init_18 : decode cX9_init 18 = .ok (.aload_n 0, 1) := by decide +kernel
theorem dX9_init_19 : decode cX9_init 19 = .ok (.iconst 0, 1) := by decide +kernel
theorem dX9_init_20 : decode cX9_init 20 = .ok (.putfield 19, 3) := by decide +kernel
theorem dX9_init_23 : decode cX9_init 23 = .ok (.aload_n 0, 1) := by decide +kernel
theorem dX9_init_24 : decode cX9_init 24 = .ok (.iconst (-1), 1) := by decide +kernel
theorem dX9_init_25 : decode cX9_init 25 = .ok (.putfield 22, 3) := by decide +kernel
theorem dX9_init_28 : decode cX9_init 28 = .ok (.return_, 1) := by decide +kernel
theorem dX10_init_0 : decode cX10_init 0 = .ok (.aload_n 0, 1) := by decide +kernel
theorem dX10_init_1 : decode cX10_init 1 = .ok (.invokespecial 5, 3) := by decide +kernel
theorem dX10_init_4 : decode cX10_init 4 = .ok (.aload_n 0, 1) := by decide +kernel
theorem dX10_init_5 : decode cX10_init 5 = .ok (.new 11, 3) := by decide +kernel
theorem dX10_init_8 : decode cX10_init 8 = .ok (.dup, 1) := by decide +kernel
theorem dX10_init_9 : decode cX10_init 9 = .ok (.invokespecial 13, 3) := by decide +kernel
theorem dX10_init_12 : decode cX10_init 12 = .ok (.putfield 14, 3) := by decide +kernel
theorem dX10_init_15 : decode cX10_init 15 = .ok (.aload_n 0, 1) := by decide +kernel
theorem dX10_init_16 : decode cX10_init 16 = .ok (.new 11, 3) := by decide +kernel
theorem dX10_init_19 : decode cX10_init 19 = .ok (.dup, 1) := by decide +kernel
theorem dX10_init_20 : decode cX10_init 20 = .ok (.invokespecial 13, 3) := by decide +kernel
theorem dX10_init_23 : decode cX10_init 23 = .ok (.putfield 18, 3) := by decide +kernel
theorem dX10_init_26 : decode cX10_init 26 = .ok (.aload_n 0, 1) := by decide +kernel
theorem dX10_init_27 : decode cX10_init 27 = .ok (.iconst 0, 1) := by decide +kernel
theorem dX10_init_28 : decode cX10_init 28 = .ok (.putfield 21, 3) := by decide +kernel
theorem dX10_init_31 : decode cX10_init 31 = .ok (.aload_n 0, 1) := by decide +kernel
theorem dX10_init_32 : decode cX10_init 32 = .ok (.new 25, 3) := by decide +kernel
theorem dX10_init_35 : decode cX10_init 35 = .ok (.dup, 1) := by decide +kernel
theorem dX10_init_36 : decode cX10_init 36 = .ok (.invokespecial 27, 3) := by decide +kernel
theorem dX10_init_39 : decode cX10_init 39 = .ok (.putfield 28, 3) := by decide +kernel
theorem dX10_init_42 : decode cX10_init 42 = .ok (.aload_n 0, 1) := by decide +kernel
theorem dX10_init_43 : decode cX10_init 43 = .ok (.new 32, 3) := by decide +kernel
theorem dX10_init_46 : decode cX10_init 46 = .ok (.dup, 1) := by decide +kernel
theorem dX10_init_47 : decode cX10_init 47 = .ok (.invokespecial 34, 3) := by decide +kernel
theorem dX10_init_50 : decode cX10_init 50 = .ok (.putfield 35, 3) := by decide +kernel
theorem dX10_init_53 : decode cX10_init 53 = .ok (.aload_n 0, 1) := by decide +kernel
theorem dX10_init_54 : decode cX10_init 54 = .ok (.new 39, 3) := by decide +kernel
theorem dX10_init_57 : decode cX10_init 57 = .ok (.dup, 1) := by decide +kernel
theorem dX10_init_58 : decode cX10_init 58 = .ok (.invokespecial 41, 3) := by decide +kernel
theorem dX10_init_61 : decode cX10_init 61 = .ok (.putfield 42, 3) := by decide +kernel
theorem dX10_init_64 : decode cX10_init 64 = .ok (.aload_n 0, 1) := by decide +kernel
theorem dX10_init_65 : decode cX10_init 65 = .ok (.new 46, 3) := by decide +kernel
theorem dX10_init_68 : decode cX10_init 68 = .ok (.dup, 1) := by decide +kernel
theorem dX10_init_69 : decode cX10_init 69 = .ok (.invokespecial 48, 3) := by decide +kernel
theorem dX10_init_72 : decode cX10_init 72 = .ok (.putfield 49, 3) := by decide +kernel
theorem dX10_init_75 : decode cX10_init 75 = .ok (.aload_n 0, 1) := by decide +kernel
theorem dX10_init_76 : decode cX10_init 76 = .ok (.new 53, 3) := by decide +kernel
theorem dX10_init_79 : decode cX10_init 79 = .ok (.dup, 1) := by decide +kernel
theorem dX10_init_80 : decode cX10_init 80 = .ok (.invokespecial 55, 3) := by decide +kernel
theorem dX10_init_83 : decode cX10_init 83 = .ok (.putfield 56, 3) := by decide +kernel
theorem dX10_init_86 : decode cX10_init 86 = .ok (.aload_n 0, 1) := by decide +kernel
theorem dX10_init_87 : decode cX10_init 87 = .ok (.new 60, 3) := by decide +kernel
theorem dX10_init_90 : decode cX10_init 90 = .ok (.dup, 1) := by decide +kernel
theorem dX10_init_91 : decode cX10_init 91 = .ok (.invokespecial 62, 3) := by decide +kernel
theorem dX10_init_94 : decode cX10_init 94 = .ok (.putfield 63, 3) := by decide +kernel
theorem dX10_init_97 : decode cX10_init 97 = .ok (.aload_n 0, 1) := by decide +kernel
theorem dX10_init_98 : decode cX10_init 98 = .ok (.bipush 6, 2) := by decide +kernel
theorem dX10_init_100 : decode cX10_init 100 = .ok (.anewarray 67, 3) := by decide +kernel
theorem dX10_init_103 : decode cX10_init 103 = .ok (.putfield 69, 3) := by decide +kernel
theorem dX10_init_106 : decode cX10_init 106 = .ok (.aload_n 0, 1) := by decide +kernel
theorem dX10_init_107 : decode cX10_init 107 = .ok (.bipush 40, 2) := by decide +kernel
theorem dX10_init_109 : decode cX10_init 109 = .ok (.newarray .int, 2) := by decide +kernel
theorem dX10_init_111 : decode cX10_init 111 = .ok (.putfield 73, 3) := by decide +kernel
theorem dX10_init_114 : decode cX10_init 114 = .ok (.iconst 0, 1) := by decide +kernel
theorem dX10_init_115 : decode cX10_init 115 = .ok (.istore_n 1, 1) := by decide +kernel
theorem dX10_init_116 : decode cX10_init 116 = .ok (.iload_n 1, 1) := by decide +kernel
theorem dX10_init_117 : decode cX10_init 117 = .ok (.bipush 6, 2) := by decide +kernel
theorem dX10_init_119 : decode cX10_init 119 = .ok (.if_icmp .ge 32, 3) := by decide +kernel
theorem dX10_init_122 : decode cX10_init 122 = .ok (.aload_n 0, 1) := by decide +kernel
theorem dX10_init_123 : decode cX10_init 123 = .ok (.getfield 69, 3) := by decide +kernel
theorem dX10_init_126 : decode cX10_init 126 = .ok (.iload_n 1, 1) := by decide +kernel
theorem dX10_init_127 : decode cX10_init 127 = .ok (.new 67, 3) := by decide +kernel
theorem dX10_init_130 : decode cX10_init 130 = .ok (.dup, 1) := by decide +kernel
theorem dX10_init_131 : decode cX10_init 131 = .ok (.iload_n 1, 1) := by decide +kernel
theorem dX10_init_132 : decode cX10_init 132 = .ok (.iconst 4, 1) := by decide +kernel
theorem dX10_init_133 : decode cX10_init 133 = .ok (.if_icmp .ge 7, 3) := by decide +kernel
theorem dX10_init_136 : decode cX10_init 136 = .ok (.iconst 1, 1) := by decide +kernel
theorem dX10_init_137 : decode cX10_init 137 = .ok (.goto 4, 3) := by decide +kernel
theorem dX10_init_140 : decode cX10_init 140 = .ok (.iconst 0, 1) := by decide +kernel
theorem dX10_init_141 : decode cX10_init 141 = .ok (.invokespecial 77, 3) := by decide +kernel
theorem dX10_init_144 : decode cX10_init 144 = .ok (.aastore, 1) := by decide +kernel
theorem dX10_init_145 : decode cX10_init 145 = .ok (.iinc 1 1, 3) := by decide +kernel
theorem dX10_init_148 : decode cX10_init 148 = .ok (.goto (-32), 3) := by decide +kernel
theorem dX10_init_151 : decode cX10_init 151 = .ok (.return_, 1) := by decide +kernel
theorem dX10_add_0 : decode cX10_add 0 = .ok (.iload_n 1, 1) := by decide +kernel
theorem dX10_add_1 : decode cX10_add 1 = .ok (.iload_n 2, 1) := by decide +kernel
theorem dX10_add_2 : decode cX10_add 2 = .ok (.invokestatic 80, 3) := by decide +kernel
theorem dX10_add_5 : decode cX10_add 5 = .ok (.ifCond .ne 5, 3) := by decide +kernel
theorem dX10_add_8 : decode cX10_add 8 = .ok (.iconst (-1), 1) := by decide +kernel
theorem dX10_add_9 : decode cX10_add 9 = .ok (.ireturn, 1) := by decide +kernel
theorem dX10_add_10 : decode cX10_add 10 = .ok (.iload_n 3, 1) := by decide +kernel
theorem dX10_add_11 : decode cX10_add 11 = .ok (.ldc 84, 2) := by decide +kernel
theorem dX10_add_13 : decode cX10_add 13 = .ok (.if_icmp .lt 9, 3) := by decide +kernel
theorem dX10_add_16 : decode cX10_add 16 = .ok (.iload_n 3, 1) := by decide +kernel
theorem dX10_add_17 : decode cX10_add 17 = .ok (.ldc 85, 2) := by decide +kernel
theorem dX10_add_19 : decode cX10_add 19 = .ok (.if_icmp .le 6, 3) := by decide +kernel
theorem dX10_add_22 : decode cX10_add 22 = .ok (.bipush (-2), 2) := by decide +kernel
theorem dX10_add_24 : decode cX10_add 24 = .ok (.ireturn, 1) := by decide +kernel
theorem dX10_add_25 : decode cX10_add 25 = .ok (.aload_n 0, 1) := by decide +kernel
theorem dX10_add_26 : decode cX10_add 26 = .ok (.getfield 14, 3) := by decide +kernel
theorem dX10_add_29 : decode cX10_add 29 = .ok (.iload_n 1, 1) := by decide +kernel
theorem dX10_add_30 : decode cX10_add 30 = .ok (.iload_n 2, 1) := by decide +kernel
theorem dX10_add_31 : decode cX10_add 31 = .ok (.invokevirtual 86, 3) := by decide +kernel
theorem dX10_add_34 : decode cX10_add 34 = .ok (.ifCond .eq 6, 3) := by decide +kernel
theorem dX10_add_37 : decode cX10_add 37 = .ok (.bipush (-3), 2) := by decide +kernel
theorem dX10_add_39 : decode cX10_add 39 = .ok (.ireturn, 1) := by decide +kernel
theorem dX10_add_40 : decode cX10_add 40 = .ok (.aload_n 0, 1) := by decide +kernel
theorem dX10_add_41 : decode cX10_add 41 = .ok (.getfield 14, 3) := by decide +kernel
theorem dX10_add_44 : decode cX10_add 44 = .ok (.iload_n 1, 1) := by decide +kernel
theorem dX10_add_45 : decode cX10_add 45 = .ok (.iload_n 2, 1) := by decide +kernel
theorem dX10_add_46 : decode cX10_add 46 = .ok (.iload_n 3, 1) := by decide +kernel
theorem dX10_add_47 : decode cX10_add 47 = .ok (.invokevirtual 89, 3) := by decide +kernel
theorem dX10_add_50 : decode cX10_add 50 = .ok (.aload_n 0, 1) := by decide +kernel
theorem dX10_add_51 : decode cX10_add 51 = .ok (.getfield 14, 3) := by decide +kernel
theorem dX10_add_54 : decode cX10_add 54 = .ok (.getfield 93, 3) := by decide +kernel
theorem dX10_add_57 : decode cX10_add 57 = .ok (.iload_n 1, 1) := by decide +kernel
theorem dX10_add_58 : decode cX10_add 58 = .ok (.iload_n 2, 1) := by decide +kernel
theorem dX10_add_59 : decode cX10_add 59 = .ok (.invokestatic 97, 3) := by decide +kernel
theorem dX10_add_62 : decode cX10_add 62 = .ok (.ireturn, 1) := by decide +kernel
theorem dX10_cut_0 : decode cX10_cut 0 = .ok (.iload_n 1, 1) := by decide +kernel
theorem dX10_cut_1 : decode cX10_cut 1 = .ok (.iload_n 2, 1) := by decide +kernel
theorem dX10_cut_2 : decode cX10_cut 2 = .ok (.invokestatic 80, 3) := by decide +kernel
theorem dX10_cut_5 : decode cX10_cut 5 = .ok (.ifCond .ne 5, 3) := by decide +kernel
theorem dX10_cut_8 : decode cX10_cut 8 = .ok (.iconst (-1), 1) := by decide +kernel
theorem dX10_cut_9 : decode cX10_cut 9 = .ok (.ireturn, 1) := by decide +kernel
theorem dX10_cut_10 : decode cX10_cut 10 = .ok (.aload_n 0, 1) := by decide +kernel
theorem dX10_cut_11 : decode cX10_cut 11 = .ok (.getfield 14, 3) := by decide +kernel
theorem dX10_cut_14 : decode cX10_cut 14 = .ok (.iload_n 1, 1) := by decide +kernel
theorem dX10_cut_15 : decode cX10_cut 15 = .ok (.iload_n 2, 1) := by decide +kernel
theorem dX10_cut_16 : decode cX10_cut 16 = .ok (.invokevirtual 86, 3) := by decide +kernel
theorem dX10_cut_19 : decode cX10_cut 19 = .ok (.ifCond .ne 6, 3) := by decide +kernel
theorem dX10_cut_22 : decode cX10_cut 22 = .ok (.bipush (-3), 2) := by decide +kernel
theorem dX10_cut_24 : decode cX10_cut 24 = .ok (.ireturn, 1) := by decide +kernel
theorem dX10_cut_25 : decode cX10_cut 25 = .ok (.aload_n 0, 1) := by decide +kernel
theorem dX10_cut_26 : decode cX10_cut 26 = .ok (.getfield 14, 3) := by decide +kernel
theorem dX10_cut_29 : decode cX10_cut 29 = .ok (.iload_n 1, 1) := by decide +kernel
theorem dX10_cut_30 : decode cX10_cut 30 = .ok (.iload_n 2, 1) := by decide +kernel
theorem dX10_cut_31 : decode cX10_cut 31 = .ok (.invokevirtual 103, 3) := by decide +kernel
theorem dX10_cut_34 : decode cX10_cut 34 = .ok (.aload_n 0, 1) := by decide +kernel
theorem dX10_cut_35 : decode cX10_cut 35 = .ok (.getfield 14, 3) := by decide +kernel
theorem dX10_cut_38 : decode cX10_cut 38 = .ok (.getfield 93, 3) := by decide +kernel
theorem dX10_cut_41 : decode cX10_cut 41 = .ok (.iload_n 1, 1) := by decide +kernel
theorem dX10_cut_42 : decode cX10_cut 42 = .ok (.iload_n 2, 1) := by decide +kernel
theorem dX10_cut_43 : decode cX10_cut 43 = .ok (.invokestatic 97, 3) := by decide +kernel
theorem dX10_cut_46 : decode cX10_cut 46 = .ok (.ireturn, 1) := by decide +kernel
theorem dX10_of_0 : decode cX10_of 0 = .ok (.iload_n 1, 1) := by decide +kernel
theorem dX10_of_1 : decode cX10_of 1 = .ok (.invokestatic 116, 3) := by decide +kernel
theorem dX10_of_4 : decode cX10_of 4 = .ok (.ifCond .ne 5, 3) := by decide +kernel
theorem dX10_of_7 : decode cX10_of 7 = .ok (.iconst (-1), 1) := by decide +kernel
theorem dX10_of_8 : decode cX10_of 8 = .ok (.ireturn, 1) := by decide +kernel
theorem dX10_of_9 : decode cX10_of 9 = .ok (.iload_n 2, 1) := by decide +kernel
theorem dX10_of_10 : decode cX10_of 10 = .ok (.tableswitch 124 0 5 #[38, 50, 62, 79, 100, 112], 38) := by decide +kernel
theorem dX10_of_48 : decode cX10_of 48 = .ok (.aload_n 0, 1) := by decide +kernel
theorem dX10_of_49 : decode cX10_of 49 = .ok (.getfield 14, 3) := by decide +kernel
theorem dX10_of_52 : decode cX10_of 52 = .ok (.getfield 93, 3) := by decide +kernel
theorem dX10_of_55 : decode cX10_of 55 = .ok (.iload_n 1, 1) := by decide +kernel
theorem dX10_of_56 : decode cX10_of 56 = .ok (.invokestatic 120, 3) := by decide +kernel
theorem dX10_of_59 : decode cX10_of 59 = .ok (.ireturn, 1) := by decide +kernel
theorem dX10_of_60 : decode cX10_of 60 = .ok (.aload_n 0, 1) := by decide +kernel
theorem dX10_of_61 : decode cX10_of 61 = .ok (.getfield 14, 3) := by decide +kernel
theorem dX10_of_64 : decode cX10_of 64 = .ok (.getfield 93, 3) := by decide +kernel
theorem dX10_of_67 : decode cX10_of 67 = .ok (.iload_n 1, 1) := by decide +kernel
theorem dX10_of_68 : decode cX10_of 68 = .ok (.invokestatic 124, 3) := by decide +kernel
theorem dX10_of_71 : decode cX10_of 71 = .ok (.ireturn, 1) := by decide +kernel
theorem dX10_of_72 : decode cX10_of 72 = .ok (.aload_n 0, 1) := by decide +kernel
theorem dX10_of_73 : decode cX10_of 73 = .ok (.getfield 14, 3) := by decide +kernel
theorem dX10_of_76 : decode cX10_of 76 = .ok (.iload_n 1, 1) := by decide +kernel
theorem dX10_of_77 : decode cX10_of 77 = .ok (.invokevirtual 127, 3) := by decide +kernel
theorem dX10_of_80 : decode cX10_of 80 = .ok (.ifCond .eq 7, 3) := by decide +kernel
theorem dX10_of_83 : decode cX10_of 83 = .ok (.iconst 1, 1) := by decide +kernel
theorem dX10_of_84 : decode cX10_of 84 = .ok (.goto 4, 3) := by decide +kernel
theorem dX10_of_87 : decode cX10_of 87 = .ok (.iconst 0, 1) := by decide +kernel
theorem dX10_of_88 : decode cX10_of 88 = .ok (.ireturn, 1) := by decide +kernel
theorem dX10_of_89 : decode cX10_of 89 = .ok (.aload_n 0, 1) := by decide +kernel
theorem dX10_of_90 : decode cX10_of 90 = .ok (.getfield 14, 3) := by decide +kernel
theorem dX10_of_93 : decode cX10_of 93 = .ok (.getfield 93, 3) := by decide +kernel
theorem dX10_of_96 : decode cX10_of 96 = .ok (.aload_n 0, 1) := by decide +kernel
theorem dX10_of_97 : decode cX10_of 97 = .ok (.getfield 73, 3) := by decide +kernel
theorem dX10_of_100 : decode cX10_of 100 = .ok (.invokestatic 130, 3) := by decide +kernel
theorem dX10_of_103 : decode cX10_of 103 = .ok (.aload_n 0, 1) := by decide +kernel
theorem dX10_of_104 : decode cX10_of 104 = .ok (.getfield 73, 3) := by decide +kernel
theorem dX10_of_107 : decode cX10_of 107 = .ok (.iload_n 1, 1) := by decide +kernel
theorem dX10_of_108 : decode cX10_of 108 = .ok (.iaload, 1) := by decide +kernel
theorem dX10_of_109 : decode cX10_of 109 = .ok (.ireturn, 1) := by decide +kernel
theorem dX10_of_110 : decode cX10_of 110 = .ok (.aload_n 0, 1) := by decide +kernel
theorem dX10_of_111 : decode cX10_of 111 = .ok (.getfield 14, 3) := by decide +kernel
theorem dX10_of_114 : decode cX10_of 114 = .ok (.getfield 93, 3) := by decide +kernel
theorem dX10_of_117 : decode cX10_of 117 = .ok (.iload_n 1, 1) := by decide +kernel
theorem dX10_of_118 : decode cX10_of 118 = .ok (.invokestatic 134, 3) := by decide +kernel
theorem dX10_of_121 : decode cX10_of 121 = .ok (.ireturn, 1) := by decide +kernel
theorem dX10_of_122 : decode cX10_of 122 = .ok (.aload_n 0, 1) := by decide +kernel
theorem dX10_of_123 : decode cX10_of 123 = .ok (.getfield 14, 3) := by decide +kernel
theorem dX10_of_126 : decode cX10_of 126 = .ok (.getfield 93, 3) := by decide +kernel
theorem dX10_of_129 : decode cX10_of 129 = .ok (.iload_n 1, 1) := by decide +kernel
theorem dX10_of_130 : decode cX10_of 130 = .ok (.invokestatic 137, 3) := by decide +kernel
theorem dX10_of_133 : decode cX10_of 133 = .ok (.ireturn, 1) := by decide +kernel
theorem dX10_of_134 : decode cX10_of 134 = .ok (.iconst (-1), 1) := by decide +kernel
theorem dX10_of_135 : decode cX10_of 135 = .ok (.ireturn, 1) := by decide +kernel
theorem dX10_two_0 : decode cX10_two 0 = .ok (.iload_n 1, 1) := by decide +kernel
theorem dX10_two_1 : decode cX10_two 1 = .ok (.iload_n 2, 1) := by decide +kernel
theorem dX10_two_2 : decode cX10_two 2 = .ok (.invokestatic 80, 3) := by decide +kernel
theorem dX10_two_5 : decode cX10_two 5 = .ok (.ifCond .ne 5, 3) := by decide +kernel
theorem dX10_two_8 : decode cX10_two 8 = .ok (.iconst (-1), 1) := by decide +kernel
theorem dX10_two_9 : decode cX10_two 9 = .ok (.ireturn, 1) := by decide +kernel
theorem dX10_two_10 : decode cX10_two 10 = .ok (.iload_n 3, 1) := by decide +kernel
theorem dX10_two_11 : decode cX10_two 11 = .ok (.tableswitch 125 0 4 #[33, 46, 81, 94, 112], 33) := by decide +kernel
theorem dX10_two_44 : decode cX10_two 44 = .ok (.aload_n 0, 1) := by decide +kernel
theorem dX10_two_45 : decode cX10_two 45 = .ok (.getfield 14, 3) := by decide +kernel
theorem dX10_two_48 : decode cX10_two 48 = .ok (.getfield 93, 3) := by decide +kernel
theorem dX10_two_51 : decode cX10_two 51 = .ok (.iload_n 1, 1) := by decide +kernel
theorem dX10_two_52 : decode cX10_two 52 = .ok (.iload_n 2, 1) := by decide +kernel
theorem dX10_two_53 : decode cX10_two 53 = .ok (.invokestatic 97, 3) := by decide +kernel
theorem dX10_two_56 : decode cX10_two 56 = .ok (.ireturn, 1) := by decide +kernel
theorem dX10_two_57 : decode cX10_two 57 = .ok (.aload_n 0, 1) := by decide +kernel
theorem dX10_two_58 : decode cX10_two 58 = .ok (.getfield 14, 3) := by decide +kernel
theorem dX10_two_61 : decode cX10_two 61 = .ok (.getfield 93, 3) := by decide +kernel
theorem dX10_two_64 : decode cX10_two 64 = .ok (.iload_n 1, 1) := by decide +kernel
theorem dX10_two_65 : decode cX10_two 65 = .ok (.laload, 1) := by decide +kernel
theorem dX10_two_66 : decode cX10_two 66 = .ok (.aload_n 0, 1) := by decide +kernel
theorem dX10_two_67 : decode cX10_two 67 = .ok (.getfield 14, 3) := by decide +kernel
theorem dX10_two_70 : decode cX10_two 70 = .ok (.getfield 93, 3) := by decide +kernel
theorem dX10_two_73 : decode cX10_two 73 = .ok (.iload_n 2, 1) := by decide +kernel
theorem dX10_two_74 : decode cX10_two 74 = .ok (.laload, 1) := by decide +kernel
theorem dX10_two_75 : decode cX10_two 75 = .ok (.land, 1) := by decide +kernel
theorem dX10_two_76 : decode cX10_two 76 = .ok (.aload_n 0, 1) := by decide +kernel
theorem dX10_two_77 : decode cX10_two 77 = .ok (.getfield 14, 3) := by decide +kernel
theorem dX10_two_80 : decode cX10_two 80 = .ok (.getfield 140, 3) := by decide +kernel
theorem dX10_two_83 : decode cX10_two 83 = .ok (.ldc2_w 144, 3) := by decide +kernel
theorem dX10_two_86 : decode cX10_two 86 = .ok (.lxor, 1) := by decide +kernel
theorem dX10_two_87 : decode cX10_two 87 = .ok (.land, 1) := by decide +kernel
theorem dX10_two_88 : decode cX10_two 88 = .ok (.invokestatic 146, 3) := by decide +kernel
theorem dX10_two_91 : decode cX10_two 91 = .ok (.ireturn, 1) := by decide +kernel
theorem dX10_two_92 : decode cX10_two 92 = .ok (.aload_n 0, 1) := by decide +kernel
theorem dX10_two_93 : decode cX10_two 93 = .ok (.getfield 14, 3) := by decide +kernel
theorem dX10_two_96 : decode cX10_two 96 = .ok (.getfield 93, 3) := by decide +kernel
theorem dX10_two_99 : decode cX10_two 99 = .ok (.iload_n 1, 1) := by decide +kernel
theorem dX10_two_100 : decode cX10_two 100 = .ok (.iload_n 2, 1) := by decide +kernel
theorem dX10_two_101 : decode cX10_two 101 = .ok (.invokestatic 150, 3) := by decide +kernel
theorem dX10_two_104 : decode cX10_two 104 = .ok (.ireturn, 1) := by decide +kernel
theorem dX10_two_105 : decode cX10_two 105 = .ok (.aload_n 0, 1) := by decide +kernel
theorem dX10_two_106 : decode cX10_two 106 = .ok (.getfield 14, 3) := by decide +kernel
theorem dX10_two_109 : decode cX10_two 109 = .ok (.iload_n 1, 1) := by decide +kernel
theorem dX10_two_110 : decode cX10_two 110 = .ok (.iload_n 2, 1) := by decide +kernel
theorem dX10_two_111 : decode cX10_two 111 = .ok (.invokevirtual 86, 3) := by decide +kernel
theorem dX10_two_114 : decode cX10_two 114 = .ok (.ifCond .eq 7, 3) := by decide +kernel
theorem dX10_two_117 : decode cX10_two 117 = .ok (.iconst 1, 1) := by decide +kernel
theorem dX10_two_118 : decode cX10_two 118 = .ok (.goto 4, 3) := by decide +kernel
theorem dX10_two_121 : decode cX10_two 121 = .ok (.iconst 0, 1) := by decide +kernel
theorem dX10_two_122 : decode cX10_two 122 = .ok (.ireturn, 1) := by decide +kernel
theorem dX10_two_123 : decode cX10_two 123 = .ok (.aload_n 0, 1) := by decide +kernel
theorem dX10_two_124 : decode cX10_two 124 = .ok (.getfield 14, 3) := by decide +kernel
theorem dX10_two_127 : decode cX10_two 127 = .ok (.getfield 93, 3) := by decide +kernel
theorem dX10_two_130 : decode cX10_two 130 = .ok (.iload_n 1, 1) := by decide +kernel
theorem dX10_two_131 : decode cX10_two 131 = .ok (.iload_n 2, 1) := by decide +kernel
theorem dX10_two_132 : decode cX10_two 132 = .ok (.invokestatic 153, 3) := by decide +kernel
theorem dX10_two_135 : decode cX10_two 135 = .ok (.ireturn, 1) := by decide +kernel
theorem dX10_two_136 : decode cX10_two 136 = .ok (.iconst (-1), 1) := by decide +kernel
theorem dX10_two_137 : decode cX10_two 137 = .ok (.ireturn, 1) := by decide +kernel
theorem dX10_edge_0 : decode cX10_edge 0 = .ok (.iload_n 1, 1) := by decide +kernel
theorem dX10_edge_1 : decode cX10_edge 1 = .ok (.iload_n 2, 1) := by decide +kernel
theorem dX10_edge_2 : decode cX10_edge 2 = .ok (.invokestatic 80, 3) := by decide +kernel
theorem dX10_edge_5 : decode cX10_edge 5 = .ok (.ifCond .eq 12, 3) := by decide +kernel
theorem dX10_edge_8 : decode cX10_edge 8 = .ok (.iload_n 3, 1) := by decide +kernel
theorem dX10_edge_9 : decode cX10_edge 9 = .ok (.ifCond .lt 8, 3) := by decide +kernel
theorem dX10_edge_12 : decode cX10_edge 12 = .ok (.iload_n 3, 1) := by decide +kernel
theorem dX10_edge_13 : decode cX10_edge 13 = .ok (.iconst 4, 1) := by decide +kernel
theorem dX10_edge_14 : decode cX10_edge 14 = .ok (.if_icmp .le 5, 3) := by decide +kernel
theorem dX10_edge_17 : decode cX10_edge 17 = .ok (.iconst (-1), 1) := by decide +kernel
theorem dX10_edge_18 : decode cX10_edge 18 = .ok (.ireturn, 1) := by decide +kernel
theorem dX10_edge_19 : decode cX10_edge 19 = .ok (.aload_n 0, 1) := by decide +kernel
theorem dX10_edge_20 : decode cX10_edge 20 = .ok (.getfield 14, 3) := by decide +kernel
theorem dX10_edge_23 : decode cX10_edge 23 = .ok (.iload_n 1, 1) := by decide +kernel
theorem dX10_edge_24 : decode cX10_edge 24 = .ok (.iload_n 2, 1) := by decide +kernel
theorem dX10_edge_25 : decode cX10_edge 25 = .ok (.invokevirtual 86, 3) := by decide +kernel
theorem dX10_edge_28 : decode cX10_edge 28 = .ok (.ifCond .ne 6, 3) := by decide +kernel
theorem dX10_edge_31 : decode cX10_edge 31 = .ok (.bipush (-3), 2) := by decide +kernel
theorem dX10_edge_33 : decode cX10_edge 33 = .ok (.ireturn, 1) := by decide +kernel
theorem dX10_edge_34 : decode cX10_edge 34 = .ok (.iload_n 3, 1) := by decide +kernel
theorem dX10_edge_35 : decode cX10_edge 35 = .ok (.tableswitch 111 0 3 #[29, 42, 70, 98], 29) := by decide +kernel
theorem dX10_edge_64 : decode cX10_edge 64 = .ok (.aload_n 0, 1) := by decide +kernel
theorem dX10_edge_65 : decode cX10_edge 65 = .ok (.getfield 14, 3) := by decide +kernel
theorem dX10_edge_68 : decode cX10_edge 68 = .ok (.getfield 93, 3) := by decide +kernel
theorem dX10_edge_71 : decode cX10_edge 71 = .ok (.iload_n 1, 1) := by decide +kernel
theorem dX10_edge_72 : decode cX10_edge 72 = .ok (.iload_n 2, 1) := by decide +kernel
theorem dX10_edge_73 : decode cX10_edge 73 = .ok (.invokestatic 97, 3) := by decide +kernel
theorem dX10_edge_76 : decode cX10_edge 76 = .ok (.ireturn, 1) := by decide +kernel
theorem dX10_edge_77 : decode cX10_edge 77 = .ok (.aload_n 0, 1) := by decide +kernel
theorem dX10_edge_78 : decode cX10_edge 78 = .ok (.getfield 28, 3) := by decide +kernel
theorem dX10_edge_81 : decode cX10_edge 81 = .ok (.aload_n 0, 1) := by decide +kernel
theorem dX10_edge_82 : decode cX10_edge 82 = .ok (.getfield 14, 3) := by decide +kernel
theorem dX10_edge_85 : decode cX10_edge 85 = .ok (.getfield 93, 3) := by decide +kernel
theorem dX10_edge_88 : decode cX10_edge 88 = .ok (.invokevirtual 156, 3) := by decide +kernel
theorem dX10_edge_91 : decode cX10_edge 91 = .ok (.aload_n 0, 1) := by decide +kernel
theorem dX10_edge_92 : decode cX10_edge 92 = .ok (.getfield 28, 3) := by decide +kernel
theorem dX10_edge_95 : decode cX10_edge 95 = .ok (.getfield 160, 3) := by decide +kernel
theorem dX10_edge_98 : decode cX10_edge 98 = .ok (.iload_n 1, 1) := by decide +kernel
theorem dX10_edge_99 : decode cX10_edge 99 = .ok (.iload_n 2, 1) := by decide +kernel
theorem dX10_edge_100 : decode cX10_edge 100 = .ok (.invokestatic 112, 3) := by decide +kernel
theorem dX10_edge_103 : decode cX10_edge 103 = .ok (.iaload, 1) := by decide +kernel
theorem dX10_edge_104 : decode cX10_edge 104 = .ok (.ireturn, 1) := by decide +kernel
theorem dX10_edge_105 : decode cX10_edge 105 = .ok (.aload_n 0, 1) := by decide +kernel
theorem dX10_edge_106 : decode cX10_edge 106 = .ok (.getfield 28, 3) := by decide +kernel
theorem dX10_edge_109 : decode cX10_edge 109 = .ok (.aload_n 0, 1) := by decide +kernel
theorem dX10_edge_110 : decode cX10_edge 110 = .ok (.getfield 14, 3) := by decide +kernel
theorem dX10_edge_113 : decode cX10_edge 113 = .ok (.getfield 93, 3) := by decide +kernel
theorem dX10_edge_116 : decode cX10_edge 116 = .ok (.invokevirtual 156, 3) := by decide +kernel
theorem dX10_edge_119 : decode cX10_edge 119 = .ok (.aload_n 0, 1) := by decide +kernel
theorem dX10_edge_120 : decode cX10_edge 120 = .ok (.getfield 28, 3) := by decide +kernel
theorem dX10_edge_123 : decode cX10_edge 123 = .ok (.getfield 163, 3) := by decide +kernel
theorem dX10_edge_126 : decode cX10_edge 126 = .ok (.iload_n 1, 1) := by decide +kernel
theorem dX10_edge_127 : decode cX10_edge 127 = .ok (.iload_n 2, 1) := by decide +kernel
theorem dX10_edge_128 : decode cX10_edge 128 = .ok (.invokestatic 112, 3) := by decide +kernel
theorem dX10_edge_131 : decode cX10_edge 131 = .ok (.iaload, 1) := by decide +kernel
theorem dX10_edge_132 : decode cX10_edge 132 = .ok (.ireturn, 1) := by decide +kernel
theorem dX10_edge_133 : decode cX10_edge 133 = .ok (.aload_n 0, 1) := by decide +kernel
theorem dX10_edge_134 : decode cX10_edge 134 = .ok (.getfield 14, 3) := by decide +kernel
theorem dX10_edge_137 : decode cX10_edge 137 = .ok (.getfield 93, 3) := by decide +kernel
theorem dX10_edge_140 : decode cX10_edge 140 = .ok (.iload_n 1, 1) := by decide +kernel
theorem dX10_edge_141 : decode cX10_edge 141 = .ok (.iload_n 2, 1) := by decide +kernel
theorem dX10_edge_142 : decode cX10_edge 142 = .ok (.invokestatic 150, 3) := by decide +kernel
theorem dX10_edge_145 : decode cX10_edge 145 = .ok (.ireturn, 1) := by decide +kernel
theorem dX10_edge_146 : decode cX10_edge 146 = .ok (.aload_n 0, 1) := by decide +kernel
theorem dX10_edge_147 : decode cX10_edge 147 = .ok (.getfield 14, 3) := by decide +kernel
theorem dX10_edge_150 : decode cX10_edge 150 = .ok (.getfield 93, 3) := by decide +kernel
theorem dX10_edge_153 : decode cX10_edge 153 = .ok (.iload_n 1, 1) := by decide +kernel
theorem dX10_edge_154 : decode cX10_edge 154 = .ok (.iload_n 2, 1) := by decide +kernel
theorem dX10_edge_155 : decode cX10_edge 155 = .ok (.invokestatic 166, 3) := by decide +kernel
theorem dX10_edge_158 : decode cX10_edge 158 = .ok (.ireturn, 1) := by decide +kernel
theorem dX10_near_0 : decode cX10_near 0 = .ok (.iload_n 1, 1) := by decide +kernel
theorem dX10_near_1 : decode cX10_near 1 = .ok (.invokestatic 116, 3) := by decide +kernel
theorem dX10_near_4 : decode cX10_near 4 = .ok (.ifCond .eq 15, 3) := by decide +kernel
theorem dX10_near_7 : decode cX10_near 7 = .ok (.aload_n 0, 1) := by decide +kernel
theorem dX10_near_8 : decode cX10_near 8 = .ok (.getfield 14, 3) := by decide +kernel
theorem dX10_near_11 : decode cX10_near 11 = .ok (.getfield 93, 3) := by decide +kernel
theorem dX10_near_14 : decode cX10_near 14 = .ok (.iload_n 1, 1) := by decide +kernel
theorem dX10_near_15 : decode cX10_near 15 = .ok (.laload, 1) := by decide +kernel
theorem dX10_near_16 : decode cX10_near 16 = .ok (.goto 6, 3) := by decide +kernel
theorem dX10_near_19 : decode cX10_near 19 = .ok (.ldc2_w 107, 3) := by decide +kernel
theorem dX10_near_22 : decode cX10_near 22 = .ok (.lreturn, 1) := by decide +kernel
theorem dX10_told_0 : decode cX10_told 0 = .ok (.iload_n 1, 1) := by decide +kernel
theorem dX10_told_1 : decode cX10_told 1 = .ok (.tableswitch 207 0 13 #[71, 80, 92, 104, 113, 122, 130, 138, 146, 154, 162, 174, 186, 195], 71) := by decide +kernel
theorem dX10_told_72 : decode cX10_told 72 = .ok (.aload_n 0, 1) := by decide +kernel
theorem dX10_told_73 : decode cX10_told 73 = .ok (.getfield 14, 3) := by decide +kernel
theorem dX10_told_76 : decode cX10_told 76 = .ok (.getfield 173, 3) := by decide +kernel
theorem dX10_told_79 : decode cX10_told 79 = .ok (.i2l, 1) := by decide +kernel
theorem dX10_told_80 : decode cX10_told 80 = .ok (.lreturn, 1) := by decide +kernel
theorem dX10_told_81 : decode cX10_told 81 = .ok (.aload_n 0, 1) := by decide +kernel
theorem dX10_told_82 : decode cX10_told 82 = .ok (.getfield 14, 3) := by decide +kernel
theorem dX10_told_85 : decode cX10_told 85 = .ok (.getfield 93, 3) := by decide +kernel
theorem dX10_told_88 : decode cX10_told 88 = .ok (.invokestatic 169, 3) := by decide +kernel
theorem dX10_told_91 : decode cX10_told 91 = .ok (.i2l, 1) := by decide +kernel
theorem dX10_told_92 : decode cX10_told 92 = .ok (.lreturn, 1) := by decide +kernel
theorem dX10_told_93 : decode cX10_told 93 = .ok (.aload_n 0, 1) := by decide +kernel
theorem dX10_told_94 : decode cX10_told 94 = .ok (.getfield 14, 3) := by decide +kernel
theorem dX10_told_97 : decode cX10_told 97 = .ok (.getfield 93, 3) := by decide +kernel
theorem dX10_told_100 : decode cX10_told 100 = .ok (.invokestatic 177, 3) := by decide +kernel
theorem dX10_told_103 : decode cX10_told 103 = .ok (.i2l, 1) := by decide +kernel
theorem dX10_told_104 : decode cX10_told 104 = .ok (.lreturn, 1) := by decide +kernel
theorem dX10_told_105 : decode cX10_told 105 = .ok (.aload_n 0, 1) := by decide +kernel
theorem dX10_told_106 : decode cX10_told 106 = .ok (.getfield 14, 3) := by decide +kernel
theorem dX10_told_109 : decode cX10_told 109 = .ok (.getfield 180, 3) := by decide +kernel
theorem dX10_told_112 : decode cX10_told 112 = .ok (.i2l, 1) := by decide +kernel
theorem dX10_told_113 : decode cX10_told 113 = .ok (.lreturn, 1) := by decide +kernel
theorem dX10_told_114 : decode cX10_told 114 = .ok (.aload_n 0, 1) := by decide +kernel
theorem dX10_told_115 : decode cX10_told 115 = .ok (.getfield 14, 3) := by decide +kernel
theorem dX10_told_118 : decode cX10_told 118 = .ok (.invokevirtual 183, 3) := by decide +kernel
theorem dX10_told_121 : decode cX10_told 121 = .ok (.i2l, 1) := by decide +kernel
theorem dX10_told_122 : decode cX10_told 122 = .ok (.lreturn, 1) := by decide +kernel
theorem dX10_told_123 : decode cX10_told 123 = .ok (.aload_n 0, 1) := by decide +kernel
theorem dX10_told_124 : decode cX10_told 124 = .ok (.getfield 14, 3) := by decide +kernel
theorem dX10_told_127 : decode cX10_told 127 = .ok (.getfield 140, 3) := by decide +kernel
theorem dX10_told_130 : decode cX10_told 130 = .ok (.lreturn, 1) := by decide +kernel
theorem dX10_told_131 : decode cX10_told 131 = .ok (.aload_n 0, 1) := by decide +kernel
theorem dX10_told_132 : decode cX10_told 132 = .ok (.getfield 14, 3) := by decide +kernel
theorem dX10_told_135 : decode cX10_told 135 = .ok (.getfield 187, 3) := by decide +kernel
theorem dX10_told_138 : decode cX10_told 138 = .ok (.lreturn, 1) := by decide +kernel
theorem dX10_told_139 : decode cX10_told 139 = .ok (.aload_n 0, 1) := by decide +kernel
theorem dX10_told_140 : decode cX10_told 140 = .ok (.getfield 14, 3) := by decide +kernel
theorem dX10_told_143 : decode cX10_told 143 = .ok (.getfield 190, 3) := by decide +kernel
theorem dX10_told_146 : decode cX10_told 146 = .ok (.lreturn, 1) := by decide +kernel
theorem dX10_told_147 : decode cX10_told 147 = .ok (.aload_n 0, 1) := by decide +kernel
theorem dX10_told_148 : decode cX10_told 148 = .ok (.getfield 14, 3) := by decide +kernel
theorem dX10_told_151 : decode cX10_told 151 = .ok (.getfield 193, 3) := by decide +kernel
theorem dX10_told_154 : decode cX10_told 154 = .ok (.lreturn, 1) := by decide +kernel
theorem dX10_told_155 : decode cX10_told 155 = .ok (.aload_n 0, 1) := by decide +kernel
theorem dX10_told_156 : decode cX10_told 156 = .ok (.getfield 14, 3) := by decide +kernel
theorem dX10_told_159 : decode cX10_told 159 = .ok (.getfield 196, 3) := by decide +kernel
theorem dX10_told_162 : decode cX10_told 162 = .ok (.lreturn, 1) := by decide +kernel
theorem dX10_told_163 : decode cX10_told 163 = .ok (.aload_n 0, 1) := by decide +kernel
theorem dX10_told_164 : decode cX10_told 164 = .ok (.getfield 14, 3) := by decide +kernel
theorem dX10_told_167 : decode cX10_told 167 = .ok (.getfield 199, 3) := by decide +kernel
theorem dX10_told_170 : decode cX10_told 170 = .ok (.getfield 203, 3) := by decide +kernel
theorem dX10_told_173 : decode cX10_told 173 = .ok (.i2l, 1) := by decide +kernel
theorem dX10_told_174 : decode cX10_told 174 = .ok (.lreturn, 1) := by decide +kernel
theorem dX10_told_175 : decode cX10_told 175 = .ok (.aload_n 0, 1) := by decide +kernel
theorem dX10_told_176 : decode cX10_told 176 = .ok (.getfield 14, 3) := by decide +kernel
theorem dX10_told_179 : decode cX10_told 179 = .ok (.getfield 93, 3) := by decide +kernel
theorem dX10_told_182 : decode cX10_told 182 = .ok (.invokestatic 208, 3) := by decide +kernel
theorem dX10_told_185 : decode cX10_told 185 = .ok (.i2l, 1) := by decide +kernel
theorem dX10_told_186 : decode cX10_told 186 = .ok (.lreturn, 1) := by decide +kernel
theorem dX10_told_187 : decode cX10_told 187 = .ok (.aload_n 0, 1) := by decide +kernel
theorem dX10_told_188 : decode cX10_told 188 = .ok (.getfield 63, 3) := by decide +kernel
theorem dX10_told_191 : decode cX10_told 191 = .ok (.getfield 211, 3) := by decide +kernel
theorem dX10_told_194 : decode cX10_told 194 = .ok (.i2l, 1) := by decide +kernel
theorem dX10_told_195 : decode cX10_told 195 = .ok (.lreturn, 1) := by decide +kernel
theorem dX10_told_196 : decode cX10_told 196 = .ok (.aload_n 0, 1) := by decide +kernel
theorem dX10_told_197 : decode cX10_told 197 = .ok (.getfield 14, 3) := by decide +kernel
theorem dX10_told_200 : decode cX10_told 200 = .ok (.getfield 93, 3) := by decide +kernel
theorem dX10_told_203 : decode cX10_told 203 = .ok (.invokestatic 214, 3) := by decide +kernel
theorem dX10_told_206 : decode cX10_told 206 = .ok (.i2l, 1) := by decide +kernel
theorem dX10_told_207 : decode cX10_told 207 = .ok (.lreturn, 1) := by decide +kernel
theorem dX10_told_208 : decode cX10_told 208 = .ok (.ldc2_w 107, 3) := by decide +kernel
theorem dX10_told_211 : decode cX10_told 211 = .ok (.lreturn, 1) := by decide +kernel
theorem dX10_truss_0 : decode cX10_truss 0 = .ok (.aload_n 0, 1) := by decide +kernel
theorem dX10_truss_1 : decode cX10_truss 1 = .ok (.getfield 28, 3) := by decide +kernel
theorem dX10_truss_4 : decode cX10_truss 4 = .ok (.aload_n 0, 1) := by decide +kernel
theorem dX10_truss_5 : decode cX10_truss 5 = .ok (.getfield 14, 3) := by decide +kernel
theorem dX10_truss_8 : decode cX10_truss 8 = .ok (.getfield 93, 3) := by decide +kernel
theorem dX10_truss_11 : decode cX10_truss 11 = .ok (.invokevirtual 156, 3) := by decide +kernel
theorem dX10_truss_14 : decode cX10_truss 14 = .ok (.aload_n 0, 1) := by decide +kernel
theorem dX10_truss_15 : decode cX10_truss 15 = .ok (.getfield 28, 3) := by decide +kernel
theorem dX10_truss_18 : decode cX10_truss 18 = .ok (.iload_n 1, 1) := by decide +kernel
theorem dX10_truss_19 : decode cX10_truss 19 = .ok (.invokevirtual 217, 3) := by decide +kernel
theorem dX10_truss_22 : decode cX10_truss 22 = .ok (.ireturn, 1) := by decide +kernel
theorem dX10_hood_0 : decode cX10_hood 0 = .ok (.iload_n 1, 1) := by decide +kernel
theorem dX10_hood_1 : decode cX10_hood 1 = .ok (.iload_n 2, 1) := by decide +kernel
theorem dX10_hood_2 : decode cX10_hood 2 = .ok (.invokestatic 80, 3) := by decide +kernel
theorem dX10_hood_5 : decode cX10_hood 5 = .ok (.ifCond .ne 5, 3) := by decide +kernel
theorem dX10_hood_8 : decode cX10_hood 8 = .ok (.iconst (-1), 1) := by decide +kernel
theorem dX10_hood_9 : decode cX10_hood 9 = .ok (.ireturn, 1) := by decide +kernel
theorem dX10_hood_10 : decode cX10_hood 10 = .ok (.aload_n 0, 1) := by decide +kernel
theorem dX10_hood_11 : decode cX10_hood 11 = .ok (.getfield 14, 3) := by decide +kernel
theorem dX10_hood_14 : decode cX10_hood 14 = .ok (.iload_n 1, 1) := by decide +kernel
theorem dX10_hood_15 : decode cX10_hood 15 = .ok (.iload_n 2, 1) := by decide +kernel
theorem dX10_hood_16 : decode cX10_hood 16 = .ok (.invokevirtual 86, 3) := by decide +kernel
theorem dX10_hood_19 : decode cX10_hood 19 = .ok (.ifCond .ne 6, 3) := by decide +kernel
theorem dX10_hood_22 : decode cX10_hood 22 = .ok (.bipush (-3), 2) := by decide +kernel
theorem dX10_hood_24 : decode cX10_hood 24 = .ok (.ireturn, 1) := by decide +kernel
theorem dX10_hood_25 : decode cX10_hood 25 = .ok (.aload_n 0, 1) := by decide +kernel
theorem dX10_hood_26 : decode cX10_hood 26 = .ok (.getfield 28, 3) := by decide +kernel
theorem dX10_hood_29 : decode cX10_hood 29 = .ok (.aload_n 0, 1) := by decide +kernel
theorem dX10_hood_30 : decode cX10_hood 30 = .ok (.getfield 14, 3) := by decide +kernel
theorem dX10_hood_33 : decode cX10_hood 33 = .ok (.getfield 93, 3) := by decide +kernel
theorem dX10_hood_36 : decode cX10_hood 36 = .ok (.invokevirtual 156, 3) := by decide +kernel
theorem dX10_hood_39 : decode cX10_hood 39 = .ok (.aload_n 0, 1) := by decide +kernel
theorem dX10_hood_40 : decode cX10_hood 40 = .ok (.getfield 28, 3) := by decide +kernel
theorem dX10_hood_43 : decode cX10_hood 43 = .ok (.iload_n 1, 1) := by decide +kernel
theorem dX10_hood_44 : decode cX10_hood 44 = .ok (.iload_n 2, 1) := by decide +kernel
theorem dX10_hood_45 : decode cX10_hood 45 = .ok (.invokestatic 112, 3) := by decide +kernel
theorem dX10_hood_48 : decode cX10_hood 48 = .ok (.iload_n 3, 1) := by decide +kernel
theorem dX10_hood_49 : decode cX10_hood 49 = .ok (.invokevirtual 224, 3) := by decide +kernel
theorem dX10_hood_52 : decode cX10_hood 52 = .ok (.ireturn, 1) := by decide +kernel
theorem dX10_hoods_0 : decode cX10_hoods 0 = .ok (.aload_n 0, 1) := by decide +kernel
theorem dX10_hoods_1 : decode cX10_hoods 1 = .ok (.getfield 28, 3) := by decide +kernel
theorem dX10_hoods_4 : decode cX10_hoods 4 = .ok (.aload_n 0, 1) := by decide +kernel
theorem dX10_hoods_5 : decode cX10_hoods 5 = .ok (.getfield 14, 3) := by decide +kernel
theorem dX10_hoods_8 : decode cX10_hoods 8 = .ok (.getfield 93, 3) := by decide +kernel
theorem dX10_hoods_11 : decode cX10_hoods 11 = .ok (.invokevirtual 156, 3) := by decide +kernel
theorem dX10_hoods_14 : decode cX10_hoods 14 = .ok (.aload_n 0, 1) := by decide +kernel
theorem dX10_hoods_15 : decode cX10_hoods 15 = .ok (.getfield 28, 3) := by decide +kernel
theorem dX10_hoods_18 : decode cX10_hoods 18 = .ok (.iload_n 1, 1) := by decide +kernel
theorem dX10_hoods_19 : decode cX10_hoods 19 = .ok (.invokevirtual 227, 3) := by decide +kernel
theorem dX10_hoods_22 : decode cX10_hoods 22 = .ok (.ireturn, 1) := by decide +kernel
theorem dX10_broken_0 : decode cX10_broken 0 = .ok (.iload_n 1, 1) := by decide +kernel
theorem dX10_broken_1 : decode cX10_broken 1 = .ok (.ifCond .lt 8, 3) := by decide +kernel
theorem dX10_broken_4 : decode cX10_broken 4 = .ok (.iload_n 1, 1) := by decide +kernel
theorem dX10_broken_5 : decode cX10_broken 5 = .ok (.iconst 2, 1) := by decide +kernel
theorem dX10_broken_6 : decode cX10_broken 6 = .ok (.if_icmp .le 5, 3) := by decide +kernel
theorem dX10_broken_9 : decode cX10_broken 9 = .ok (.iconst (-1), 1) := by decide +kernel
theorem dX10_broken_10 : decode cX10_broken 10 = .ok (.ireturn, 1) := by decide +kernel
theorem dX10_broken_11 : decode cX10_broken 11 = .ok (.aload_n 0, 1) := by decide +kernel
theorem dX10_broken_12 : decode cX10_broken 12 = .ok (.getfield 35, 3) := by decide +kernel
theorem dX10_broken_15 : decode cX10_broken 15 = .ok (.aload_n 0, 1) := by decide +kernel
theorem dX10_broken_16 : decode cX10_broken 16 = .ok (.getfield 14, 3) := by decide +kernel
theorem dX10_broken_19 : decode cX10_broken 19 = .ok (.getfield 93, 3) := by decide +kernel
theorem dX10_broken_22 : decode cX10_broken 22 = .ok (.invokevirtual 260, 3) := by decide +kernel
theorem dX10_broken_25 : decode cX10_broken 25 = .ok (.iload_n 1, 1) := by decide +kernel
theorem dX10_broken_26 : decode cX10_broken 26 = .ok (.ifCond .ne 11, 3) := by decide +kernel
theorem dX10_broken_29 : decode cX10_broken 29 = .ok (.aload_n 0, 1) := by decide +kernel
theorem dX10_broken_30 : decode cX10_broken 30 = .ok (.getfield 35, 3) := by decide +kernel
theorem dX10_broken_33 : decode cX10_broken 33 = .ok (.getfield 263, 3) := by decide +kernel
theorem dX10_broken_36 : decode cX10_broken 36 = .ok (.ireturn, 1) := by decide +kernel
theorem dX10_broken_37 : decode cX10_broken 37 = .ok (.aload_n 0, 1) := by decide +kernel
theorem dX10_broken_38 : decode cX10_broken 38 = .ok (.getfield 35, 3) := by decide +kernel
theorem dX10_broken_41 : decode cX10_broken 41 = .ok (.getfield 263, 3) := by decide +kernel
theorem dX10_broken_44 : decode cX10_broken 44 = .ok (.ifCond .ne 6, 3) := by decide +kernel
theorem dX10_broken_47 : decode cX10_broken 47 = .ok (.bipush (-5), 2) := by decide +kernel
theorem dX10_broken_49 : decode cX10_broken 49 = .ok (.ireturn, 1) := by decide +kernel
theorem dX10_broken_50 : decode cX10_broken 50 = .ok (.iload_n 1, 1) := by decide +kernel
theorem dX10_broken_51 : decode cX10_broken 51 = .ok (.iconst 1, 1) := by decide +kernel
theorem dX10_broken_52 : decode cX10_broken 52 = .ok (.if_icmp .ne 16, 3) := by decide +kernel
theorem dX10_broken_55 : decode cX10_broken 55 = .ok (.aload_n 0, 1) := by decide +kernel
theorem dX10_broken_56 : decode cX10_broken 56 = .ok (.getfield 35, 3) := by decide +kernel
theorem dX10_broken_59 : decode cX10_broken 59 = .ok (.getfield 266, 3) := by decide +kernel
theorem dX10_broken_62 : decode cX10_broken 62 = .ok (.bipush 40, 2) := by decide +kernel
theorem dX10_broken_64 : decode cX10_broken 64 = .ok (.idiv, 1) := by decide +kernel
theorem dX10_broken_65 : decode cX10_broken 65 = .ok (.goto 13, 3) := by decide +kernel
theorem dX10_broken_68 : decode cX10_broken 68 = .ok (.aload_n 0, 1) := by decide +kernel
theorem dX10_broken_69 : decode cX10_broken 69 = .ok (.getfield 35, 3) := by decide +kernel
theorem dX10_broken_72 : decode cX10_broken 72 = .ok (.getfield 266, 3) := by decide +kernel
theorem dX10_broken_75 : decode cX10_broken 75 = .ok (.bipush 40, 2) := by decide +kernel
theorem dX10_broken_77 : decode cX10_broken 77 = .ok (.irem, 1) := by decide +kernel
theorem dX10_broken_78 : decode cX10_broken 78 = .ok (.ireturn, 1) := by decide +kernel
theorem dX10_fewest_0 : decode cX10_fewest 0 = .ok (.aload_n 0, 1) := by decide +kernel
theorem dX10_fewest_1 : decode cX10_fewest 1 = .ok (.getfield 35, 3) := by decide +kernel
theorem dX10_fewest_4 : decode cX10_fewest 4 = .ok (.aload_n 0, 1) := by decide +kernel
theorem dX10_fewest_5 : decode cX10_fewest 5 = .ok (.getfield 14, 3) := by decide +kernel
theorem dX10_fewest_8 : decode cX10_fewest 8 = .ok (.getfield 93, 3) := by decide +kernel
theorem dX10_fewest_11 : decode cX10_fewest 11 = .ok (.invokevirtual 269, 3) := by decide +kernel
theorem dX10_fewest_14 : decode cX10_fewest 14 = .ok (.ireturn, 1) := by decide +kernel
theorem dX10_spell_0 : decode cX10_spell 0 = .ok (.aload_n 0, 1) := by decide +kernel
theorem dX10_spell_1 : decode cX10_spell 1 = .ok (.getfield 63, 3) := by decide +kernel
theorem dX10_spell_4 : decode cX10_spell 4 = .ok (.iconst 0, 1) := by decide +kernel
theorem dX10_spell_5 : decode cX10_spell 5 = .ok (.putfield 211, 3) := by decide +kernel
theorem dX10_spell_8 : decode cX10_spell 8 = .ok (.iconst 0, 1) := by decide +kernel
theorem dX10_spell_9 : decode cX10_spell 9 = .ok (.istore_n 1, 1) := by decide +kernel
theorem dX10_spell_10 : decode cX10_spell 10 = .ok (.iload_n 1, 1) := by decide +kernel
theorem dX10_spell_11 : decode cX10_spell 11 = .ok (.bipush 40, 2) := by decide +kernel
theorem dX10_spell_13 : decode cX10_spell 13 = .ok (.if_icmp .ge 59, 3) := by decide +kernel
theorem dX10_spell_16 : decode cX10_spell 16 = .ok (.iload_n 1, 1) := by decide +kernel
theorem dX10_spell_17 : decode cX10_spell 17 = .ok (.iconst 1, 1) := by decide +kernel
theorem dX10_spell_18 : decode cX10_spell 18 = .ok (.iadd, 1) := by decide +kernel
theorem dX10_spell_19 : decode cX10_spell 19 = .ok (.istore_n 2, 1) := by decide +kernel
theorem dX10_spell_20 : decode cX10_spell 20 = .ok (.iload_n 2, 1) := by decide +kernel
theorem dX10_spell_21 : decode cX10_spell 21 = .ok (.bipush 40, 2) := by decide +kernel
theorem dX10_spell_23 : decode cX10_spell 23 = .ok (.if_icmp .ge 43, 3) := by decide +kernel
theorem dX10_spell_26 : decode cX10_spell 26 = .ok (.aload_n 0, 1) := by decide +kernel
theorem dX10_spell_27 : decode cX10_spell 27 = .ok (.getfield 14, 3) := by decide +kernel
theorem dX10_spell_30 : decode cX10_spell 30 = .ok (.iload_n 1, 1) := by decide +kernel
theorem dX10_spell_31 : decode cX10_spell 31 = .ok (.iload_n 2, 1) := by decide +kernel
theorem dX10_spell_32 : decode cX10_spell 32 = .ok (.invokevirtual 86, 3) := by decide +kernel
theorem dX10_spell_35 : decode cX10_spell 35 = .ok (.ifCond .eq 25, 3) := by decide +kernel
theorem dX10_spell_38 : decode cX10_spell 38 = .ok (.aload_n 0, 1) := by decide +kernel
theorem dX10_spell_39 : decode cX10_spell 39 = .ok (.getfield 63, 3) := by decide +kernel
theorem dX10_spell_42 : decode cX10_spell 42 = .ok (.iload_n 1, 1) := by decide +kernel
theorem dX10_spell_43 : decode cX10_spell 43 = .ok (.iload_n 2, 1) := by decide +kernel
theorem dX10_spell_44 : decode cX10_spell 44 = .ok (.aload_n 0, 1) := by decide +kernel
theorem dX10_spell_45 : decode cX10_spell 45 = .ok (.getfield 14, 3) := by decide +kernel
theorem dX10_spell_48 : decode cX10_spell 48 = .ok (.getfield 109, 3) := by decide +kernel
theorem dX10_spell_51 : decode cX10_spell 51 = .ok (.iload_n 1, 1) := by decide +kernel
theorem dX10_spell_52 : decode cX10_spell 52 = .ok (.iload_n 2, 1) := by decide +kernel
theorem dX10_spell_53 : decode cX10_spell 53 = .ok (.invokestatic 112, 3) := by decide +kernel
theorem dX10_spell_56 : decode cX10_spell 56 = .ok (.iaload, 1) := by decide +kernel
theorem dX10_spell_57 : decode cX10_spell 57 = .ok (.invokevirtual 300, 3) := by decide +kernel
theorem dX10_spell_60 : decode cX10_spell 60 = .ok (.iinc 2 1, 3) := by decide +kernel
theorem dX10_spell_63 : decode cX10_spell 63 = .ok (.goto (-43), 3) := by decide +kernel
theorem dX10_spell_66 : decode cX10_spell 66 = .ok (.iinc 1 1, 3) := by decide +kernel
theorem dX10_spell_69 : decode cX10_spell 69 = .ok (.goto (-59), 3) := by decide +kernel
theorem dX10_spell_72 : decode cX10_spell 72 = .ok (.aload_n 0, 1) := by decide +kernel
theorem dX10_spell_73 : decode cX10_spell 73 = .ok (.getfield 63, 3) := by decide +kernel
theorem dX10_spell_76 : decode cX10_spell 76 = .ok (.getfield 211, 3) := by decide +kernel
theorem dX10_spell_79 : decode cX10_spell 79 = .ok (.ireturn, 1) := by decide +kernel
theorem dX10_back_0 : decode cX10_back 0 = .ok (.iload_n 1, 1) := by decide +kernel
theorem dX10_back_1 : decode cX10_back 1 = .ok (.ifCond .lt 9, 3) := by decide +kernel
theorem dX10_back_4 : decode cX10_back 4 = .ok (.iload_n 1, 1) := by decide +kernel
theorem dX10_back_5 : decode cX10_back 5 = .ok (.bipush 60, 2) := by decide +kernel
theorem dX10_back_7 : decode cX10_back 7 = .ok (.if_icmp .le 6, 3) := by decide +kernel
theorem dX10_back_10 : decode cX10_back 10 = .ok (.bipush (-2), 2) := by decide +kernel
theorem dX10_back_12 : decode cX10_back 12 = .ok (.ireturn, 1) := by decide +kernel
theorem dX10_back_13 : decode cX10_back 13 = .ok (.aload_n 0, 1) := by decide +kernel
theorem dX10_back_14 : decode cX10_back 14 = .ok (.getfield 14, 3) := by decide +kernel
theorem dX10_back_17 : decode cX10_back 17 = .ok (.iload_n 1, 1) := by decide +kernel
theorem dX10_back_18 : decode cX10_back 18 = .ok (.invokevirtual 307, 3) := by decide +kernel
theorem dX10_back_21 : decode cX10_back 21 = .ok (.ireturn, 1) := by decide +kernel
theorem dX10_image_0 : decode cX10_image 0 = .ok (.aload_n 0, 1) := by decide +kernel
theorem dX10_image_1 : decode cX10_image 1 = .ok (.getfield 18, 3) := by decide +kernel
theorem dX10_image_4 : decode cX10_image 4 = .ok (.aload_n 0, 1) := by decide +kernel
theorem dX10_image_5 : decode cX10_image 5 = .ok (.getfield 14, 3) := by decide +kernel
theorem dX10_image_8 : decode cX10_image 8 = .ok (.invokevirtual 352, 3) := by decide +kernel
theorem dX10_image_11 : decode cX10_image 11 = .ok (.aload_n 0, 1) := by decide +kernel
theorem dX10_image_12 : decode cX10_image 12 = .ok (.iconst 1, 1) := by decide +kernel
theorem dX10_image_13 : decode cX10_image 13 = .ok (.putfield 21, 3) := by decide +kernel
theorem dX10_image_16 : decode cX10_image 16 = .ok (.aload_n 0, 1) := by decide +kernel
theorem dX10_image_17 : decode cX10_image 17 = .ok (.getfield 14, 3) := by decide +kernel
theorem dX10_image_20 : decode cX10_image 20 = .ok (.getfield 173, 3) := by decide +kernel
theorem dX10_image_23 : decode cX10_image 23 = .ok (.ireturn, 1) := by decide +kernel
theorem dX10_undo_0 : decode cX10_undo 0 = .ok (.aload_n 0, 1) := by decide +kernel
theorem dX10_undo_1 : decode cX10_undo 1 = .ok (.getfield 21, 3) := by decide +kernel
theorem dX10_undo_4 : decode cX10_undo 4 = .ok (.ifCond .ne 6, 3) := by decide +kernel
theorem dX10_undo_7 : decode cX10_undo 7 = .ok (.bipush (-3), 2) := by decide +kernel
theorem dX10_undo_9 : decode cX10_undo 9 = .ok (.ireturn, 1) := by decide +kernel
theorem dX10_undo_10 : decode cX10_undo 10 = .ok (.aload_n 0, 1) := by decide +kernel
theorem dX10_undo_11 : decode cX10_undo 11 = .ok (.getfield 14, 3) := by decide +kernel
theorem dX10_undo_14 : decode cX10_undo 14 = .ok (.aload_n 0, 1) := by decide +kernel
theorem dX10_undo_15 : decode cX10_undo 15 = .ok (.getfield 18, 3) := by decide +kernel
theorem dX10_undo_18 : decode cX10_undo 18 = .ok (.invokevirtual 352, 3) := by decide +kernel
theorem dX10_undo_21 : decode cX10_undo 21 = .ok (.aload_n 0, 1) := by decide +kernel
theorem dX10_undo_22 : decode cX10_undo 22 = .ok (.getfield 14, 3) := by decide +kernel
theorem dX10_undo_25 : decode cX10_undo 25 = .ok (.getfield 173, 3) := by decide +kernel
theorem dX10_undo_28 : decode cX10_undo 28 = .ok (.ireturn, 1) := by decide +kernel
theorem dX10_isVertex_0 : decode cX10_isVertex 0 = .ok (.iload_n 0, 1) := by decide +kernel
theorem dX10_isVertex_1 : decode cX10_isVertex 1 = .ok (.ifCond .lt 13, 3) := by decide +kernel
theorem dX10_isVertex_4 : decode cX10_isVertex 4 = .ok (.iload_n 0, 1) := by decide +kernel
theorem dX10_isVertex_5 : decode cX10_isVertex 5 = .ok (.bipush 40, 2) := by decide +kernel
theorem dX10_isVertex_7 : decode cX10_isVertex 7 = .ok (.if_icmp .ge 7, 3) := by decide +kernel
theorem dX10_isVertex_10 : decode cX10_isVertex 10 = .ok (.iconst 1, 1) := by decide +kernel
theorem dX10_isVertex_11 : decode cX10_isVertex 11 = .ok (.goto 4, 3) := by decide +kernel
theorem dX10_isVertex_14 : decode cX10_isVertex 14 = .ok (.iconst 0, 1) := by decide +kernel
theorem dX10_isVertex_15 : decode cX10_isVertex 15 = .ok (.ireturn, 1) := by decide +kernel
theorem dX10_isTwo_0 : decode cX10_isTwo 0 = .ok (.iload_n 0, 1) := by decide +kernel
theorem dX10_isTwo_1 : decode cX10_isTwo 1 = .ok (.invokestatic 116, 3) := by decide +kernel
theorem dX10_isTwo_4 : decode cX10_isTwo 4 = .ok (.ifCond .eq 19, 3) := by decide +kernel
theorem dX10_isTwo_7 : decode cX10_isTwo 7 = .ok (.iload_n 1, 1) := by decide +kernel
theorem dX10_isTwo_8 : decode cX10_isTwo 8 = .ok (.invokestatic 116, 3) := by decide +kernel
theorem dX10_isTwo_11 : decode cX10_isTwo 11 = .ok (.ifCond .eq 12, 3) := by decide +kernel
theorem dX10_isTwo_14 : decode cX10_isTwo 14 = .ok (.iload_n 0, 1) := by decide +kernel
theorem dX10_isTwo_15 : decode cX10_isTwo 15 = .ok (.iload_n 1, 1) := by decide +kernel
theorem dX10_isTwo_16 : decode cX10_isTwo 16 = .ok (.if_icmp .eq 7, 3) := by decide +kernel
theorem dX10_isTwo_19 : decode cX10_isTwo 19 = .ok (.iconst 1, 1) := by decide +kernel
theorem dX10_isTwo_20 : decode cX10_isTwo 20 = .ok (.goto 4, 3) := by decide +kernel
theorem dX10_isTwo_23 : decode cX10_isTwo 23 = .ok (.iconst 0, 1) := by decide +kernel
theorem dX10_isTwo_24 : decode cX10_isTwo 24 = .ok (.ireturn, 1) := by decide +kernel
theorem dX10_pairOf_0 : decode cX10_pairOf 0 = .ok (.iload_n 0, 1) := by decide +kernel
theorem dX10_pairOf_1 : decode cX10_pairOf 1 = .ok (.iload_n 1, 1) := by decide +kernel
theorem dX10_pairOf_2 : decode cX10_pairOf 2 = .ok (.invokestatic 347, 3) := by decide +kernel
theorem dX10_pairOf_5 : decode cX10_pairOf 5 = .ok (.bipush 40, 2) := by decide +kernel
theorem dX10_pairOf_7 : decode cX10_pairOf 7 = .ok (.imul, 1) := by decide +kernel
theorem dX10_pairOf_8 : decode cX10_pairOf 8 = .ok (.iload_n 0, 1) := by decide +kernel
theorem dX10_pairOf_9 : decode cX10_pairOf 9 = .ok (.iload_n 1, 1) := by decide +kernel
theorem dX10_pairOf_10 : decode cX10_pairOf 10 = .ok (.invokestatic 366, 3) := by decide +kernel
theorem dX10_pairOf_13 : decode cX10_pairOf 13 = .ok (.iadd, 1) := by decide +kernel
theorem dX10_pairOf_14 : decode cX10_pairOf 14 = .ok (.ireturn, 1) := by decide +kernel
theorem dX10_hasBit_0 : decode cX10_hasBit 0 = .ok (.lload_n 0, 1) := by decide +kernel
theorem dX10_hasBit_1 : decode cX10_hasBit 1 = .ok (.iload_n 2, 1) := by decide +kernel
theorem dX10_hasBit_2 : decode cX10_hasBit 2 = .ok (.lushr, 1) := by decide +kernel
theorem dX10_hasBit_3 : decode cX10_hasBit 3 = .ok (.lconst 1, 1) := by decide +kernel
theorem dX10_hasBit_4 : decode cX10_hasBit 4 = .ok (.land, 1) := by decide +kernel
theorem dX10_hasBit_5 : decode cX10_hasBit 5 = .ok (.lconst 0, 1) := by decide +kernel
theorem dX10_hasBit_6 : decode cX10_hasBit 6 = .ok (.lcmp, 1) := by decide +kernel
theorem dX10_hasBit_7 : decode cX10_hasBit 7 = .ok (.ifCond .eq 7, 3) := by decide +kernel
theorem dX10_hasBit_10 : decode cX10_hasBit 10 = .ok (.iconst 1, 1) := by decide +kernel
theorem dX10_hasBit_11 : decode cX10_hasBit 11 = .ok (.goto 4, 3) := by decide +kernel
theorem dX10_hasBit_14 : decode cX10_hasBit 14 = .ok (.iconst 0, 1) := by decide +kernel
theorem dX10_hasBit_15 : decode cX10_hasBit 15 = .ok (.ireturn, 1) := by decide +kernel
theorem dX10_above_0 : decode cX10_above 0 = .ok (.ldc2_w 230, 3) := by decide +kernel
theorem dX10_above_3 : decode cX10_above 3 = .ok (.ldc2_w 369, 3) := by decide +kernel
theorem dX10_above_6 : decode cX10_above 6 = .ok (.iload_n 0, 1) := by decide +kernel
theorem dX10_above_7 : decode cX10_above 7 = .ok (.lshl, 1) := by decide +kernel
theorem dX10_above_8 : decode cX10_above 8 = .ok (.land, 1) := by decide +kernel
theorem dX10_above_9 : decode cX10_above 9 = .ok (.lreturn, 1) := by decide +kernel
theorem dJ6_numberOfTrailingZeros_0f7a4_0 : decode cJ6_numberOfTrailingZeros_0f7a4 0 = .ok (.iload_n 0, 1) := by decide +kernel
theorem dJ6_numberOfTrailingZeros_0f7a4_1 : decode cJ6_numberOfTrailingZeros_0f7a4 1 = .ok (.iconst (-1), 1) := by decide +kernel
theorem dJ6_numberOfTrailingZeros_0f7a4_2 : decode cJ6_numberOfTrailingZeros_0f7a4 2 = .ok (.ixor, 1) := by decide +kernel
theorem dJ6_numberOfTrailingZeros_0f7a4_3 : decode cJ6_numberOfTrailingZeros_0f7a4 3 = .ok (.iload_n 0, 1) := by decide +kernel
theorem dJ6_numberOfTrailingZeros_0f7a4_4 : decode cJ6_numberOfTrailingZeros_0f7a4 4 = .ok (.iconst 1, 1) := by decide +kernel
theorem dJ6_numberOfTrailingZeros_0f7a4_5 : decode cJ6_numberOfTrailingZeros_0f7a4 5 = .ok (.isub, 1) := by decide +kernel
theorem dJ6_numberOfTrailingZeros_0f7a4_6 : decode cJ6_numberOfTrailingZeros_0f7a4 6 = .ok (.iand, 1) := by decide +kernel
theorem dJ6_numberOfTrailingZeros_0f7a4_7 : decode cJ6_numberOfTrailingZeros_0f7a4 7 = .ok (.istore_n 0, 1) := by decide +kernel
theorem dJ6_numberOfTrailingZeros_0f7a4_8 : decode cJ6_numberOfTrailingZeros_0f7a4 8 = .ok (.iload_n 0, 1) := by decide +kernel
theorem dJ6_numberOfTrailingZeros_0f7a4_9 : decode cJ6_numberOfTrailingZeros_0f7a4 9 = .ok (.ifCond .gt 8, 3) := by decide +kernel
theorem dJ6_numberOfTrailingZeros_0f7a4_12 : decode cJ6_numberOfTrailingZeros_0f7a4 12 = .ok (.iload_n 0, 1) := by decide +kernel
theorem dJ6_numberOfTrailingZeros_0f7a4_13 : decode cJ6_numberOfTrailingZeros_0f7a4 13 = .ok (.bipush 32, 2) := by decide +kernel
theorem dJ6_numberOfTrailingZeros_0f7a4_15 : decode cJ6_numberOfTrailingZeros_0f7a4 15 = .ok (.iand, 1) := by decide +kernel
theorem dJ6_numberOfTrailingZeros_0f7a4_16 : decode cJ6_numberOfTrailingZeros_0f7a4 16 = .ok (.ireturn, 1) := by decide +kernel
theorem dJ6_numberOfTrailingZeros_0f7a4_17 : decode cJ6_numberOfTrailingZeros_0f7a4 17 = .ok (.iconst 1, 1) := by decide +kernel
theorem dJ6_numberOfTrailingZeros_0f7a4_18 : decode cJ6_numberOfTrailingZeros_0f7a4 18 = .ok (.istore_n 1, 1) := by decide +kernel
theorem dJ6_numberOfTrailingZeros_0f7a4_19 : decode cJ6_numberOfTrailingZeros_0f7a4 19 = .ok (.iload_n 0, 1) := by decide +kernel
theorem dJ6_numberOfTrailingZeros_0f7a4_20 : decode cJ6_numberOfTrailingZeros_0f7a4 20 = .ok (.ldc_w 264, 3) := by decide +kernel
theorem dJ6_numberOfTrailingZeros_0f7a4_23 : decode cJ6_numberOfTrailingZeros_0f7a4 23 = .ok (.if_icmp .le 11, 3) := by decide +kernel
theorem dJ6_numberOfTrailingZeros_0f7a4_26 : decode cJ6_numberOfTrailingZeros_0f7a4 26 = .ok (.iinc 1 16, 3) := by decide +kernel
theorem dJ6_numberOfTrailingZeros_0f7a4_29 : decode cJ6_numberOfTrailingZeros_0f7a4 29 = .ok (.iload_n 0, 1) := by decide +kernel
theorem dJ6_numberOfTrailingZeros_0f7a4_30 : decode cJ6_numberOfTrailingZeros_0f7a4 30 = .ok (.bipush 16, 2) := by decide +kernel
theorem dJ6_numberOfTrailingZeros_0f7a4_32 : decode cJ6_numberOfTrailingZeros_0f7a4 32 = .ok (.iushr, 1) := by decide +kernel
theorem dJ6_numberOfTrailingZeros_0f7a4_33 : decode cJ6_numberOfTrailingZeros_0f7a4 33 = .ok (.istore_n 0, 1) := by decide +kernel
theorem dJ6_numberOfTrailingZeros_0f7a4_34 : decode cJ6_numberOfTrailingZeros_0f7a4 34 = .ok (.iload_n 0, 1) := by decide +kernel
theorem dJ6_numberOfTrailingZeros_0f7a4_35 : decode cJ6_numberOfTrailingZeros_0f7a4 35 = .ok (.sipush 256, 3) := by decide +kernel
theorem dJ6_numberOfTrailingZeros_0f7a4_38 : decode cJ6_numberOfTrailingZeros_0f7a4 38 = .ok (.if_icmp .le 11, 3) := by decide +kernel
theorem dJ6_numberOfTrailingZeros_0f7a4_41 : decode cJ6_numberOfTrailingZeros_0f7a4 41 = .ok (.iinc 1 8, 3) := by decide +kernel
theorem dJ6_numberOfTrailingZeros_0f7a4_44 : decode cJ6_numberOfTrailingZeros_0f7a4 44 = .ok (.iload_n 0, 1) := by decide +kernel
theorem dJ6_numberOfTrailingZeros_0f7a4_45 : decode cJ6_numberOfTrailingZeros_0f7a4 45 = .ok (.bipush 8, 2) := by decide +kernel
theorem dJ6_numberOfTrailingZeros_0f7a4_47 : decode cJ6_numberOfTrailingZeros_0f7a4 47 = .ok (.iushr, 1) := by decide +kernel
theorem dJ6_numberOfTrailingZeros_0f7a4_48 : decode cJ6_numberOfTrailingZeros_0f7a4 48 = .ok (.istore_n 0, 1) := by decide +kernel
theorem dJ6_numberOfTrailingZeros_0f7a4_49 : decode cJ6_numberOfTrailingZeros_0f7a4 49 = .ok (.iload_n 0, 1) := by decide +kernel
theorem dJ6_numberOfTrailingZeros_0f7a4_50 : decode cJ6_numberOfTrailingZeros_0f7a4 50 = .ok (.bipush 16, 2) := by decide +kernel
theorem dJ6_numberOfTrailingZeros_0f7a4_52 : decode cJ6_numberOfTrailingZeros_0f7a4 52 = .ok (.if_icmp .le 10, 3) := by decide +kernel
theorem dJ6_numberOfTrailingZeros_0f7a4_55 : decode cJ6_numberOfTrailingZeros_0f7a4 55 = .ok (.iinc 1 4, 3) := by decide +kernel
theorem dJ6_numberOfTrailingZeros_0f7a4_58 : decode cJ6_numberOfTrailingZeros_0f7a4 58 = .ok (.iload_n 0, 1) := by decide +kernel
theorem dJ6_numberOfTrailingZeros_0f7a4_59 : decode cJ6_numberOfTrailingZeros_0f7a4 59 = .ok (.iconst 4, 1) := by decide +kernel
theorem dJ6_numberOfTrailingZeros_0f7a4_60 : decode cJ6_numberOfTrailingZeros_0f7a4 60 = .ok (.iushr, 1) := by decide +kernel
theorem dJ6_numberOfTrailingZeros_0f7a4_61 : decode cJ6_numberOfTrailingZeros_0f7a4 61 = .ok (.istore_n 0, 1) := by decide +kernel
theorem dJ6_numberOfTrailingZeros_0f7a4_62 : decode cJ6_numberOfTrailingZeros_0f7a4 62 = .ok (.iload_n 0, 1) := by decide +kernel
theorem dJ6_numberOfTrailingZeros_0f7a4_63 : decode cJ6_numberOfTrailingZeros_0f7a4 63 = .ok (.iconst 4, 1) := by decide +kernel
theorem dJ6_numberOfTrailingZeros_0f7a4_64 : decode cJ6_numberOfTrailingZeros_0f7a4 64 = .ok (.if_icmp .le 10, 3) := by decide +kernel
theorem dJ6_numberOfTrailingZeros_0f7a4_67 : decode cJ6_numberOfTrailingZeros_0f7a4 67 = .ok (.iinc 1 2, 3) := by decide +kernel
theorem dJ6_numberOfTrailingZeros_0f7a4_70 : decode cJ6_numberOfTrailingZeros_0f7a4 70 = .ok (.iload_n 0, 1) := by decide +kernel
theorem dJ6_numberOfTrailingZeros_0f7a4_71 : decode cJ6_numberOfTrailingZeros_0f7a4 71 = .ok (.iconst 2, 1) := by decide +kernel
theorem dJ6_numberOfTrailingZeros_0f7a4_72 : decode cJ6_numberOfTrailingZeros_0f7a4 72 = .ok (.iushr, 1) := by decide +kernel
theorem dJ6_numberOfTrailingZeros_0f7a4_73 : decode cJ6_numberOfTrailingZeros_0f7a4 73 = .ok (.istore_n 0, 1) := by decide +kernel
theorem dJ6_numberOfTrailingZeros_0f7a4_74 : decode cJ6_numberOfTrailingZeros_0f7a4 74 = .ok (.iload_n 1, 1) := by decide +kernel
theorem dJ6_numberOfTrailingZeros_0f7a4_75 : decode cJ6_numberOfTrailingZeros_0f7a4 75 = .ok (.iload_n 0, 1) := by decide +kernel
theorem dJ6_numberOfTrailingZeros_0f7a4_76 : decode cJ6_numberOfTrailingZeros_0f7a4 76 = .ok (.iconst 1, 1) := by decide +kernel
theorem dJ6_numberOfTrailingZeros_0f7a4_77 : decode cJ6_numberOfTrailingZeros_0f7a4 77 = .ok (.iushr, 1) := by decide +kernel
theorem dJ6_numberOfTrailingZeros_0f7a4_78 : decode cJ6_numberOfTrailingZeros_0f7a4 78 = .ok (.iadd, 1) := by decide +kernel
theorem dJ6_numberOfTrailingZeros_0f7a4_79 : decode cJ6_numberOfTrailingZeros_0f7a4 79 = .ok (.ireturn, 1) := by decide +kernel
theorem dJ13_numberOfTrailingZeros_95d88_0 : decode cJ13_numberOfTrailingZeros_95d88 0 = .ok (.lload_n 0, 1) := by decide +kernel
theorem dJ13_numberOfTrailingZeros_95d88_1 : decode cJ13_numberOfTrailingZeros_95d88 1 = .ok (.l2i, 1) := by decide +kernel
theorem dJ13_numberOfTrailingZeros_95d88_2 : decode cJ13_numberOfTrailingZeros_95d88 2 = .ok (.istore_n 2, 1) := by decide +kernel
theorem dJ13_numberOfTrailingZeros_95d88_3 : decode cJ13_numberOfTrailingZeros_95d88 3 = .ok (.iload_n 2, 1) := by decide +kernel
theorem dJ13_numberOfTrailingZeros_95d88_4 : decode cJ13_numberOfTrailingZeros_95d88 4 = .ok (.ifCond .ne 17, 3) := by decide +kernel
theorem dJ13_numberOfTrailingZeros_95d88_7 : decode cJ13_numberOfTrailingZeros_95d88 7 = .ok (.bipush 32, 2) := by decide +kernel
theorem dJ13_numberOfTrailingZeros_95d88_9 : decode cJ13_numberOfTrailingZeros_95d88 9 = .ok (.lload_n 0, 1) := by decide +kernel
theorem dJ13_numberOfTrailingZeros_95d88_10 : decode cJ13_numberOfTrailingZeros_95d88 10 = .ok (.bipush 32, 2) := by decide +kernel
theorem dJ13_numberOfTrailingZeros_95d88_12 : decode cJ13_numberOfTrailingZeros_95d88 12 = .ok (.lushr, 1) := by decide +kernel
theorem dJ13_numberOfTrailingZeros_95d88_13 : decode cJ13_numberOfTrailingZeros_95d88 13 = .ok (.l2i, 1) := by decide +kernel
theorem dJ13_numberOfTrailingZeros_95d88_14 : decode cJ13_numberOfTrailingZeros_95d88 14 = .ok (.invokestatic 311, 3) := by decide +kernel
theorem dJ13_numberOfTrailingZeros_95d88_17 : decode cJ13_numberOfTrailingZeros_95d88 17 = .ok (.iadd, 1) := by decide +kernel
theorem dJ13_numberOfTrailingZeros_95d88_18 : decode cJ13_numberOfTrailingZeros_95d88 18 = .ok (.goto 7, 3) := by decide +kernel
theorem dJ13_numberOfTrailingZeros_95d88_21 : decode cJ13_numberOfTrailingZeros_95d88 21 = .ok (.iload_n 2, 1) := by decide +kernel
theorem dJ13_numberOfTrailingZeros_95d88_22 : decode cJ13_numberOfTrailingZeros_95d88 22 = .ok (.invokestatic 311, 3) := by decide +kernel
theorem dJ13_numberOfTrailingZeros_95d88_25 : decode cJ13_numberOfTrailingZeros_95d88 25 = .ok (.ireturn, 1) := by decide +kernel
theorem dJ13_bitCount_95d88_0 : decode cJ13_bitCount_95d88 0 = .ok (.lload_n 0, 1) := by decide +kernel
theorem dJ13_bitCount_95d88_1 : decode cJ13_bitCount_95d88 1 = .ok (.lload_n 0, 1) := by decide +kernel
theorem dJ13_bitCount_95d88_2 : decode cJ13_bitCount_95d88 2 = .ok (.iconst 1, 1) := by decide +kernel
theorem dJ13_bitCount_95d88_3 : decode cJ13_bitCount_95d88 3 = .ok (.lushr, 1) := by decide +kernel
theorem dJ13_bitCount_95d88_4 : decode cJ13_bitCount_95d88 4 = .ok (.ldc2_w 314, 3) := by decide +kernel
theorem dJ13_bitCount_95d88_7 : decode cJ13_bitCount_95d88 7 = .ok (.land, 1) := by decide +kernel
theorem dJ13_bitCount_95d88_8 : decode cJ13_bitCount_95d88 8 = .ok (.lsub, 1) := by decide +kernel
theorem dJ13_bitCount_95d88_9 : decode cJ13_bitCount_95d88 9 = .ok (.lstore_n 0, 1) := by decide +kernel
theorem dJ13_bitCount_95d88_10 : decode cJ13_bitCount_95d88 10 = .ok (.lload_n 0, 1) := by decide +kernel
theorem dJ13_bitCount_95d88_11 : decode cJ13_bitCount_95d88 11 = .ok (.ldc2_w 316, 3) := by decide +kernel
theorem dJ13_bitCount_95d88_14 : decode cJ13_bitCount_95d88 14 = .ok (.land, 1) := by decide +kernel
theorem dJ13_bitCount_95d88_15 : decode cJ13_bitCount_95d88 15 = .ok (.lload_n 0, 1) := by decide +kernel
theorem dJ13_bitCount_95d88_16 : decode cJ13_bitCount_95d88 16 = .ok (.iconst 2, 1) := by decide +kernel
theorem dJ13_bitCount_95d88_17 : decode cJ13_bitCount_95d88 17 = .ok (.lushr, 1) := by decide +kernel
theorem dJ13_bitCount_95d88_18 : decode cJ13_bitCount_95d88 18 = .ok (.ldc2_w 316, 3) := by decide +kernel
theorem dJ13_bitCount_95d88_21 : decode cJ13_bitCount_95d88 21 = .ok (.land, 1) := by decide +kernel
theorem dJ13_bitCount_95d88_22 : decode cJ13_bitCount_95d88 22 = .ok (.ladd, 1) := by decide +kernel
theorem dJ13_bitCount_95d88_23 : decode cJ13_bitCount_95d88 23 = .ok (.lstore_n 0, 1) := by decide +kernel
theorem dJ13_bitCount_95d88_24 : decode cJ13_bitCount_95d88 24 = .ok (.lload_n 0, 1) := by decide +kernel
theorem dJ13_bitCount_95d88_25 : decode cJ13_bitCount_95d88 25 = .ok (.lload_n 0, 1) := by decide +kernel
theorem dJ13_bitCount_95d88_26 : decode cJ13_bitCount_95d88 26 = .ok (.iconst 4, 1) := by decide +kernel
theorem dJ13_bitCount_95d88_27 : decode cJ13_bitCount_95d88 27 = .ok (.lushr, 1) := by decide +kernel
theorem dJ13_bitCount_95d88_28 : decode cJ13_bitCount_95d88 28 = .ok (.ladd, 1) := by decide +kernel
theorem dJ13_bitCount_95d88_29 : decode cJ13_bitCount_95d88 29 = .ok (.ldc2_w 318, 3) := by decide +kernel
theorem dJ13_bitCount_95d88_32 : decode cJ13_bitCount_95d88 32 = .ok (.land, 1) := by decide +kernel
theorem dJ13_bitCount_95d88_33 : decode cJ13_bitCount_95d88 33 = .ok (.lstore_n 0, 1) := by decide +kernel
theorem dJ13_bitCount_95d88_34 : decode cJ13_bitCount_95d88 34 = .ok (.lload_n 0, 1) := by decide +kernel
theorem dJ13_bitCount_95d88_35 : decode cJ13_bitCount_95d88 35 = .ok (.lload_n 0, 1) := by decide +kernel
theorem dJ13_bitCount_95d88_36 : decode cJ13_bitCount_95d88 36 = .ok (.bipush 8, 2) := by decide +kernel
theorem dJ13_bitCount_95d88_38 : decode cJ13_bitCount_95d88 38 = .ok (.lushr, 1) := by decide +kernel
theorem dJ13_bitCount_95d88_39 : decode cJ13_bitCount_95d88 39 = .ok (.ladd, 1) := by decide +kernel
theorem dJ13_bitCount_95d88_40 : decode cJ13_bitCount_95d88 40 = .ok (.lstore_n 0, 1) := by decide +kernel
theorem dJ13_bitCount_95d88_41 : decode cJ13_bitCount_95d88 41 = .ok (.lload_n 0, 1) := by decide +kernel
theorem dJ13_bitCount_95d88_42 : decode cJ13_bitCount_95d88 42 = .ok (.lload_n 0, 1) := by decide +kernel
theorem dJ13_bitCount_95d88_43 : decode cJ13_bitCount_95d88 43 = .ok (.bipush 16, 2) := by decide +kernel
theorem dJ13_bitCount_95d88_45 : decode cJ13_bitCount_95d88 45 = .ok (.lushr, 1) := by decide +kernel
theorem dJ13_bitCount_95d88_46 : decode cJ13_bitCount_95d88 46 = .ok (.ladd, 1) := by decide +kernel
theorem dJ13_bitCount_95d88_47 : decode cJ13_bitCount_95d88 47 = .ok (.lstore_n 0, 1) := by decide +kernel
theorem dJ13_bitCount_95d88_48 : decode cJ13_bitCount_95d88 48 = .ok (.lload_n 0, 1) := by decide +kernel
theorem dJ13_bitCount_95d88_49 : decode cJ13_bitCount_95d88 49 = .ok (.lload_n 0, 1) := by decide +kernel
theorem dJ13_bitCount_95d88_50 : decode cJ13_bitCount_95d88 50 = .ok (.bipush 32, 2) := by decide +kernel
theorem dJ13_bitCount_95d88_52 : decode cJ13_bitCount_95d88 52 = .ok (.lushr, 1) := by decide +kernel
theorem dJ13_bitCount_95d88_53 : decode cJ13_bitCount_95d88 53 = .ok (.ladd, 1) := by decide +kernel
theorem dJ13_bitCount_95d88_54 : decode cJ13_bitCount_95d88 54 = .ok (.lstore_n 0, 1) := by decide +kernel
theorem dJ13_bitCount_95d88_55 : decode cJ13_bitCount_95d88 55 = .ok (.lload_n 0, 1) := by decide +kernel
theorem dJ13_bitCount_95d88_56 : decode cJ13_bitCount_95d88 56 = .ok (.l2i, 1) := by decide +kernel
theorem dJ13_bitCount_95d88_57 : decode cJ13_bitCount_95d88 57 = .ok (.bipush 127, 2) := by decide +kernel
theorem dJ13_bitCount_95d88_59 : decode cJ13_bitCount_95d88 59 = .ok (.iand, 1) := by decide +kernel
theorem dJ13_bitCount_95d88_60 : decode cJ13_bitCount_95d88 60 = .ok (.ireturn, 1) := by decide +kernel
theorem dJ9_abs_0f7a4_0 : decode cJ9_abs_0f7a4 0 = .ok (.iload_n 0, 1) := by decide +kernel
theorem dJ9_abs_0f7a4_1 : decode cJ9_abs_0f7a4 1 = .ok (.ifCond .ge 8, 3) := by decide +kernel
theorem dJ9_abs_0f7a4_4 : decode cJ9_abs_0f7a4 4 = .ok (.iload_n 0, 1) := by decide +kernel
theorem dJ9_abs_0f7a4_5 : decode cJ9_abs_0f7a4 5 = .ok (.ineg, 1) := by decide +kernel
theorem dJ9_abs_0f7a4_6 : decode cJ9_abs_0f7a4 6 = .ok (.goto 4, 3) := by decide +kernel
theorem dJ9_abs_0f7a4_9 : decode cJ9_abs_0f7a4 9 = .ok (.iload_n 0, 1) := by decide +kernel
theorem dJ9_abs_0f7a4_10 : decode cJ9_abs_0f7a4 10 = .ok (.ireturn, 1) := by decide +kernel
theorem dJ9_max_7cf53_0 : decode cJ9_max_7cf53 0 = .ok (.iload_n 0, 1) := by decide +kernel
theorem dJ9_max_7cf53_1 : decode cJ9_max_7cf53 1 = .ok (.iload_n 1, 1) := by decide +kernel
theorem dJ9_max_7cf53_2 : decode cJ9_max_7cf53 2 = .ok (.if_icmp .lt 7, 3) := by decide +kernel
theorem dJ9_max_7cf53_5 : decode cJ9_max_7cf53 5 = .ok (.iload_n 0, 1) := by decide +kernel
theorem dJ9_max_7cf53_6 : decode cJ9_max_7cf53 6 = .ok (.goto 4, 3) := by decide +kernel
theorem dJ9_max_7cf53_9 : decode cJ9_max_7cf53 9 = .ok (.iload_n 1, 1) := by decide +kernel
theorem dJ9_max_7cf53_10 : decode cJ9_max_7cf53 10 = .ok (.ireturn, 1) := by decide +kernel
theorem dJ9_min_7cf53_0 : decode cJ9_min_7cf53 0 = .ok (.iload_n 0, 1) := by decide +kernel
theorem dJ9_min_7cf53_1 : decode cJ9_min_7cf53 1 = .ok (.iload_n 1, 1) := by decide +kernel
theorem dJ9_min_7cf53_2 : decode cJ9_min_7cf53 2 = .ok (.if_icmp .gt 7, 3) := by decide +kernel
theorem dJ9_min_7cf53_5 : decode cJ9_min_7cf53 5 = .ok (.iload_n 0, 1) := by decide +kernel
theorem dJ9_min_7cf53_6 : decode cJ9_min_7cf53 6 = .ok (.goto 4, 3) := by decide +kernel
theorem dJ9_min_7cf53_9 : decode cJ9_min_7cf53 9 = .ok (.iload_n 1, 1) := by decide +kernel
theorem dJ9_min_7cf53_10 : decode cJ9_min_7cf53 10 = .ok (.ireturn, 1) := by decide +kernel
theorem dJ7_fill_53178_0 : decode cJ7_fill_53178 0 = .ok (.iconst 0, 1) := by decide +kernel
theorem dJ7_fill_53178_1 : decode cJ7_fill_53178 1 = .ok (.istore_n 2, 1) := by decide +kernel
theorem dJ7_fill_53178_2 : decode cJ7_fill_53178 2 = .ok (.aload_n 0, 1) := by decide +kernel
theorem dJ7_fill_53178_3 : decode cJ7_fill_53178 3 = .ok (.arraylength, 1) := by decide +kernel
theorem dJ7_fill_53178_4 : decode cJ7_fill_53178 4 = .ok (.istore_n 3, 1) := by decide +kernel
theorem dJ7_fill_53178_5 : decode cJ7_fill_53178 5 = .ok (.iload_n 2, 1) := by decide +kernel
theorem dJ7_fill_53178_6 : decode cJ7_fill_53178 6 = .ok (.iload_n 3, 1) := by decide +kernel
theorem dJ7_fill_53178_7 : decode cJ7_fill_53178 7 = .ok (.if_icmp .ge 13, 3) := by decide +kernel
theorem dJ7_fill_53178_10 : decode cJ7_fill_53178 10 = .ok (.aload_n 0, 1) := by decide +kernel
theorem dJ7_fill_53178_11 : decode cJ7_fill_53178 11 = .ok (.iload_n 2, 1) := by decide +kernel
theorem dJ7_fill_53178_12 : decode cJ7_fill_53178 12 = .ok (.iload_n 1, 1) := by decide +kernel
theorem dJ7_fill_53178_13 : decode cJ7_fill_53178 13 = .ok (.iastore, 1) := by decide +kernel
theorem dJ7_fill_53178_14 : decode cJ7_fill_53178 14 = .ok (.iinc 2 1, 3) := by decide +kernel
theorem dJ7_fill_53178_17 : decode cJ7_fill_53178 17 = .ok (.goto (-12), 3) := by decide +kernel
theorem dJ7_fill_53178_20 : decode cJ7_fill_53178 20 = .ok (.return_, 1) := by decide +kernel
theorem dJ7_copyOf_9075b_0 : decode cJ7_copyOf_9075b 0 = .ok (.iload_n 1, 1) := by decide +kernel
theorem dJ7_copyOf_9075b_1 : decode cJ7_copyOf_9075b 1 = .ok (.aload_n 0, 1) := by decide +kernel
theorem dJ7_copyOf_9075b_2 : decode cJ7_copyOf_9075b 2 = .ok (.arraylength, 1) := by decide +kernel
theorem dJ7_copyOf_9075b_3 : decode cJ7_copyOf_9075b 3 = .ok (.if_icmp .ne 11, 3) := by decide +kernel
theorem dJ7_copyOf_9075b_6 : decode cJ7_copyOf_9075b 6 = .ok (.aload_n 0, 1) := by decide +kernel
theorem dJ7_copyOf_9075b_7 : decode cJ7_copyOf_9075b 7 = .ok (.invokevirtual 310, 3) := by decide +kernel
theorem dJ7_copyOf_9075b_10 : decode cJ7_copyOf_9075b 10 = .ok (.checkcast 311, 3) := by decide +kernel
theorem dJ7_copyOf_9075b_13 : decode cJ7_copyOf_9075b 13 = .ok (.areturn, 1) := by decide +kernel
theorem dJ7_copyOf_9075b_14 : decode cJ7_copyOf_9075b 14 = .ok (.iload_n 1, 1) := by decide +kernel
theorem dJ7_copyOf_9075b_15 : decode cJ7_copyOf_9075b 15 = .ok (.newarray .byte, 2) := by decide +kernel
theorem dJ7_copyOf_9075b_17 : decode cJ7_copyOf_9075b 17 = .ok (.astore_n 2, 1) := by decide +kernel
theorem dJ7_copyOf_9075b_18 : decode cJ7_copyOf_9075b 18 = .ok (.aload_n 0, 1) := by decide +kernel
theorem dJ7_copyOf_9075b_19 : decode cJ7_copyOf_9075b 19 = .ok (.iconst 0, 1) := by decide +kernel
theorem dJ7_copyOf_9075b_20 : decode cJ7_copyOf_9075b 20 = .ok (.aload_n 2, 1) := by decide +kernel
theorem dJ7_copyOf_9075b_21 : decode cJ7_copyOf_9075b 21 = .ok (.iconst 0, 1) := by decide +kernel
theorem dJ7_copyOf_9075b_22 : decode cJ7_copyOf_9075b 22 = .ok (.aload_n 0, 1) := by decide +kernel
theorem dJ7_copyOf_9075b_23 : decode cJ7_copyOf_9075b 23 = .ok (.arraylength, 1) := by decide +kernel
theorem dJ7_copyOf_9075b_24 : decode cJ7_copyOf_9075b 24 = .ok (.iload_n 1, 1) := by decide +kernel
theorem dJ7_copyOf_9075b_25 : decode cJ7_copyOf_9075b 25 = .ok (.invokestatic 304, 3) := by decide +kernel
theorem dJ7_copyOf_9075b_28 : decode cJ7_copyOf_9075b 28 = .ok (.invokestatic 150, 3) := by decide +kernel
theorem dJ7_copyOf_9075b_31 : decode cJ7_copyOf_9075b 31 = .ok (.aload_n 2, 1) := by decide +kernel
theorem dJ7_copyOf_9075b_32 : decode cJ7_copyOf_9075b 32 = .ok (.areturn, 1) := by decide +kernel
theorem dL_cell_0 : decode cL_cell 0 = .ok (.ldc 7, 2) := by decide +kernel
theorem dL_cell_2 : decode cL_cell 2 = .ok (.iload_n 1, 1) := by decide +kernel
theorem dL_cell_3 : decode cL_cell 3 = .ok (.aload_n 0, 1) := by decide +kernel
theorem dL_cell_4 : decode cL_cell 4 = .ok (.arraylength, 1) := by decide +kernel
theorem dL_cell_5 : decode cL_cell 5 = .ok (.if_icmp .ge 9, 3) := by decide +kernel
theorem dL_cell_8 : decode cL_cell 8 = .ok (.aload_n 0, 1) := by decide +kernel
theorem dL_cell_9 : decode cL_cell 9 = .ok (.iload_n 1, 1) := by decide +kernel
theorem dL_cell_10 : decode cL_cell 10 = .ok (.iaload, 1) := by decide +kernel
theorem dL_cell_11 : decode cL_cell 11 = .ok (.goto 4, 3) := by decide +kernel
theorem dL_cell_14 : decode cL_cell 14 = .ok (.iconst 0, 1) := by decide +kernel
theorem dL_cell_15 : decode cL_cell 15 = .ok (.sipush 1009, 3) := by decide +kernel
theorem dL_cell_18 : decode cL_cell 18 = .ok (.iload_n 1, 1) := by decide +kernel
theorem dL_cell_19 : decode cL_cell 19 = .ok (.imul, 1) := by decide +kernel
theorem dL_cell_20 : decode cL_cell 20 = .ok (.iadd, 1) := by decide +kernel
theorem dL_cell_21 : decode cL_cell 21 = .ok (.imul, 1) := by decide +kernel
theorem dL_cell_22 : decode cL_cell 22 = .ok (.sipush 12345, 3) := by decide +kernel
theorem dL_cell_25 : decode cL_cell 25 = .ok (.iadd, 1) := by decide +kernel
theorem dL_cell_26 : decode cL_cell 26 = .ok (.istore_n 2, 1) := by decide +kernel
theorem dL_cell_27 : decode cL_cell 27 = .ok (.iload_n 2, 1) := by decide +kernel
theorem dL_cell_28 : decode cL_cell 28 = .ok (.iload_n 2, 1) := by decide +kernel
theorem dL_cell_29 : decode cL_cell 29 = .ok (.bipush 13, 2) := by decide +kernel
theorem dL_cell_31 : decode cL_cell 31 = .ok (.iushr, 1) := by decide +kernel
theorem dL_cell_32 : decode cL_cell 32 = .ok (.ixor, 1) := by decide +kernel
theorem dL_cell_33 : decode cL_cell 33 = .ok (.ldc 8, 2) := by decide +kernel
theorem dL_cell_35 : decode cL_cell 35 = .ok (.imul, 1) := by decide +kernel
theorem dL_cell_36 : decode cL_cell 36 = .ok (.istore_n 2, 1) := by decide +kernel
theorem dL_cell_37 : decode cL_cell 37 = .ok (.iload_n 2, 1) := by decide +kernel
theorem dL_cell_38 : decode cL_cell 38 = .ok (.iload_n 2, 1) := by decide +kernel
theorem dL_cell_39 : decode cL_cell 39 = .ok (.bipush 16, 2) := by decide +kernel
theorem dL_cell_41 : decode cL_cell 41 = .ok (.iushr, 1) := by decide +kernel
theorem dL_cell_42 : decode cL_cell 42 = .ok (.ixor, 1) := by decide +kernel
theorem dL_cell_43 : decode cL_cell 43 = .ok (.ireturn, 1) := by decide +kernel
theorem dL_bits_0 : decode cL_bits 0 = .ok (.iconst 0, 1) := by decide +kernel
theorem dL_bits_1 : decode cL_bits 1 = .ok (.istore_n 2, 1) := by decide +kernel
theorem dL_bits_2 : decode cL_bits 2 = .ok (.lload_n 0, 1) := by decide +kernel
theorem dL_bits_3 : decode cL_bits 3 = .ok (.lstore_n 3, 1) := by decide +kernel
theorem dL_bits_4 : decode cL_bits 4 = .ok (.lload_n 3, 1) := by decide +kernel
theorem dL_bits_5 : decode cL_bits 5 = .ok (.lconst 0, 1) := by decide +kernel
theorem dL_bits_6 : decode cL_bits 6 = .ok (.lcmp, 1) := by decide +kernel
theorem dL_bits_7 : decode cL_bits 7 = .ok (.ifCond .eq 15, 3) := by decide +kernel
theorem dL_bits_10 : decode cL_bits 10 = .ok (.iinc 2 1, 3) := by decide +kernel
theorem dL_bits_13 : decode cL_bits 13 = .ok (.lload_n 3, 1) := by decide +kernel
theorem dL_bits_14 : decode cL_bits 14 = .ok (.lload_n 3, 1) := by decide +kernel
theorem dL_bits_15 : decode cL_bits 15 = .ok (.lconst 1, 1) := by decide +kernel
theorem dL_bits_16 : decode cL_bits 16 = .ok (.lsub, 1) := by decide +kernel
theorem dL_bits_17 : decode cL_bits 17 = .ok (.land, 1) := by decide +kernel
theorem dL_bits_18 : decode cL_bits 18 = .ok (.lstore_n 3, 1) := by decide +kernel
theorem dL_bits_19 : decode cL_bits 19 = .ok (.goto (-15), 3) := by decide +kernel
theorem dL_bits_22 : decode cL_bits 22 = .ok (.iload_n 2, 1) := by decide +kernel
theorem dL_bits_23 : decode cL_bits 23 = .ok (.ireturn, 1) := by decide +kernel
theorem dL_has_0 : decode cL_has 0 = .ok (.lload_n 0, 1) := by decide +kernel
theorem dL_has_1 : decode cL_has 1 = .ok (.iload_n 2, 1) := by decide +kernel
theorem dL_has_2 : decode cL_has 2 = .ok (.lshr, 1) := by decide +kernel
theorem dL_has_3 : decode cL_has 3 = .ok (.lconst 1, 1) := by decide +kernel
theorem dL_has_4 : decode cL_has 4 = .ok (.land, 1) := by decide +kernel
theorem dL_has_5 : decode cL_has 5 = .ok (.lconst 1, 1) := by decide +kernel
theorem dL_has_6 : decode cL_has 6 = .ok (.lcmp, 1) := by decide +kernel
theorem dL_has_7 : decode cL_has 7 = .ok (.ifCond .ne 7, 3) := by decide +kernel
theorem dL_has_10 : decode cL_has 10 = .ok (.iconst 1, 1) := by decide +kernel
theorem dL_has_11 : decode cL_has 11 = .ok (.goto 4, 3) := by decide +kernel
theorem dL_has_14 : decode cL_has 14 = .ok (.iconst 0, 1) := by decide +kernel
theorem dL_has_15 : decode cL_has 15 = .ok (.ireturn, 1) := by decide +kernel
theorem dL_bound_0 : decode cL_bound 0 = .ok (.iconst 1, 1) := by decide +kernel
theorem dL_bound_1 : decode cL_bound 1 = .ok (.istore_n 1, 1) := by decide +kernel
theorem dL_bound_2 : decode cL_bound 2 = .ok (.iload_n 1, 1) := by decide +kernel
theorem dL_bound_3 : decode cL_bound 3 = .ok (.iload_n 1, 1) := by decide +kernel
theorem dL_bound_4 : decode cL_bound 4 = .ok (.imul, 1) := by decide +kernel
theorem dL_bound_5 : decode cL_bound 5 = .ok (.aload_n 0, 1) := by decide +kernel
theorem dL_bound_6 : decode cL_bound 6 = .ok (.iconst 0, 1) := by decide +kernel
theorem dL_bound_7 : decode cL_bound 7 = .ok (.iaload, 1) := by decide +kernel
theorem dL_bound_8 : decode cL_bound 8 = .ok (.if_icmp .ge 9, 3) := by decide +kernel
theorem dL_bound_11 : decode cL_bound 11 = .ok (.iinc 1 1, 3) := by decide +kernel
theorem dL_bound_14 : decode cL_bound 14 = .ok (.goto (-12), 3) := by decide +kernel
theorem dL_bound_17 : decode cL_bound 17 = .ok (.iload_n 1, 1) := by decide +kernel
theorem dL_bound_18 : decode cL_bound 18 = .ok (.ireturn, 1) := by decide +kernel
theorem dL_looks_0 : decode cL_looks 0 = .ok (.aload_n 0, 1) := by decide +kernel
theorem dL_looks_1 : decode cL_looks 1 = .ok (.iload_n 3, 1) := by decide +kernel
theorem dL_looks_2 : decode cL_looks 2 = .ok (.laload, 1) := by decide +kernel
theorem dL_looks_3 : decode cL_looks 3 = .ok (.invokestatic 9, 3) := by decide +kernel
theorem dL_looks_6 : decode cL_looks 6 = .ok (.istore 4, 2) := by decide +kernel
theorem dL_looks_8 : decode cL_looks 8 = .ok (.aload_n 2, 1) := by decide +kernel
theorem dL_looks_9 : decode cL_looks 9 = .ok (.iconst 0, 1) := by decide +kernel
theorem dL_looks_10 : decode cL_looks 10 = .ok (.laload, 1) := by decide +kernel
theorem dL_looks_11 : decode cL_looks 11 = .ok (.iload_n 3, 1) := by decide +kernel
theorem dL_looks_12 : decode cL_looks 12 = .ok (.invokestatic 15, 3) := by decide +kernel
theorem dL_looks_15 : decode cL_looks 15 = .ok (.ifCond .eq 22, 3) := by decide +kernel
theorem dL_looks_18 : decode cL_looks 18 = .ok (.iconst 2, 1) := by decide +kernel
theorem dL_looks_19 : decode cL_looks 19 = .ok (.iload 4, 2) := by decide +kernel
theorem dL_looks_21 : decode cL_looks 21 = .ok (.imul, 1) := by decide +kernel
theorem dL_looks_22 : decode cL_looks 22 = .ok (.aload_n 1, 1) := by decide +kernel
theorem dL_looks_23 : decode cL_looks 23 = .ok (.invokestatic 19, 3) := by decide +kernel
theorem dL_looks_26 : decode cL_looks 26 = .ok (.if_icmp .ge 7, 3) := by decide +kernel
theorem dL_looks_29 : decode cL_looks 29 = .ok (.iconst 1, 1) := by decide +kernel
theorem dL_looks_30 : decode cL_looks 30 = .ok (.goto 25, 3) := by decide +kernel
theorem dL_looks_33 : decode cL_looks 33 = .ok (.iconst 0, 1) := by decide +kernel
theorem dL_looks_34 : decode cL_looks 34 = .ok (.goto 21, 3) := by decide +kernel
theorem dL_looks_37 : decode cL_looks 37 = .ok (.iconst 2, 1) := by decide +kernel
theorem dL_looks_38 : decode cL_looks 38 = .ok (.iload 4, 2) := by decide +kernel
theorem dL_looks_40 : decode cL_looks 40 = .ok (.imul, 1) := by decide +kernel
theorem dL_looks_41 : decode cL_looks 41 = .ok (.iconst 3, 1) := by decide +kernel
theorem dL_looks_42 : decode cL_looks 42 = .ok (.aload_n 1, 1) := by decide +kernel
theorem dL_looks_43 : decode cL_looks 43 = .ok (.invokestatic 19, 3) := by decide +kernel
theorem dL_looks_46 : decode cL_looks 46 = .ok (.imul, 1) := by decide +kernel
theorem dL_looks_47 : decode cL_looks 47 = .ok (.if_icmp .lt 7, 3) := by decide +kernel
theorem dL_looks_50 : decode cL_looks 50 = .ok (.iconst 1, 1) := by decide +kernel
theorem dL_looks_51 : decode cL_looks 51 = .ok (.goto 4, 3) := by decide +kernel
theorem dL_looks_54 : decode cL_looks 54 = .ok (.iconst 0, 1) := by decide +kernel
theorem dL_looks_55 : decode cL_looks 55 = .ok (.istore 5, 2) := by decide +kernel
theorem dL_looks_57 : decode cL_looks 57 = .ok (.iload 5, 2) := by decide +kernel
theorem dL_looks_59 : decode cL_looks 59 = .ok (.ifCond .eq 27, 3) := by decide +kernel
theorem dL_looks_62 : decode cL_looks 62 = .ok (.aload_n 2, 1) := by decide +kernel
theorem dL_looks_63 : decode cL_looks 63 = .ok (.iconst 0, 1) := by decide +kernel
theorem dL_looks_64 : decode cL_looks 64 = .ok (.dup2, 1) := by decide +kernel
theorem dL_looks_65 : decode cL_looks 65 = .ok (.laload, 1) := by decide +kernel
theorem dL_looks_66 : decode cL_looks 66 = .ok (.lconst 1, 1) := by decide +kernel
theorem dL_looks_67 : decode cL_looks 67 = .ok (.iload_n 3, 1) := by decide +kernel
theorem dL_looks_68 : decode cL_looks 68 = .ok (.lshl, 1) := by decide +kernel
theorem dL_looks_69 : decode cL_looks 69 = .ok (.lxor, 1) := by decide +kernel
theorem dL_looks_70 : decode cL_looks 70 = .ok (.lastore, 1) := by decide +kernel
theorem dL_looks_71 : decode cL_looks 71 = .ok (.aload_n 1, 1) := by decide +kernel
theorem dL_looks_72 : decode cL_looks 72 = .ok (.iconst 1, 1) := by decide +kernel
theorem dL_looks_73 : decode cL_looks 73 = .ok (.dup2, 1) := by decide +kernel
theorem dL_looks_74 : decode cL_looks 74 = .ok (.iaload, 1) := by decide +kernel
theorem dL_looks_75 : decode cL_looks 75 = .ok (.iconst 1, 1) := by decide +kernel
theorem dL_looks_76 : decode cL_looks 76 = .ok (.iadd, 1) := by decide +kernel
theorem dL_looks_77 : decode cL_looks 77 = .ok (.iastore, 1) := by decide +kernel
theorem dL_looks_78 : decode cL_looks 78 = .ok (.aload_n 1, 1) := by decide +kernel
theorem dL_looks_79 : decode cL_looks 79 = .ok (.iconst 2, 1) := by decide +kernel
theorem dL_looks_80 : decode cL_looks 80 = .ok (.dup2, 1) := by decide +kernel
theorem dL_looks_81 : decode cL_looks 81 = .ok (.iaload, 1) := by decide +kernel
theorem dL_looks_82 : decode cL_looks 82 = .ok (.iload 4, 2) := by decide +kernel
theorem dL_looks_84 : decode cL_looks 84 = .ok (.iadd, 1) := by decide +kernel
theorem dL_looks_85 : decode cL_looks 85 = .ok (.iastore, 1) := by decide +kernel
theorem dL_looks_86 : decode cL_looks 86 = .ok (.return_, 1) := by decide +kernel
theorem dL_change_0 : decode cL_change 0 = .ok (.aload_n 0, 1) := by decide +kernel
theorem dL_change_1 : decode cL_change 1 = .ok (.iload_n 3, 1) := by decide +kernel
theorem dL_change_2 : decode cL_change 2 = .ok (.dup2, 1) := by decide +kernel
theorem dL_change_3 : decode cL_change 3 = .ok (.laload, 1) := by decide +kernel
theorem dL_change_4 : decode cL_change 4 = .ok (.lconst 1, 1) := by decide +kernel
theorem dL_change_5 : decode cL_change 5 = .ok (.iload 4, 2) := by decide +kernel
theorem dL_change_7 : decode cL_change 7 = .ok (.lshl, 1) := by decide +kernel
theorem dL_change_8 : decode cL_change 8 = .ok (.lxor, 1) := by decide +kernel
theorem dL_change_9 : decode cL_change 9 = .ok (.lastore, 1) := by decide +kernel
theorem dL_change_10 : decode cL_change 10 = .ok (.aload_n 0, 1) := by decide +kernel
theorem dL_change_11 : decode cL_change 11 = .ok (.iload 4, 2) := by decide +kernel
theorem dL_change_13 : decode cL_change 13 = .ok (.dup2, 1) := by decide +kernel
theorem dL_change_14 : decode cL_change 14 = .ok (.laload, 1) := by decide +kernel
theorem dL_change_15 : decode cL_change 15 = .ok (.lconst 1, 1) := by decide +kernel
theorem dL_change_16 : decode cL_change 16 = .ok (.iload_n 3, 1) := by decide +kernel
theorem dL_change_17 : decode cL_change 17 = .ok (.lshl, 1) := by decide +kernel
theorem dL_change_18 : decode cL_change 18 = .ok (.lxor, 1) := by decide +kernel
theorem dL_change_19 : decode cL_change 19 = .ok (.lastore, 1) := by decide +kernel
theorem dL_change_20 : decode cL_change 20 = .ok (.aload_n 0, 1) := by decide +kernel
theorem dL_change_21 : decode cL_change 21 = .ok (.iload_n 3, 1) := by decide +kernel
theorem dL_change_22 : decode cL_change 22 = .ok (.laload, 1) := by decide +kernel
theorem dL_change_23 : decode cL_change 23 = .ok (.iload 4, 2) := by decide +kernel
theorem dL_change_25 : decode cL_change 25 = .ok (.invokestatic 15, 3) := by decide +kernel
theorem dL_change_28 : decode cL_change 28 = .ok (.istore 5, 2) := by decide +kernel
theorem dL_change_30 : decode cL_change 30 = .ok (.aload_n 1, 1) := by decide +kernel
theorem dL_change_31 : decode cL_change 31 = .ok (.iconst 5, 1) := by decide +kernel
theorem dL_change_32 : decode cL_change 32 = .ok (.dup2, 1) := by decide +kernel
theorem dL_change_33 : decode cL_change 33 = .ok (.iaload, 1) := by decide +kernel
theorem dL_change_34 : decode cL_change 34 = .ok (.iload 5, 2) := by decide +kernel
theorem dL_change_36 : decode cL_change 36 = .ok (.ifCond .eq 7, 3) := by decide +kernel
theorem dL_change_39 : decode cL_change 39 = .ok (.iconst 1, 1) := by decide +kernel
theorem dL_change_40 : decode cL_change 40 = .ok (.goto 4, 3) := by decide +kernel
theorem dL_change_43 : decode cL_change 43 = .ok (.iconst (-1), 1) := by decide +kernel
theorem dL_change_44 : decode cL_change 44 = .ok (.iadd, 1) := by decide +kernel
theorem dL_change_45 : decode cL_change 45 = .ok (.iastore, 1) := by decide +kernel
theorem dL_change_46 : decode cL_change 46 = .ok (.aload_n 1, 1) := by decide +kernel
theorem dL_change_47 : decode cL_change 47 = .ok (.iconst 4, 1) := by decide +kernel
theorem dL_change_48 : decode cL_change 48 = .ok (.dup2, 1) := by decide +kernel
theorem dL_change_49 : decode cL_change 49 = .ok (.iaload, 1) := by decide +kernel
theorem dL_change_50 : decode cL_change 50 = .ok (.iconst 1, 1) := by decide +kernel
theorem dL_change_51 : decode cL_change 51 = .ok (.iadd, 1) := by decide +kernel
theorem dL_change_52 : decode cL_change 52 = .ok (.iastore, 1) := by decide +kernel
theorem dL_change_53 : decode cL_change 53 = .ok (.iload 5, 2) := by decide +kernel
theorem dL_change_55 : decode cL_change 55 = .ok (.ifCond .eq 16, 3) := by decide +kernel
theorem dL_change_58 : decode cL_change 58 = .ok (.aload_n 1, 1) := by decide +kernel
theorem dL_change_59 : decode cL_change 59 = .ok (.iconst 5, 1) := by decide +kernel
theorem dL_change_60 : decode cL_change 60 = .ok (.iaload, 1) := by decide +kernel
theorem dL_change_61 : decode cL_change 61 = .ok (.aload_n 1, 1) := by decide +kernel
theorem dL_change_62 : decode cL_change 62 = .ok (.iconst 0, 1) := by decide +kernel
theorem dL_change_63 : decode cL_change 63 = .ok (.iaload, 1) := by decide +kernel
theorem dL_change_64 : decode cL_change 64 = .ok (.if_icmp .ne 7, 3) := by decide +kernel
theorem dL_change_67 : decode cL_change 67 = .ok (.iconst 1, 1) := by decide +kernel
theorem dL_change_68 : decode cL_change 68 = .ok (.goto 4, 3) := by decide +kernel
theorem dL_change_71 : decode cL_change 71 = .ok (.iconst 0, 1) := by decide +kernel
theorem dL_change_72 : decode cL_change 72 = .ok (.istore 6, 2) := by decide +kernel
theorem dL_change_74 : decode cL_change 74 = .ok (.iload 5, 2) := by decide +kernel
theorem dL_change_76 : decode cL_change 76 = .ok (.ifCond .ne 18, 3) := by decide +kernel
theorem dL_change_79 : decode cL_change 79 = .ok (.aload_n 1, 1) := by decide +kernel
theorem dL_change_80 : decode cL_change 80 = .ok (.iconst 5, 1) := by decide +kernel
theorem dL_change_81 : decode cL_change 81 = .ok (.iaload, 1) := by decide +kernel
theorem dL_change_82 : decode cL_change 82 = .ok (.aload_n 1, 1) := by decide +kernel
theorem dL_change_83 : decode cL_change 83 = .ok (.iconst 0, 1) := by decide +kernel
theorem dL_change_84 : decode cL_change 84 = .ok (.iaload, 1) := by decide +kernel
theorem dL_change_85 : decode cL_change 85 = .ok (.iconst 4, 1) := by decide +kernel
theorem dL_change_86 : decode cL_change 86 = .ok (.idiv, 1) := by decide +kernel
theorem dL_change_87 : decode cL_change 87 = .ok (.if_icmp .ge 7, 3) := by decide +kernel
theorem dL_change_90 : decode cL_change 90 = .ok (.iconst 1, 1) := by decide +kernel
theorem dL_change_91 : decode cL_change 91 = .ok (.goto 4, 3) := by decide +kernel
theorem dL_change_94 : decode cL_change 94 = .ok (.iconst 0, 1) := by decide +kernel
theorem dL_change_95 : decode cL_change 95 = .ok (.istore 7, 2) := by decide +kernel
theorem dL_change_97 : decode cL_change 97 = .ok (.iload 6, 2) := by decide +kernel
theorem dL_change_99 : decode cL_change 99 = .ok (.ifCond .ne 8, 3) := by decide +kernel
theorem dL_change_102 : decode cL_change 102 = .ok (.iload 7, 2) := by decide +kernel
theorem dL_change_104 : decode cL_change 104 = .ok (.ifCond .eq 99, 3) := by decide +kernel
theorem dL_change_107 : decode cL_change 107 = .ok (.aload_n 1, 1) := by decide +kernel
theorem dL_change_108 : decode cL_change 108 = .ok (.iconst 0, 1) := by decide +kernel
theorem dL_change_109 : decode cL_change 109 = .ok (.iload 6, 2) := by decide +kernel
theorem dL_change_111 : decode cL_change 111 = .ok (.ifCond .eq 11, 3) := by decide +kernel
theorem dL_change_114 : decode cL_change 114 = .ok (.iconst 2, 1) := by decide +kernel
theorem dL_change_115 : decode cL_change 115 = .ok (.aload_n 1, 1) := by decide +kernel
theorem dL_change_116 : decode cL_change 116 = .ok (.iconst 0, 1) := by decide +kernel
theorem dL_change_117 : decode cL_change 117 = .ok (.iaload, 1) := by decide +kernel
theorem dL_change_118 : decode cL_change 118 = .ok (.imul, 1) := by decide +kernel
theorem dL_change_119 : decode cL_change 119 = .ok (.goto 25, 3) := by decide +kernel
theorem dL_change_122 : decode cL_change 122 = .ok (.aload_n 1, 1) := by decide +kernel
theorem dL_change_123 : decode cL_change 123 = .ok (.iconst 0, 1) := by decide +kernel
theorem dL_change_124 : decode cL_change 124 = .ok (.iaload, 1) := by decide +kernel
theorem dL_change_125 : decode cL_change 125 = .ok (.iconst 2, 1) := by decide +kernel
theorem dL_change_126 : decode cL_change 126 = .ok (.idiv, 1) := by decide +kernel
theorem dL_change_127 : decode cL_change 127 = .ok (.iconst 1, 1) := by decide +kernel
theorem dL_change_128 : decode cL_change 128 = .ok (.isub, 1) := by decide +kernel
theorem dL_change_129 : decode cL_change 129 = .ok (.iconst 1, 1) := by decide +kernel
theorem dL_change_130 : decode cL_change 130 = .ok (.if_icmp .ge 7, 3) := by decide +kernel
theorem dL_change_133 : decode cL_change 133 = .ok (.iconst 1, 1) := by decide +kernel
theorem dL_change_134 : decode cL_change 134 = .ok (.goto 10, 3) := by decide +kernel
theorem dL_change_137 : decode cL_change 137 = .ok (.aload_n 1, 1) := by decide +kernel
theorem dL_change_138 : decode cL_change 138 = .ok (.iconst 0, 1) := by decide +kernel
theorem dL_change_139 : decode cL_change 139 = .ok (.iaload, 1) := by decide +kernel
theorem dL_change_140 : decode cL_change 140 = .ok (.iconst 2, 1) := by decide +kernel
theorem dL_change_141 : decode cL_change 141 = .ok (.idiv, 1) := by decide +kernel
theorem dL_change_142 : decode cL_change 142 = .ok (.iconst 1, 1) := by decide +kernel
theorem dL_change_143 : decode cL_change 143 = .ok (.isub, 1) := by decide +kernel
theorem dL_change_144 : decode cL_change 144 = .ok (.iastore, 1) := by decide +kernel
theorem dL_change_145 : decode cL_change 145 = .ok (.aload_n 1, 1) := by decide +kernel
theorem dL_change_146 : decode cL_change 146 = .ok (.iconst 3, 1) := by decide +kernel
theorem dL_change_147 : decode cL_change 147 = .ok (.dup2, 1) := by decide +kernel
theorem dL_change_148 : decode cL_change 148 = .ok (.iaload, 1) := by decide +kernel
theorem dL_change_149 : decode cL_change 149 = .ok (.iconst 1, 1) := by decide +kernel
theorem dL_change_150 : decode cL_change 150 = .ok (.iadd, 1) := by decide +kernel
theorem dL_change_151 : decode cL_change 151 = .ok (.iastore, 1) := by decide +kernel
theorem dL_change_152 : decode cL_change 152 = .ok (.aload_n 2, 1) := by decide +kernel
theorem dL_change_153 : decode cL_change 153 = .ok (.iconst 0, 1) := by decide +kernel
theorem dL_change_154 : decode cL_change 154 = .ok (.lconst 0, 1) := by decide +kernel
theorem dL_change_155 : decode cL_change 155 = .ok (.lastore, 1) := by decide +kernel
theorem dL_change_156 : decode cL_change 156 = .ok (.iconst 0, 1) := by decide +kernel
theorem dL_change_157 : decode cL_change 157 = .ok (.istore 8, 2) := by decide +kernel
theorem dL_change_159 : decode cL_change 159 = .ok (.iload 8, 2) := by decide +kernel
theorem dL_change_161 : decode cL_change 161 = .ok (.bipush 40, 2) := by decide +kernel
theorem dL_change_163 : decode cL_change 163 = .ok (.if_icmp .ge 37, 3) := by decide +kernel
theorem dL_change_166 : decode cL_change 166 = .ok (.aload_n 2, 1) := by decide +kernel
theorem dL_change_167 : decode cL_change 167 = .ok (.iconst 0, 1) := by decide +kernel
theorem dL_change_168 : decode cL_change 168 = .ok (.dup2, 1) := by decide +kernel
theorem dL_change_169 : decode cL_change 169 = .ok (.laload, 1) := by decide +kernel
theorem dL_change_170 : decode cL_change 170 = .ok (.aload_n 0, 1) := by decide +kernel
theorem dL_change_171 : decode cL_change 171 = .ok (.iload 8, 2) := by decide +kernel
theorem dL_change_173 : decode cL_change 173 = .ok (.laload, 1) := by decide +kernel
theorem dL_change_174 : decode cL_change 174 = .ok (.invokestatic 9, 3) := by decide +kernel
theorem dL_change_177 : decode cL_change 177 = .ok (.aload_n 1, 1) := by decide +kernel
theorem dL_change_178 : decode cL_change 178 = .ok (.invokestatic 19, 3) := by decide +kernel
theorem dL_change_181 : decode cL_change 181 = .ok (.if_icmp .lt 10, 3) := by decide +kernel
theorem dL_change_184 : decode cL_change 184 = .ok (.lconst 1, 1) := by decide +kernel
theorem dL_change_185 : decode cL_change 185 = .ok (.iload 8, 2) := by decide +kernel
theorem dL_change_187 : decode cL_change 187 = .ok (.lshl, 1) := by decide +kernel
theorem dL_change_188 : decode cL_change 188 = .ok (.goto 4, 3) := by decide +kernel
theorem dL_change_191 : decode cL_change 191 = .ok (.lconst 0, 1) := by decide +kernel
theorem dL_change_192 : decode cL_change 192 = .ok (.lor, 1) := by decide +kernel
theorem dL_change_193 : decode cL_change 193 = .ok (.lastore, 1) := by decide +kernel
theorem dL_change_194 : decode cL_change 194 = .ok (.iinc 8 1, 3) := by decide +kernel
theorem dL_change_197 : decode cL_change 197 = .ok (.goto (-38), 3) := by decide +kernel
theorem dL_change_200 : decode cL_change 200 = .ok (.goto 39, 3) := by decide +kernel
theorem dL_change_203 : decode cL_change 203 = .ok (.aload_n 0, 1) := by decide +kernel
theorem dL_change_204 : decode cL_change 204 = .ok (.aload_n 1, 1) := by decide +kernel
theorem dL_change_205 : decode cL_change 205 = .ok (.aload_n 2, 1) := by decide +kernel
theorem dL_change_206 : decode cL_change 206 = .ok (.iload_n 3, 1) := by decide +kernel
theorem dL_change_207 : decode cL_change 207 = .ok (.iload 4, 2) := by decide +kernel
theorem dL_change_209 : decode cL_change 209 = .ok (.if_icmp .ge 7, 3) := by decide +kernel
theorem dL_change_212 : decode cL_change 212 = .ok (.iload_n 3, 1) := by decide +kernel
theorem dL_change_213 : decode cL_change 213 = .ok (.goto 5, 3) := by decide +kernel
theorem dL_change_216 : decode cL_change 216 = .ok (.iload 4, 2) := by decide +kernel
theorem dL_change_218 : decode cL_change 218 = .ok (.invokestatic 23, 3) := by decide +kernel
theorem dL_change_221 : decode cL_change 221 = .ok (.aload_n 0, 1) := by decide +kernel
theorem dL_change_222 : decode cL_change 222 = .ok (.aload_n 1, 1) := by decide +kernel
theorem dL_change_223 : decode cL_change 223 = .ok (.aload_n 2, 1) := by decide +kernel
theorem dL_change_224 : decode cL_change 224 = .ok (.iload_n 3, 1) := by decide +kernel
theorem dL_change_225 : decode cL_change 225 = .ok (.iload 4, 2) := by decide +kernel
theorem dL_change_227 : decode cL_change 227 = .ok (.if_icmp .ge 8, 3) := by decide +kernel
theorem dL_change_230 : decode cL_change 230 = .ok (.iload 4, 2) := by decide +kernel
theorem dL_change_232 : decode cL_change 232 = .ok (.goto 4, 3) := by decide +kernel
theorem dL_change_235 : decode cL_change 235 = .ok (.iload_n 3, 1) := by decide +kernel
theorem dL_change_236 : decode cL_change 236 = .ok (.invokestatic 23, 3) := by decide +kernel
theorem dL_change_239 : decode cL_change 239 = .ok (.return_, 1) := by decide +kernel
theorem dL_shared_0 : decode cL_shared 0 = .ok (.aload_n 0, 1) := by decide +kernel
theorem dL_shared_1 : decode cL_shared 1 = .ok (.iload_n 1, 1) := by decide +kernel
theorem dL_shared_2 : decode cL_shared 2 = .ok (.laload, 1) := by decide +kernel
theorem dL_shared_3 : decode cL_shared 3 = .ok (.aload_n 0, 1) := by decide +kernel
theorem dL_shared_4 : decode cL_shared 4 = .ok (.iload_n 2, 1) := by decide +kernel
theorem dL_shared_5 : decode cL_shared 5 = .ok (.laload, 1) := by decide +kernel
theorem dL_shared_6 : decode cL_shared 6 = .ok (.land, 1) := by decide +kernel
theorem dL_shared_7 : decode cL_shared 7 = .ok (.invokestatic 9, 3) := by decide +kernel
theorem dL_shared_10 : decode cL_shared 10 = .ok (.ireturn, 1) := by decide +kernel
theorem dL_worth_0 : decode cL_worth 0 = .ok (.bipush 40, 2) := by decide +kernel
theorem dL_worth_2 : decode cL_worth 2 = .ok (.iload_n 0, 1) := by decide +kernel
theorem dL_worth_3 : decode cL_worth 3 = .ok (.iload_n 1, 1) := by decide +kernel
theorem dL_worth_4 : decode cL_worth 4 = .ok (.if_icmp .ge 7, 3) := by decide +kernel
theorem dL_worth_7 : decode cL_worth 7 = .ok (.iload_n 0, 1) := by decide +kernel
theorem dL_worth_8 : decode cL_worth 8 = .ok (.goto 4, 3) := by decide +kernel
theorem dL_worth_11 : decode cL_worth 11 = .ok (.iload_n 1, 1) := by decide +kernel
theorem dL_worth_12 : decode cL_worth 12 = .ok (.imul, 1) := by decide +kernel
theorem dL_worth_13 : decode cL_worth 13 = .ok (.iload_n 0, 1) := by decide +kernel
theorem dL_worth_14 : decode cL_worth 14 = .ok (.iload_n 1, 1) := by decide +kernel
theorem dL_worth_15 : decode cL_worth 15 = .ok (.if_icmp .ge 7, 3) := by decide +kernel
theorem dL_worth_18 : decode cL_worth 18 = .ok (.iload_n 1, 1) := by decide +kernel
theorem dL_worth_19 : decode cL_worth 19 = .ok (.goto 4, 3) := by decide +kernel
theorem dL_worth_22 : decode cL_worth 22 = .ok (.iload_n 0, 1) := by decide +kernel
theorem dL_worth_23 : decode cL_worth 23 = .ok (.iadd, 1) := by decide +kernel
theorem dL_worth_24 : decode cL_worth 24 = .ok (.istore_n 3, 1) := by decide +kernel
theorem dL_worth_25 : decode cL_worth 25 = .ok (.iload_n 2, 1) := by decide +kernel
theorem dL_worth_26 : decode cL_worth 26 = .ok (.iconst 3, 1) := by decide +kernel
theorem dL_worth_27 : decode cL_worth 27 = .ok (.iand, 1) := by decide +kernel
theorem dL_worth_28 : decode cL_worth 28 = .ok (.ifCond .ne 7, 3) := by decide +kernel
theorem dL_worth_31 : decode cL_worth 31 = .ok (.iconst 1, 1) := by decide +kernel
theorem dL_worth_32 : decode cL_worth 32 = .ok (.goto 39, 3) := by decide +kernel
theorem dL_worth_35 : decode cL_worth 35 = .ok (.iload_n 2, 1) := by decide +kernel
theorem dL_worth_36 : decode cL_worth 36 = .ok (.iconst 3, 1) := by decide +kernel
theorem dL_worth_37 : decode cL_worth 37 = .ok (.iand, 1) := by decide +kernel
theorem dL_worth_38 : decode cL_worth 38 = .ok (.iconst 1, 1) := by decide +kernel
theorem dL_worth_39 : decode cL_worth 39 = .ok (.if_icmp .ne 12, 3) := by decide +kernel
theorem dL_worth_42 : decode cL_worth 42 = .ok (.iload_n 3, 1) := by decide +kernel
theorem dL_worth_43 : decode cL_worth 43 = .ok (.bipush 7, 2) := by decide +kernel
theorem dL_worth_45 : decode cL_worth 45 = .ok (.irem, 1) := by decide +kernel
theorem dL_worth_46 : decode cL_worth 46 = .ok (.iconst 3, 1) := by decide +kernel
theorem dL_worth_47 : decode cL_worth 47 = .ok (.isub, 1) := by decide +kernel
theorem dL_worth_48 : decode cL_worth 48 = .ok (.goto 23, 3) := by decide +kernel
theorem dL_worth_51 : decode cL_worth 51 = .ok (.iload_n 2, 1) := by decide +kernel
theorem dL_worth_52 : decode cL_worth 52 = .ok (.iconst 3, 1) := by decide +kernel
theorem dL_worth_53 : decode cL_worth 53 = .ok (.iand, 1) := by decide +kernel
theorem dL_worth_54 : decode cL_worth 54 = .ok (.iconst 2, 1) := by decide +kernel
theorem dL_worth_55 : decode cL_worth 55 = .ok (.if_icmp .ne 10, 3) := by decide +kernel
theorem dL_worth_58 : decode cL_worth 58 = .ok (.ldc 39, 2) := by decide +kernel
theorem dL_worth_60 : decode cL_worth 60 = .ok (.iload_n 3, 1) := by decide +kernel
theorem dL_worth_61 : decode cL_worth 61 = .ok (.isub, 1) := by decide +kernel
theorem dL_worth_62 : decode cL_worth 62 = .ok (.goto 9, 3) := by decide +kernel
theorem dL_worth_65 : decode cL_worth 65 = .ok (.iload_n 3, 1) := by decide +kernel
theorem dL_worth_66 : decode cL_worth 66 = .ok (.iload_n 3, 1) := by decide +kernel
theorem dL_worth_67 : decode cL_worth 67 = .ok (.imul, 1) := by decide +kernel
theorem dL_worth_68 : decode cL_worth 68 = .ok (.ldc 40, 2) := by decide +kernel
theorem dL_worth_70 : decode cL_worth 70 = .ok (.isub, 1) := by decide +kernel
theorem dL_worth_71 : decode cL_worth 71 = .ok (.ireturn, 1) := by decide +kernel
theorem dL_net_0 : decode cL_net 0 = .ok (.aload 4, 2) := by decide +kernel
theorem dL_net_2 : decode cL_net 2 = .ok (.iload 5, 2) := by decide +kernel
theorem dL_net_4 : decode cL_net 4 = .ok (.invokestatic 41, 3) := by decide +kernel
theorem dL_net_7 : decode cL_net 7 = .ok (.istore 7, 2) := by decide +kernel
theorem dL_net_9 : decode cL_net 9 = .ok (.iload 7, 2) := by decide +kernel
theorem dL_net_11 : decode cL_net 11 = .ok (.iconst 3, 1) := by decide +kernel
theorem dL_net_12 : decode cL_net 12 = .ok (.iand, 1) := by decide +kernel
theorem dL_net_13 : decode cL_net 13 = .ok (.ifCond .ne 8, 3) := by decide +kernel
theorem dL_net_16 : decode cL_net 16 = .ok (.bipush 40, 2) := by decide +kernel
theorem dL_net_18 : decode cL_net 18 = .ok (.goto 13, 3) := by decide +kernel
theorem dL_net_21 : decode cL_net 21 = .ok (.bipush 6, 2) := by decide +kernel
theorem dL_net_23 : decode cL_net 23 = .ok (.iload 7, 2) := by decide +kernel
theorem dL_net_25 : decode cL_net 25 = .ok (.iconst 2, 1) := by decide +kernel
theorem dL_net_26 : decode cL_net 26 = .ok (.ishr, 1) := by decide +kernel
theorem dL_net_27 : decode cL_net 27 = .ok (.bipush 7, 2) := by decide +kernel
theorem dL_net_29 : decode cL_net 29 = .ok (.iand, 1) := by decide +kernel
theorem dL_net_30 : decode cL_net 30 = .ok (.iadd, 1) := by decide +kernel
theorem dL_net_31 : decode cL_net 31 = .ok (.istore 8, 2) := by decide +kernel
theorem dL_net_33 : decode cL_net 33 = .ok (.iconst 1, 1) := by decide +kernel
theorem dL_net_34 : decode cL_net 34 = .ok (.istore 9, 2) := by decide +kernel
theorem dL_net_36 : decode cL_net 36 = .ok (.aload_n 2, 1) := by decide +kernel
theorem dL_net_37 : decode cL_net 37 = .ok (.iconst 0, 1) := by decide +kernel
theorem dL_net_38 : decode cL_net 38 = .ok (.iconst 1, 1) := by decide +kernel
theorem dL_net_39 : decode cL_net 39 = .ok (.iastore, 1) := by decide +kernel
theorem dL_net_40 : decode cL_net 40 = .ok (.iconst 0, 1) := by decide +kernel
theorem dL_net_41 : decode cL_net 41 = .ok (.istore 10, 2) := by decide +kernel
theorem dL_net_43 : decode cL_net 43 = .ok (.iload 10, 2) := by decide +kernel
theorem dL_net_45 : decode cL_net 45 = .ok (.bipush 8, 2) := by decide +kernel
theorem dL_net_47 : decode cL_net 47 = .ok (.iload 7, 2) := by decide +kernel
theorem dL_net_49 : decode cL_net 49 = .ok (.iconst 5, 1) := by decide +kernel
theorem dL_net_50 : decode cL_net 50 = .ok (.ishr, 1) := by decide +kernel
theorem dL_net_51 : decode cL_net 51 = .ok (.bipush 31, 2) := by decide +kernel
theorem dL_net_53 : decode cL_net 53 = .ok (.iand, 1) := by decide +kernel
theorem dL_net_54 : decode cL_net 54 = .ok (.iadd, 1) := by decide +kernel
theorem dL_net_55 : decode cL_net 55 = .ok (.if_icmp .ge 201, 3) := by decide +kernel
theorem dL_net_58 : decode cL_net 58 = .ok (.aload 4, 2) := by decide +kernel
theorem dL_net_60 : decode cL_net 60 = .ok (.iload 5, 2) := by decide +kernel
theorem dL_net_62 : decode cL_net 62 = .ok (.iconst 1, 1) := by decide +kernel
theorem dL_net_63 : decode cL_net 63 = .ok (.iadd, 1) := by decide +kernel
theorem dL_net_64 : decode cL_net 64 = .ok (.iload 10, 2) := by decide +kernel
theorem dL_net_66 : decode cL_net 66 = .ok (.iadd, 1) := by decide +kernel
theorem dL_net_67 : decode cL_net 67 = .ok (.invokestatic 41, 3) := by decide +kernel
theorem dL_net_70 : decode cL_net 70 = .ok (.istore 11, 2) := by decide +kernel
theorem dL_net_72 : decode cL_net 72 = .ok (.iload 11, 2) := by decide +kernel
theorem dL_net_74 : decode cL_net 74 = .ok (.bipush 63, 2) := by decide +kernel
theorem dL_net_76 : decode cL_net 76 = .ok (.iand, 1) := by decide +kernel
theorem dL_net_77 : decode cL_net 77 = .ok (.iload 8, 2) := by decide +kernel
theorem dL_net_79 : decode cL_net 79 = .ok (.irem, 1) := by decide +kernel
theorem dL_net_80 : decode cL_net 80 = .ok (.istore 12, 2) := by decide +kernel
theorem dL_net_82 : decode cL_net 82 = .ok (.iload 11, 2) := by decide +kernel
theorem dL_net_84 : decode cL_net 84 = .ok (.bipush 6, 2) := by decide +kernel
theorem dL_net_86 : decode cL_net 86 = .ok (.ishr, 1) := by decide +kernel
theorem dL_net_87 : decode cL_net 87 = .ok (.bipush 63, 2) := by decide +kernel
theorem dL_net_89 : decode cL_net 89 = .ok (.iand, 1) := by decide +kernel
theorem dL_net_90 : decode cL_net 90 = .ok (.iload 8, 2) := by decide +kernel
theorem dL_net_92 : decode cL_net 92 = .ok (.irem, 1) := by decide +kernel
theorem dL_net_93 : decode cL_net 93 = .ok (.istore 13, 2) := by decide +kernel
theorem dL_net_95 : decode cL_net 95 = .ok (.aload_n 1, 1) := by decide +kernel
theorem dL_net_96 : decode cL_net 96 = .ok (.iload 12, 2) := by decide +kernel
theorem dL_net_98 : decode cL_net 98 = .ok (.laload, 1) := by decide +kernel
theorem dL_net_99 : decode cL_net 99 = .ok (.iload 13, 2) := by decide +kernel
theorem dL_net_101 : decode cL_net 101 = .ok (.invokestatic 15, 3) := by decide +kernel
theorem dL_net_104 : decode cL_net 104 = .ok (.istore 14, 2) := by decide +kernel
theorem dL_net_106 : decode cL_net 106 = .ok (.iload 14, 2) := by decide +kernel
theorem dL_net_108 : decode cL_net 108 = .ok (.ifCond .eq 17, 3) := by decide +kernel
theorem dL_net_111 : decode cL_net 111 = .ok (.iload 11, 2) := by decide +kernel
theorem dL_net_113 : decode cL_net 113 = .ok (.bipush 12, 2) := by decide +kernel
theorem dL_net_115 : decode cL_net 115 = .ok (.ishr, 1) := by decide +kernel
theorem dL_net_116 : decode cL_net 116 = .ok (.iconst 3, 1) := by decide +kernel
theorem dL_net_117 : decode cL_net 117 = .ok (.iand, 1) := by decide +kernel
theorem dL_net_118 : decode cL_net 118 = .ok (.ifCond .ne 7, 3) := by decide +kernel
theorem dL_net_121 : decode cL_net 121 = .ok (.iconst 1, 1) := by decide +kernel
theorem dL_net_122 : decode cL_net 122 = .ok (.goto 4, 3) := by decide +kernel
theorem dL_net_125 : decode cL_net 125 = .ok (.iconst 0, 1) := by decide +kernel
theorem dL_net_126 : decode cL_net 126 = .ok (.istore 15, 2) := by decide +kernel
theorem dL_net_128 : decode cL_net 128 = .ok (.iload 12, 2) := by decide +kernel
theorem dL_net_130 : decode cL_net 130 = .ok (.iload 13, 2) := by decide +kernel
theorem dL_net_132 : decode cL_net 132 = .ok (.if_icmp .ne 7, 3) := by decide +kernel
theorem dL_net_135 : decode cL_net 135 = .ok (.iconst (-1), 1) := by decide +kernel
theorem dL_net_136 : decode cL_net 136 = .ok (.goto 37, 3) := by decide +kernel
theorem dL_net_139 : decode cL_net 139 = .ok (.iload 14, 2) := by decide +kernel
theorem dL_net_141 : decode cL_net 141 = .ok (.ifCond .eq 24, 3) := by decide +kernel
theorem dL_net_144 : decode cL_net 144 = .ok (.iload 15, 2) := by decide +kernel
theorem dL_net_146 : decode cL_net 146 = .ok (.ifCond .eq 14, 3) := by decide +kernel
theorem dL_net_149 : decode cL_net 149 = .ok (.aload_n 1, 1) := by decide +kernel
theorem dL_net_150 : decode cL_net 150 = .ok (.iload 12, 2) := by decide +kernel
theorem dL_net_152 : decode cL_net 152 = .ok (.iload 13, 2) := by decide +kernel
theorem dL_net_154 : decode cL_net 154 = .ok (.invokestatic 27, 3) := by decide +kernel
theorem dL_net_157 : decode cL_net 157 = .ok (.goto 16, 3) := by decide +kernel
theorem dL_net_160 : decode cL_net 160 = .ok (.bipush (-3), 2) := by decide +kernel
theorem dL_net_162 : decode cL_net 162 = .ok (.goto 11, 3) := by decide +kernel
theorem dL_net_165 : decode cL_net 165 = .ok (.aload_n 1, 1) := by decide +kernel
theorem dL_net_166 : decode cL_net 166 = .ok (.iload 12, 2) := by decide +kernel
theorem dL_net_168 : decode cL_net 168 = .ok (.iload 13, 2) := by decide +kernel
theorem dL_net_170 : decode cL_net 170 = .ok (.invokestatic 27, 3) := by decide +kernel
theorem dL_net_173 : decode cL_net 173 = .ok (.istore 16, 2) := by decide +kernel
theorem dL_net_175 : decode cL_net 175 = .ok (.iload 9, 2) := by decide +kernel
theorem dL_net_177 : decode cL_net 177 = .ok (.iload 15, 2) := by decide +kernel
theorem dL_net_179 : decode cL_net 179 = .ok (.ifCond .eq 14, 3) := by decide +kernel
theorem dL_net_182 : decode cL_net 182 = .ok (.aload_n 0, 1) := by decide +kernel
theorem dL_net_183 : decode cL_net 183 = .ok (.iload 12, 2) := by decide +kernel
theorem dL_net_185 : decode cL_net 185 = .ok (.iload 13, 2) := by decide +kernel
theorem dL_net_187 : decode cL_net 187 = .ok (.invokevirtual 45, 3) := by decide +kernel
theorem dL_net_190 : decode cL_net 190 = .ok (.goto 20, 3) := by decide +kernel
theorem dL_net_193 : decode cL_net 193 = .ok (.aload_n 0, 1) := by decide +kernel
theorem dL_net_194 : decode cL_net 194 = .ok (.iload 12, 2) := by decide +kernel
theorem dL_net_196 : decode cL_net 196 = .ok (.iload 13, 2) := by decide +kernel
theorem dL_net_198 : decode cL_net 198 = .ok (.iload 12, 2) := by decide +kernel
theorem dL_net_200 : decode cL_net 200 = .ok (.iload 13, 2) := by decide +kernel
theorem dL_net_202 : decode cL_net 202 = .ok (.iload 6, 2) := by decide +kernel
theorem dL_net_204 : decode cL_net 204 = .ok (.invokestatic 51, 3) := by decide +kernel
theorem dL_net_207 : decode cL_net 207 = .ok (.invokevirtual 55, 3) := by decide +kernel
theorem dL_net_210 : decode cL_net 210 = .ok (.iload 16, 2) := by decide +kernel
theorem dL_net_212 : decode cL_net 212 = .ok (.if_icmp .ne 7, 3) := by decide +kernel
theorem dL_net_215 : decode cL_net 215 = .ok (.iconst 1, 1) := by decide +kernel
theorem dL_net_216 : decode cL_net 216 = .ok (.goto 4, 3) := by decide +kernel
theorem dL_net_219 : decode cL_net 219 = .ok (.iconst 0, 1) := by decide +kernel
theorem dL_net_220 : decode cL_net 220 = .ok (.iand, 1) := by decide +kernel
theorem dL_net_221 : decode cL_net 221 = .ok (.istore 9, 2) := by decide +kernel
theorem dL_net_223 : decode cL_net 223 = .ok (.iload 12, 2) := by decide +kernel
theorem dL_net_225 : decode cL_net 225 = .ok (.iload 13, 2) := by decide +kernel
theorem dL_net_227 : decode cL_net 227 = .ok (.if_icmp .eq 23, 3) := by decide +kernel
theorem dL_net_230 : decode cL_net 230 = .ok (.iload 14, 2) := by decide +kernel
theorem dL_net_232 : decode cL_net 232 = .ok (.ifCond .eq 8, 3) := by decide +kernel
theorem dL_net_235 : decode cL_net 235 = .ok (.iload 15, 2) := by decide +kernel
theorem dL_net_237 : decode cL_net 237 = .ok (.ifCond .eq 13, 3) := by decide +kernel
theorem dL_net_240 : decode cL_net 240 = .ok (.aload_n 1, 1) := by decide +kernel
theorem dL_net_241 : decode cL_net 241 = .ok (.aload_n 2, 1) := by decide +kernel
theorem dL_net_242 : decode cL_net 242 = .ok (.aload_n 3, 1) := by decide +kernel
theorem dL_net_243 : decode cL_net 243 = .ok (.iload 12, 2) := by decide +kernel
theorem dL_net_245 : decode cL_net 245 = .ok (.iload 13, 2) := by decide +kernel
theorem dL_net_247 : decode cL_net 247 = .ok (.invokestatic 58, 3) := by decide +kernel
theorem dL_net_250 : decode cL_net 250 = .ok (.iinc 10 1, 3) := by decide +kernel
theorem dL_net_253 : decode cL_net 253 = .ok (.goto (-210), 3) := by decide +kernel
theorem dL_net_256 : decode cL_net 256 = .ok (.iload 9, 2) := by decide +kernel
theorem dL_net_258 : decode cL_net 258 = .ok (.ireturn, 1) := by decide +kernel
theorem dL_sees_0 : decode cL_sees 0 = .ok (.aload_n 0, 1) := by decide +kernel
theorem dL_sees_1 : decode cL_sees 1 = .ok (.iconst 0, 1) := by decide +kernel
theorem dL_sees_2 : decode cL_sees 2 = .ok (.invokevirtual 62, 3) := by decide +kernel
theorem dL_sees_5 : decode cL_sees 5 = .ok (.aload_n 2, 1) := by decide +kernel
theorem dL_sees_6 : decode cL_sees 6 = .ok (.iconst 5, 1) := by decide +kernel
theorem dL_sees_7 : decode cL_sees 7 = .ok (.iaload, 1) := by decide +kernel
theorem dL_sees_8 : decode cL_sees 8 = .ok (.i2l, 1) := by decide +kernel
theorem dL_sees_9 : decode cL_sees 9 = .ok (.lcmp, 1) := by decide +kernel
theorem dL_sees_10 : decode cL_sees 10 = .ok (.ifCond .ne 102, 3) := by decide +kernel
theorem dL_sees_13 : decode cL_sees 13 = .ok (.aload_n 0, 1) := by decide +kernel
theorem dL_sees_14 : decode cL_sees 14 = .ok (.iconst 3, 1) := by decide +kernel
theorem dL_sees_15 : decode cL_sees 15 = .ok (.invokevirtual 62, 3) := by decide +kernel
theorem dL_sees_18 : decode cL_sees 18 = .ok (.aload_n 2, 1) := by decide +kernel
theorem dL_sees_19 : decode cL_sees 19 = .ok (.iconst 0, 1) := by decide +kernel
theorem dL_sees_20 : decode cL_sees 20 = .ok (.iaload, 1) := by decide +kernel
theorem dL_sees_21 : decode cL_sees 21 = .ok (.i2l, 1) := by decide +kernel
theorem dL_sees_22 : decode cL_sees 22 = .ok (.lcmp, 1) := by decide +kernel
theorem dL_sees_23 : decode cL_sees 23 = .ok (.ifCond .ne 89, 3) := by decide +kernel
theorem dL_sees_26 : decode cL_sees 26 = .ok (.aload_n 0, 1) := by decide +kernel
theorem dL_sees_27 : decode cL_sees 27 = .ok (.iconst 4, 1) := by decide +kernel
theorem dL_sees_28 : decode cL_sees 28 = .ok (.invokevirtual 62, 3) := by decide +kernel
theorem dL_sees_31 : decode cL_sees 31 = .ok (.aload_n 2, 1) := by decide +kernel
theorem dL_sees_32 : decode cL_sees 32 = .ok (.invokestatic 19, 3) := by decide +kernel
theorem dL_sees_35 : decode cL_sees 35 = .ok (.i2l, 1) := by decide +kernel
theorem dL_sees_36 : decode cL_sees 36 = .ok (.lcmp, 1) := by decide +kernel
theorem dL_sees_37 : decode cL_sees 37 = .ok (.ifCond .ne 75, 3) := by decide +kernel
theorem dL_sees_40 : decode cL_sees 40 = .ok (.aload_n 0, 1) := by decide +kernel
theorem dL_sees_41 : decode cL_sees 41 = .ok (.iconst 5, 1) := by decide +kernel
theorem dL_sees_42 : decode cL_sees 42 = .ok (.invokevirtual 62, 3) := by decide +kernel
theorem dL_sees_45 : decode cL_sees 45 = .ok (.aload_n 3, 1) := by decide +kernel
theorem dL_sees_46 : decode cL_sees 46 = .ok (.iconst 0, 1) := by decide +kernel
theorem dL_sees_47 : decode cL_sees 47 = .ok (.laload, 1) := by decide +kernel
theorem dL_sees_48 : decode cL_sees 48 = .ok (.lcmp, 1) := by decide +kernel
theorem dL_sees_49 : decode cL_sees 49 = .ok (.ifCond .ne 63, 3) := by decide +kernel
theorem dL_sees_52 : decode cL_sees 52 = .ok (.aload_n 0, 1) := by decide +kernel
theorem dL_sees_53 : decode cL_sees 53 = .ok (.bipush 6, 2) := by decide +kernel
theorem dL_sees_55 : decode cL_sees 55 = .ok (.invokevirtual 62, 3) := by decide +kernel
theorem dL_sees_58 : decode cL_sees 58 = .ok (.aload_n 2, 1) := by decide +kernel
theorem dL_sees_59 : decode cL_sees 59 = .ok (.iconst 1, 1) := by decide +kernel
theorem dL_sees_60 : decode cL_sees 60 = .ok (.iaload, 1) := by decide +kernel
theorem dL_sees_61 : decode cL_sees 61 = .ok (.i2l, 1) := by decide +kernel
theorem dL_sees_62 : decode cL_sees 62 = .ok (.lcmp, 1) := by decide +kernel
theorem dL_sees_63 : decode cL_sees 63 = .ok (.ifCond .ne 49, 3) := by decide +kernel
theorem dL_sees_66 : decode cL_sees 66 = .ok (.aload_n 0, 1) := by decide +kernel
theorem dL_sees_67 : decode cL_sees 67 = .ok (.bipush 7, 2) := by decide +kernel
theorem dL_sees_69 : decode cL_sees 69 = .ok (.invokevirtual 62, 3) := by decide +kernel
theorem dL_sees_72 : decode cL_sees 72 = .ok (.aload_n 2, 1) := by decide +kernel
theorem dL_sees_73 : decode cL_sees 73 = .ok (.iconst 2, 1) := by decide +kernel
theorem dL_sees_74 : decode cL_sees 74 = .ok (.iaload, 1) := by decide +kernel
theorem dL_sees_75 : decode cL_sees 75 = .ok (.i2l, 1) := by decide +kernel
theorem dL_sees_76 : decode cL_sees 76 = .ok (.lcmp, 1) := by decide +kernel
theorem dL_sees_77 : decode cL_sees 77 = .ok (.ifCond .ne 35, 3) := by decide +kernel
theorem dL_sees_80 : decode cL_sees 80 = .ok (.aload_n 0, 1) := by decide +kernel
theorem dL_sees_81 : decode cL_sees 81 = .ok (.bipush 8, 2) := by decide +kernel
theorem dL_sees_83 : decode cL_sees 83 = .ok (.invokevirtual 62, 3) := by decide +kernel
theorem dL_sees_86 : decode cL_sees 86 = .ok (.aload_n 2, 1) := by decide +kernel
theorem dL_sees_87 : decode cL_sees 87 = .ok (.iconst 3, 1) := by decide +kernel
theorem dL_sees_88 : decode cL_sees 88 = .ok (.iaload, 1) := by decide +kernel
theorem dL_sees_89 : decode cL_sees 89 = .ok (.i2l, 1) := by decide +kernel
theorem dL_sees_90 : decode cL_sees 90 = .ok (.lcmp, 1) := by decide +kernel
theorem dL_sees_91 : decode cL_sees 91 = .ok (.ifCond .ne 21, 3) := by decide +kernel
theorem dL_sees_94 : decode cL_sees 94 = .ok (.aload_n 0, 1) := by decide +kernel
theorem dL_sees_95 : decode cL_sees 95 = .ok (.bipush 9, 2) := by decide +kernel
theorem dL_sees_97 : decode cL_sees 97 = .ok (.invokevirtual 62, 3) := by decide +kernel
theorem dL_sees_100 : decode cL_sees 100 = .ok (.aload_n 2, 1) := by decide +kernel
theorem dL_sees_101 : decode cL_sees 101 = .ok (.iconst 4, 1) := by decide +kernel
theorem dL_sees_102 : decode cL_sees 102 = .ok (.iaload, 1) := by decide +kernel
theorem dL_sees_103 : decode cL_sees 103 = .ok (.i2l, 1) := by decide +kernel
theorem dL_sees_104 : decode cL_sees 104 = .ok (.lcmp, 1) := by decide +kernel
theorem dL_sees_105 : decode cL_sees 105 = .ok (.ifCond .ne 7, 3) := by decide +kernel
theorem dL_sees_108 : decode cL_sees 108 = .ok (.iconst 1, 1) := by decide +kernel
theorem dL_sees_109 : decode cL_sees 109 = .ok (.goto 4, 3) := by decide +kernel
theorem dL_sees_112 : decode cL_sees 112 = .ok (.iconst 0, 1) := by decide +kernel
theorem dL_sees_113 : decode cL_sees 113 = .ok (.istore 4, 2) := by decide +kernel
theorem dL_sees_115 : decode cL_sees 115 = .ok (.iconst 0, 1) := by decide +kernel
theorem dL_sees_116 : decode cL_sees 116 = .ok (.istore 5, 2) := by decide +kernel
theorem dL_sees_118 : decode cL_sees 118 = .ok (.iload 5, 2) := by decide +kernel
theorem dL_sees_120 : decode cL_sees 120 = .ok (.bipush 40, 2) := by decide +kernel
theorem dL_sees_122 : decode cL_sees 122 = .ok (.if_icmp .ge 33, 3) := by decide +kernel
theorem dL_sees_125 : decode cL_sees 125 = .ok (.iload 4, 2) := by decide +kernel
theorem dL_sees_127 : decode cL_sees 127 = .ok (.aload_n 0, 1) := by decide +kernel
theorem dL_sees_128 : decode cL_sees 128 = .ok (.iload 5, 2) := by decide +kernel
theorem dL_sees_130 : decode cL_sees 130 = .ok (.invokevirtual 66, 3) := by decide +kernel
theorem dL_sees_133 : decode cL_sees 133 = .ok (.aload_n 1, 1) := by decide +kernel
theorem dL_sees_134 : decode cL_sees 134 = .ok (.iload 5, 2) := by decide +kernel
theorem dL_sees_136 : decode cL_sees 136 = .ok (.laload, 1) := by decide +kernel
theorem dL_sees_137 : decode cL_sees 137 = .ok (.lcmp, 1) := by decide +kernel
theorem dL_sees_138 : decode cL_sees 138 = .ok (.ifCond .ne 7, 3) := by decide +kernel
theorem dL_sees_141 : decode cL_sees 141 = .ok (.iconst 1, 1) := by decide +kernel
theorem dL_sees_142 : decode cL_sees 142 = .ok (.goto 4, 3) := by decide +kernel
theorem dL_sees_145 : decode cL_sees 145 = .ok (.iconst 0, 1) := by decide +kernel
theorem dL_sees_146 : decode cL_sees 146 = .ok (.iand, 1) := by decide +kernel
theorem dL_sees_147 : decode cL_sees 147 = .ok (.istore 4, 2) := by decide +kernel
theorem dL_sees_149 : decode cL_sees 149 = .ok (.iinc 5 1, 3) := by decide +kernel
theorem dL_sees_152 : decode cL_sees 152 = .ok (.goto (-34), 3) := by decide +kernel
theorem dL_sees_155 : decode cL_sees 155 = .ok (.iload 4, 2) := by decide +kernel
theorem dL_sees_157 : decode cL_sees 157 = .ok (.ireturn, 1) := by decide +kernel
theorem dL_law_0 : decode cL_law 0 = .ok (.new 46, 3) := by decide +kernel
theorem dL_law_3 : decode cL_law 3 = .ok (.dup, 1) := by decide +kernel
theorem dL_law_4 : decode cL_law 4 = .ok (.invokespecial 69, 3) := by decide +kernel
theorem dL_law_7 : decode cL_law 7 = .ok (.astore_n 1, 1) := by decide +kernel
theorem dL_law_8 : decode cL_law 8 = .ok (.bipush 40, 2) := by decide +kernel
theorem dL_law_10 : decode cL_law 10 = .ok (.newarray .long, 2) := by decide +kernel
theorem dL_law_12 : decode cL_law 12 = .ok (.astore_n 2, 1) := by decide +kernel
theorem dL_law_13 : decode cL_law 13 = .ok (.bipush 8, 2) := by decide +kernel
theorem dL_law_15 : decode cL_law 15 = .ok (.newarray .int, 2) := by decide +kernel
theorem dL_law_17 : decode cL_law 17 = .ok (.astore_n 3, 1) := by decide +kernel
theorem dL_law_18 : decode cL_law 18 = .ok (.iconst 1, 1) := by decide +kernel
theorem dL_law_19 : decode cL_law 19 = .ok (.newarray .long, 2) := by decide +kernel
theorem dL_law_21 : decode cL_law 21 = .ok (.astore 4, 2) := by decide +kernel
theorem dL_law_23 : decode cL_law 23 = .ok (.aload_n 0, 1) := by decide +kernel
theorem dL_law_24 : decode cL_law 24 = .ok (.iconst 0, 1) := by decide +kernel
theorem dL_law_25 : decode cL_law 25 = .ok (.invokestatic 41, 3) := by decide +kernel
theorem dL_law_28 : decode cL_law 28 = .ok (.istore 5, 2) := by decide +kernel
theorem dL_law_30 : decode cL_law 30 = .ok (.aload_n 1, 1) := by decide +kernel
theorem dL_law_31 : decode cL_law 31 = .ok (.aload_n 2, 1) := by decide +kernel
theorem dL_law_32 : decode cL_law 32 = .ok (.aload_n 3, 1) := by decide +kernel
theorem dL_law_33 : decode cL_law 33 = .ok (.aload 4, 2) := by decide +kernel
theorem dL_law_35 : decode cL_law 35 = .ok (.aload_n 0, 1) := by decide +kernel
theorem dL_law_36 : decode cL_law 36 = .ok (.iconst 1, 1) := by decide +kernel
theorem dL_law_37 : decode cL_law 37 = .ok (.iload 5, 2) := by decide +kernel
theorem dL_law_39 : decode cL_law 39 = .ok (.invokestatic 70, 3) := by decide +kernel
theorem dL_law_42 : decode cL_law 42 = .ok (.ifCond .ne 5, 3) := by decide +kernel
theorem dL_law_45 : decode cL_law 45 = .ok (.iconst 0, 1) := by decide +kernel
theorem dL_law_46 : decode cL_law 46 = .ok (.ireturn, 1) := by decide +kernel
theorem dL_law_47 : decode cL_law 47 = .ok (.bipush 42, 2) := by decide +kernel
theorem dL_law_49 : decode cL_law 49 = .ok (.istore 6, 2) := by decide +kernel
theorem dL_law_51 : decode cL_law 51 = .ok (.iload 6, 2) := by decide +kernel
theorem dL_law_53 : decode cL_law 53 = .ok (.aload_n 0, 1) := by decide +kernel
theorem dL_law_54 : decode cL_law 54 = .ok (.arraylength, 1) := by decide +kernel
theorem dL_law_55 : decode cL_law 55 = .ok (.if_icmp .ge 686, 3) := by decide +kernel
theorem dL_law_58 : decode cL_law 58 = .ok (.iload 6, 2) := by decide +kernel
theorem dL_law_60 : decode cL_law 60 = .ok (.bipush 64, 2) := by decide +kernel
theorem dL_law_62 : decode cL_law 62 = .ok (.if_icmp .ge 679, 3) := by decide +kernel
theorem dL_law_65 : decode cL_law 65 = .ok (.aload_n 0, 1) := by decide +kernel
theorem dL_law_66 : decode cL_law 66 = .ok (.iload 6, 2) := by decide +kernel
theorem dL_law_68 : decode cL_law 68 = .ok (.invokestatic 41, 3) := by decide +kernel
theorem dL_law_71 : decode cL_law 71 = .ok (.istore 7, 2) := by decide +kernel
theorem dL_law_73 : decode cL_law 73 = .ok (.iload 7, 2) := by decide +kernel
theorem dL_law_75 : decode cL_law 75 = .ok (.iconst 3, 1) := by decide +kernel
theorem dL_law_76 : decode cL_law 76 = .ok (.ishr, 1) := by decide +kernel
theorem dL_law_77 : decode cL_law 77 = .ok (.iconst 3, 1) := by decide +kernel
theorem dL_law_78 : decode cL_law 78 = .ok (.iand, 1) := by decide +kernel
theorem dL_law_79 : decode cL_law 79 = .ok (.ifCond .ne 8, 3) := by decide +kernel
theorem dL_law_82 : decode cL_law 82 = .ok (.bipush 40, 2) := by decide +kernel
theorem dL_law_84 : decode cL_law 84 = .ok (.goto 5, 3) := by decide +kernel
theorem dL_law_87 : decode cL_law 87 = .ok (.bipush 9, 2) := by decide +kernel
theorem dL_law_89 : decode cL_law 89 = .ok (.istore 8, 2) := by decide +kernel
theorem dL_law_91 : decode cL_law 91 = .ok (.iload 7, 2) := by decide +kernel
theorem dL_law_93 : decode cL_law 93 = .ok (.iconst 5, 1) := by decide +kernel
theorem dL_law_94 : decode cL_law 94 = .ok (.ishr, 1) := by decide +kernel
theorem dL_law_95 : decode cL_law 95 = .ok (.bipush 63, 2) := by decide +kernel
theorem dL_law_97 : decode cL_law 97 = .ok (.iand, 1) := by decide +kernel
theorem dL_law_98 : decode cL_law 98 = .ok (.iload 8, 2) := by decide +kernel
theorem dL_law_100 : decode cL_law 100 = .ok (.irem, 1) := by decide +kernel
theorem dL_law_101 : decode cL_law 101 = .ok (.istore 9, 2) := by decide +kernel
theorem dL_law_103 : decode cL_law 103 = .ok (.iload 9, 2) := by decide +kernel
theorem dL_law_105 : decode cL_law 105 = .ok (.iconst 1, 1) := by decide +kernel
theorem dL_law_106 : decode cL_law 106 = .ok (.iadd, 1) := by decide +kernel
theorem dL_law_107 : decode cL_law 107 = .ok (.iload 7, 2) := by decide +kernel
theorem dL_law_109 : decode cL_law 109 = .ok (.bipush 11, 2) := by decide +kernel
theorem dL_law_111 : decode cL_law 111 = .ok (.ishr, 1) := by decide +kernel
theorem dL_law_112 : decode cL_law 112 = .ok (.bipush 63, 2) := by decide +kernel
theorem dL_law_114 : decode cL_law 114 = .ok (.iand, 1) := by decide +kernel
theorem dL_law_115 : decode cL_law 115 = .ok (.iload 8, 2) := by decide +kernel
theorem dL_law_117 : decode cL_law 117 = .ok (.iconst 1, 1) := by decide +kernel
theorem dL_law_118 : decode cL_law 118 = .ok (.isub, 1) := by decide +kernel
theorem dL_law_119 : decode cL_law 119 = .ok (.irem, 1) := by decide +kernel
theorem dL_law_120 : decode cL_law 120 = .ok (.iadd, 1) := by decide +kernel
theorem dL_law_121 : decode cL_law 121 = .ok (.iload 8, 2) := by decide +kernel
theorem dL_law_123 : decode cL_law 123 = .ok (.irem, 1) := by decide +kernel
theorem dL_law_124 : decode cL_law 124 = .ok (.istore 10, 2) := by decide +kernel
theorem dL_law_126 : decode cL_law 126 = .ok (.aload_n 2, 1) := by decide +kernel
theorem dL_law_127 : decode cL_law 127 = .ok (.iload 9, 2) := by decide +kernel
theorem dL_law_129 : decode cL_law 129 = .ok (.laload, 1) := by decide +kernel
theorem dL_law_130 : decode cL_law 130 = .ok (.iload 10, 2) := by decide +kernel
theorem dL_law_132 : decode cL_law 132 = .ok (.invokestatic 15, 3) := by decide +kernel
theorem dL_law_135 : decode cL_law 135 = .ok (.istore 11, 2) := by decide +kernel
theorem dL_law_137 : decode cL_law 137 = .ok (.aload_n 1, 1) := by decide +kernel
theorem dL_law_138 : decode cL_law 138 = .ok (.iconst 1, 1) := by decide +kernel
theorem dL_law_139 : decode cL_law 139 = .ok (.invokevirtual 62, 3) := by decide +kernel
theorem dL_law_142 : decode cL_law 142 = .ok (.lstore 12, 2) := by decide +kernel
theorem dL_law_144 : decode cL_law 144 = .ok (.aload_n 1, 1) := by decide +kernel
theorem dL_law_145 : decode cL_law 145 = .ok (.iconst 0, 1) := by decide +kernel
theorem dL_law_146 : decode cL_law 146 = .ok (.invokevirtual 62, 3) := by decide +kernel
theorem dL_law_149 : decode cL_law 149 = .ok (.lstore 14, 2) := by decide +kernel
theorem dL_law_151 : decode cL_law 151 = .ok (.aload_n 1, 1) := by decide +kernel
theorem dL_law_152 : decode cL_law 152 = .ok (.iload 9, 2) := by decide +kernel
theorem dL_law_154 : decode cL_law 154 = .ok (.iload 10, 2) := by decide +kernel
theorem dL_law_156 : decode cL_law 156 = .ok (.iconst 0, 1) := by decide +kernel
theorem dL_law_157 : decode cL_law 157 = .ok (.invokevirtual 74, 3) := by decide +kernel
theorem dL_law_160 : decode cL_law 160 = .ok (.istore 16, 2) := by decide +kernel
theorem dL_law_162 : decode cL_law 162 = .ok (.iload 7, 2) := by decide +kernel
theorem dL_law_164 : decode cL_law 164 = .ok (.bipush 7, 2) := by decide +kernel
theorem dL_law_166 : decode cL_law 166 = .ok (.iand, 1) := by decide +kernel
theorem dL_law_167 : decode cL_law 167 = .ok (.istore 17, 2) := by decide +kernel
theorem dL_law_169 : decode cL_law 169 = .ok (.iload 17, 2) := by decide +kernel
theorem dL_law_171 : decode cL_law 171 = .ok (.iconst 3, 1) := by decide +kernel
theorem dL_law_172 : decode cL_law 172 = .ok (.if_icmp .ge 86, 3) := by decide +kernel
theorem dL_law_175 : decode cL_law 175 = .ok (.aload_n 1, 1) := by decide +kernel
theorem dL_law_176 : decode cL_law 176 = .ok (.iload 9, 2) := by decide +kernel
theorem dL_law_178 : decode cL_law 178 = .ok (.iload 10, 2) := by decide +kernel
theorem dL_law_180 : decode cL_law 180 = .ok (.iconst 3, 1) := by decide +kernel
theorem dL_law_181 : decode cL_law 181 = .ok (.invokevirtual 55, 3) := by decide +kernel
theorem dL_law_184 : decode cL_law 184 = .ok (.iload 11, 2) := by decide +kernel
theorem dL_law_186 : decode cL_law 186 = .ok (.ifCond .eq 8, 3) := by decide +kernel
theorem dL_law_189 : decode cL_law 189 = .ok (.bipush (-3), 2) := by decide +kernel
theorem dL_law_191 : decode cL_law 191 = .ok (.goto 5, 3) := by decide +kernel
theorem dL_law_194 : decode cL_law 194 = .ok (.iload 16, 2) := by decide +kernel
theorem dL_law_196 : decode cL_law 196 = .ok (.if_icmp .ne 41, 3) := by decide +kernel
theorem dL_law_199 : decode cL_law 199 = .ok (.aload_n 1, 1) := by decide +kernel
theorem dL_law_200 : decode cL_law 200 = .ok (.iconst 1, 1) := by decide +kernel
theorem dL_law_201 : decode cL_law 201 = .ok (.invokevirtual 62, 3) := by decide +kernel
theorem dL_law_204 : decode cL_law 204 = .ok (.iload 11, 2) := by decide +kernel
theorem dL_law_206 : decode cL_law 206 = .ok (.ifCond .eq 8, 3) := by decide +kernel
theorem dL_law_209 : decode cL_law 209 = .ok (.lload 12, 2) := by decide +kernel
theorem dL_law_211 : decode cL_law 211 = .ok (.goto 9, 3) := by decide +kernel
theorem dL_law_214 : decode cL_law 214 = .ok (.lload 12, 2) := by decide +kernel
theorem dL_law_216 : decode cL_law 216 = .ok (.iload 16, 2) := by decide +kernel
theorem dL_law_218 : decode cL_law 218 = .ok (.i2l, 1) := by decide +kernel
theorem dL_law_219 : decode cL_law 219 = .ok (.ladd, 1) := by decide +kernel
theorem dL_law_220 : decode cL_law 220 = .ok (.lcmp, 1) := by decide +kernel
theorem dL_law_221 : decode cL_law 221 = .ok (.ifCond .ne 16, 3) := by decide +kernel
theorem dL_law_224 : decode cL_law 224 = .ok (.aload_n 1, 1) := by decide +kernel
theorem dL_law_225 : decode cL_law 225 = .ok (.iload 9, 2) := by decide +kernel
theorem dL_law_227 : decode cL_law 227 = .ok (.iload 10, 2) := by decide +kernel
theorem dL_law_229 : decode cL_law 229 = .ok (.iconst 3, 1) := by decide +kernel
theorem dL_law_230 : decode cL_law 230 = .ok (.invokevirtual 74, 3) := by decide +kernel
theorem dL_law_233 : decode cL_law 233 = .ok (.iconst 1, 1) := by decide +kernel
theorem dL_law_234 : decode cL_law 234 = .ok (.if_icmp .eq 5, 3) := by decide +kernel
theorem dL_law_237 : decode cL_law 237 = .ok (.iconst 0, 1) := by decide +kernel
theorem dL_law_238 : decode cL_law 238 = .ok (.ireturn, 1) := by decide +kernel
theorem dL_law_239 : decode cL_law 239 = .ok (.iload 11, 2) := by decide +kernel
theorem dL_law_241 : decode cL_law 241 = .ok (.ifCond .ne 368, 3) := by decide +kernel
theorem dL_law_244 : decode cL_law 244 = .ok (.aload_n 2, 1) := by decide +kernel
theorem dL_law_245 : decode cL_law 245 = .ok (.aload_n 3, 1) := by decide +kernel
theorem dL_law_246 : decode cL_law 246 = .ok (.aload 4, 2) := by decide +kernel
theorem dL_law_248 : decode cL_law 248 = .ok (.iload 9, 2) := by decide +kernel
theorem dL_law_250 : decode cL_law 250 = .ok (.iload 10, 2) := by decide +kernel
theorem dL_law_252 : decode cL_law 252 = .ok (.invokestatic 58, 3) := by decide +kernel
theorem dL_law_255 : decode cL_law 255 = .ok (.goto 354, 3) := by decide +kernel
theorem dL_law_258 : decode cL_law 258 = .ok (.iload 17, 2) := by decide +kernel
theorem dL_law_260 : decode cL_law 260 = .ok (.iconst 5, 1) := by decide +kernel
theorem dL_law_261 : decode cL_law 261 = .ok (.if_icmp .ge 84, 3) := by decide +kernel
theorem dL_law_264 : decode cL_law 264 = .ok (.aload_n 1, 1) := by decide +kernel
theorem dL_law_265 : decode cL_law 265 = .ok (.iload 9, 2) := by decide +kernel
theorem dL_law_267 : decode cL_law 267 = .ok (.iload 10, 2) := by decide +kernel
theorem dL_law_269 : decode cL_law 269 = .ok (.invokevirtual 45, 3) := by decide +kernel
theorem dL_law_272 : decode cL_law 272 = .ok (.iload 11, 2) := by decide +kernel
theorem dL_law_274 : decode cL_law 274 = .ok (.ifCond .eq 8, 3) := by decide +kernel
theorem dL_law_277 : decode cL_law 277 = .ok (.iload 16, 2) := by decide +kernel
theorem dL_law_279 : decode cL_law 279 = .ok (.goto 5, 3) := by decide +kernel
theorem dL_law_282 : decode cL_law 282 = .ok (.bipush (-3), 2) := by decide +kernel
theorem dL_law_284 : decode cL_law 284 = .ok (.if_icmp .ne 40, 3) := by decide +kernel
theorem dL_law_287 : decode cL_law 287 = .ok (.aload_n 1, 1) := by decide +kernel
theorem dL_law_288 : decode cL_law 288 = .ok (.iconst 1, 1) := by decide +kernel
theorem dL_law_289 : decode cL_law 289 = .ok (.invokevirtual 62, 3) := by decide +kernel
theorem dL_law_292 : decode cL_law 292 = .ok (.iload 11, 2) := by decide +kernel
theorem dL_law_294 : decode cL_law 294 = .ok (.ifCond .eq 12, 3) := by decide +kernel
theorem dL_law_297 : decode cL_law 297 = .ok (.lload 12, 2) := by decide +kernel
theorem dL_law_299 : decode cL_law 299 = .ok (.iload 16, 2) := by decide +kernel
theorem dL_law_301 : decode cL_law 301 = .ok (.i2l, 1) := by decide +kernel
theorem dL_law_302 : decode cL_law 302 = .ok (.lsub, 1) := by decide +kernel
theorem dL_law_303 : decode cL_law 303 = .ok (.goto 5, 3) := by decide +kernel
theorem dL_law_306 : decode cL_law 306 = .ok (.lload 12, 2) := by decide +kernel
theorem dL_law_308 : decode cL_law 308 = .ok (.lcmp, 1) := by decide +kernel
theorem dL_law_309 : decode cL_law 309 = .ok (.ifCond .ne 15, 3) := by decide +kernel
theorem dL_law_312 : decode cL_law 312 = .ok (.aload_n 1, 1) := by decide +kernel
theorem dL_law_313 : decode cL_law 313 = .ok (.iload 9, 2) := by decide +kernel
theorem dL_law_315 : decode cL_law 315 = .ok (.iload 10, 2) := by decide +kernel
theorem dL_law_317 : decode cL_law 317 = .ok (.iconst 3, 1) := by decide +kernel
theorem dL_law_318 : decode cL_law 318 = .ok (.invokevirtual 74, 3) := by decide +kernel
theorem dL_law_321 : decode cL_law 321 = .ok (.ifCond .eq 5, 3) := by decide +kernel
theorem dL_law_324 : decode cL_law 324 = .ok (.iconst 0, 1) := by decide +kernel
theorem dL_law_325 : decode cL_law 325 = .ok (.ireturn, 1) := by decide +kernel
theorem dL_law_326 : decode cL_law 326 = .ok (.iload 11, 2) := by decide +kernel
theorem dL_law_328 : decode cL_law 328 = .ok (.ifCond .eq 281, 3) := by decide +kernel
theorem dL_law_331 : decode cL_law 331 = .ok (.aload_n 2, 1) := by decide +kernel
theorem dL_law_332 : decode cL_law 332 = .ok (.aload_n 3, 1) := by decide +kernel
theorem dL_law_333 : decode cL_law 333 = .ok (.aload 4, 2) := by decide +kernel
theorem dL_law_335 : decode cL_law 335 = .ok (.iload 9, 2) := by decide +kernel
theorem dL_law_337 : decode cL_law 337 = .ok (.iload 10, 2) := by decide +kernel
theorem dL_law_339 : decode cL_law 339 = .ok (.invokestatic 58, 3) := by decide +kernel
theorem dL_law_342 : decode cL_law 342 = .ok (.goto 267, 3) := by decide +kernel
theorem dL_law_345 : decode cL_law 345 = .ok (.iload 17, 2) := by decide +kernel
theorem dL_law_347 : decode cL_law 347 = .ok (.iconst 5, 1) := by decide +kernel
theorem dL_law_348 : decode cL_law 348 = .ok (.if_icmp .ne 63, 3) := by decide +kernel
theorem dL_law_351 : decode cL_law 351 = .ok (.aload_n 1, 1) := by decide +kernel
theorem dL_law_352 : decode cL_law 352 = .ok (.invokevirtual 77, 3) := by decide +kernel
theorem dL_law_355 : decode cL_law 355 = .ok (.istore 18, 2) := by decide +kernel
theorem dL_law_357 : decode cL_law 357 = .ok (.aload_n 1, 1) := by decide +kernel
theorem dL_law_358 : decode cL_law 358 = .ok (.iload 9, 2) := by decide +kernel
theorem dL_law_360 : decode cL_law 360 = .ok (.iload 10, 2) := by decide +kernel
theorem dL_law_362 : decode cL_law 362 = .ok (.iconst 1, 1) := by decide +kernel
theorem dL_law_363 : decode cL_law 363 = .ok (.invokevirtual 55, 3) := by decide +kernel
theorem dL_law_366 : decode cL_law 366 = .ok (.aload_n 1, 1) := by decide +kernel
theorem dL_law_367 : decode cL_law 367 = .ok (.iload 9, 2) := by decide +kernel
theorem dL_law_369 : decode cL_law 369 = .ok (.iload 10, 2) := by decide +kernel
theorem dL_law_371 : decode cL_law 371 = .ok (.iconst 1, 1) := by decide +kernel
theorem dL_law_372 : decode cL_law 372 = .ok (.iadd, 1) := by decide +kernel
theorem dL_law_373 : decode cL_law 373 = .ok (.bipush 40, 2) := by decide +kernel
theorem dL_law_375 : decode cL_law 375 = .ok (.irem, 1) := by decide +kernel
theorem dL_law_376 : decode cL_law 376 = .ok (.invokevirtual 45, 3) := by decide +kernel
theorem dL_law_379 : decode cL_law 379 = .ok (.iadd, 1) := by decide +kernel
theorem dL_law_380 : decode cL_law 380 = .ok (.aload_n 1, 1) := by decide +kernel
theorem dL_law_381 : decode cL_law 381 = .ok (.iconst 3, 1) := by decide +kernel
theorem dL_law_382 : decode cL_law 382 = .ok (.invokevirtual 81, 3) := by decide +kernel
theorem dL_law_385 : decode cL_law 385 = .ok (.iadd, 1) := by decide +kernel
theorem dL_law_386 : decode cL_law 386 = .ok (.istore 19, 2) := by decide +kernel
theorem dL_law_388 : decode cL_law 388 = .ok (.aload_n 1, 1) := by decide +kernel
theorem dL_law_389 : decode cL_law 389 = .ok (.invokevirtual 85, 3) := by decide +kernel
theorem dL_law_392 : decode cL_law 392 = .ok (.iload 18, 2) := by decide +kernel
theorem dL_law_394 : decode cL_law 394 = .ok (.if_icmp .ne 12, 3) := by decide +kernel
theorem dL_law_397 : decode cL_law 397 = .ok (.iload 18, 2) := by decide +kernel
theorem dL_law_399 : decode cL_law 399 = .ok (.i2l, 1) := by decide +kernel
theorem dL_law_400 : decode cL_law 400 = .ok (.lload 14, 2) := by decide +kernel
theorem dL_law_402 : decode cL_law 402 = .ok (.lcmp, 1) := by decide +kernel
theorem dL_law_403 : decode cL_law 403 = .ok (.ifCond .eq 5, 3) := by decide +kernel
theorem dL_law_406 : decode cL_law 406 = .ok (.iconst 0, 1) := by decide +kernel
theorem dL_law_407 : decode cL_law 407 = .ok (.ireturn, 1) := by decide +kernel
theorem dL_law_408 : decode cL_law 408 = .ok (.goto 201, 3) := by decide +kernel
theorem dL_law_411 : decode cL_law 411 = .ok (.iload 17, 2) := by decide +kernel
theorem dL_law_413 : decode cL_law 413 = .ok (.bipush 6, 2) := by decide +kernel
theorem dL_law_415 : decode cL_law 415 = .ok (.if_icmp .ne 108, 3) := by decide +kernel
theorem dL_law_418 : decode cL_law 418 = .ok (.iload 11, 2) := by decide +kernel
theorem dL_law_420 : decode cL_law 420 = .ok (.ifCond .eq 103, 3) := by decide +kernel
theorem dL_law_423 : decode cL_law 423 = .ok (.aload_n 1, 1) := by decide +kernel
theorem dL_law_424 : decode cL_law 424 = .ok (.iload 9, 2) := by decide +kernel
theorem dL_law_426 : decode cL_law 426 = .ok (.iload 10, 2) := by decide +kernel
theorem dL_law_428 : decode cL_law 428 = .ok (.iconst 1, 1) := by decide +kernel
theorem dL_law_429 : decode cL_law 429 = .ok (.invokevirtual 88, 3) := by decide +kernel
theorem dL_law_432 : decode cL_law 432 = .ok (.istore 18, 2) := by decide +kernel
theorem dL_law_434 : decode cL_law 434 = .ok (.iload 18, 2) := by decide +kernel
theorem dL_law_436 : decode cL_law 436 = .ok (.iload 16, 2) := by decide +kernel
theorem dL_law_438 : decode cL_law 438 = .ok (.iconst 2, 1) := by decide +kernel
theorem dL_law_439 : decode cL_law 439 = .ok (.iadd, 1) := by decide +kernel
theorem dL_law_440 : decode cL_law 440 = .ok (.if_icmp .gt 78, 3) := by decide +kernel
theorem dL_law_443 : decode cL_law 443 = .ok (.iload 18, 2) := by decide +kernel
theorem dL_law_445 : decode cL_law 445 = .ok (.iconst 2, 1) := by decide +kernel
theorem dL_law_446 : decode cL_law 446 = .ok (.if_icmp .lt 72, 3) := by decide +kernel
theorem dL_law_449 : decode cL_law 449 = .ok (.aload_n 1, 1) := by decide +kernel
theorem dL_law_450 : decode cL_law 450 = .ok (.iload 18, 2) := by decide +kernel
theorem dL_law_452 : decode cL_law 452 = .ok (.invokevirtual 91, 3) := by decide +kernel
theorem dL_law_455 : decode cL_law 455 = .ok (.iconst 1, 1) := by decide +kernel
theorem dL_law_456 : decode cL_law 456 = .ok (.if_icmp .lt 62, 3) := by decide +kernel
theorem dL_law_459 : decode cL_law 459 = .ok (.aload_n 1, 1) := by decide +kernel
theorem dL_law_460 : decode cL_law 460 = .ok (.iload 9, 2) := by decide +kernel
theorem dL_law_462 : decode cL_law 462 = .ok (.iload 10, 2) := by decide +kernel
theorem dL_law_464 : decode cL_law 464 = .ok (.iload 18, 2) := by decide +kernel
theorem dL_law_466 : decode cL_law 466 = .ok (.invokevirtual 94, 3) := by decide +kernel
theorem dL_law_469 : decode cL_law 469 = .ok (.iconst 1, 1) := by decide +kernel
theorem dL_law_470 : decode cL_law 470 = .ok (.if_icmp .lt 48, 3) := by decide +kernel
theorem dL_law_473 : decode cL_law 473 = .ok (.aload_n 1, 1) := by decide +kernel
theorem dL_law_474 : decode cL_law 474 = .ok (.iload 9, 2) := by decide +kernel
theorem dL_law_476 : decode cL_law 476 = .ok (.iload 10, 2) := by decide +kernel
theorem dL_law_478 : decode cL_law 478 = .ok (.iload 18, 2) := by decide +kernel
theorem dL_law_480 : decode cL_law 480 = .ok (.iconst 1, 1) := by decide +kernel
theorem dL_law_481 : decode cL_law 481 = .ok (.iadd, 1) := by decide +kernel
theorem dL_law_482 : decode cL_law 482 = .ok (.invokevirtual 94, 3) := by decide +kernel
theorem dL_law_485 : decode cL_law 485 = .ok (.ifCond .ne 33, 3) := by decide +kernel
theorem dL_law_488 : decode cL_law 488 = .ok (.aload_n 1, 1) := by decide +kernel
theorem dL_law_489 : decode cL_law 489 = .ok (.iload 9, 2) := by decide +kernel
theorem dL_law_491 : decode cL_law 491 = .ok (.iload 10, 2) := by decide +kernel
theorem dL_law_493 : decode cL_law 493 = .ok (.iconst 2, 1) := by decide +kernel
theorem dL_law_494 : decode cL_law 494 = .ok (.invokevirtual 88, 3) := by decide +kernel
theorem dL_law_497 : decode cL_law 497 = .ok (.i2l, 1) := by decide +kernel
theorem dL_law_498 : decode cL_law 498 = .ok (.lload 14, 2) := by decide +kernel
theorem dL_law_500 : decode cL_law 500 = .ok (.lcmp, 1) := by decide +kernel
theorem dL_law_501 : decode cL_law 501 = .ok (.ifCond .ge 17, 3) := by decide +kernel
theorem dL_law_504 : decode cL_law 504 = .ok (.aload_n 1, 1) := by decide +kernel
theorem dL_law_505 : decode cL_law 505 = .ok (.iload 9, 2) := by decide +kernel
theorem dL_law_507 : decode cL_law 507 = .ok (.iconst 3, 1) := by decide +kernel
theorem dL_law_508 : decode cL_law 508 = .ok (.invokevirtual 97, 3) := by decide +kernel
theorem dL_law_511 : decode cL_law 511 = .ok (.iload 18, 2) := by decide +kernel
theorem dL_law_513 : decode cL_law 513 = .ok (.iconst 1, 1) := by decide +kernel
theorem dL_law_514 : decode cL_law 514 = .ok (.isub, 1) := by decide +kernel
theorem dL_law_515 : decode cL_law 515 = .ok (.if_icmp .ge 5, 3) := by decide +kernel
theorem dL_law_518 : decode cL_law 518 = .ok (.iconst 0, 1) := by decide +kernel
theorem dL_law_519 : decode cL_law 519 = .ok (.ireturn, 1) := by decide +kernel
theorem dL_law_520 : decode cL_law 520 = .ok (.goto 89, 3) := by decide +kernel
theorem dL_law_523 : decode cL_law 523 = .ok (.aload_n 1, 1) := by decide +kernel
theorem dL_law_524 : decode cL_law 524 = .ok (.invokevirtual 100, 3) := by decide +kernel
theorem dL_law_527 : decode cL_law 527 = .ok (.aload_n 1, 1) := by decide +kernel
theorem dL_law_528 : decode cL_law 528 = .ok (.invokevirtual 103, 3) := by decide +kernel
theorem dL_law_531 : decode cL_law 531 = .ok (.iadd, 1) := by decide +kernel
theorem dL_law_532 : decode cL_law 532 = .ok (.aload_n 1, 1) := by decide +kernel
theorem dL_law_533 : decode cL_law 533 = .ok (.iconst 0, 1) := by decide +kernel
theorem dL_law_534 : decode cL_law 534 = .ok (.invokevirtual 106, 3) := by decide +kernel
theorem dL_law_537 : decode cL_law 537 = .ok (.iadd, 1) := by decide +kernel
theorem dL_law_538 : decode cL_law 538 = .ok (.aload_n 1, 1) := by decide +kernel
theorem dL_law_539 : decode cL_law 539 = .ok (.iconst 3, 1) := by decide +kernel
theorem dL_law_540 : decode cL_law 540 = .ok (.invokevirtual 109, 3) := by decide +kernel
theorem dL_law_543 : decode cL_law 543 = .ok (.iadd, 1) := by decide +kernel
theorem dL_law_544 : decode cL_law 544 = .ok (.istore 18, 2) := by decide +kernel
theorem dL_law_546 : decode cL_law 546 = .ok (.iload 18, 2) := by decide +kernel
theorem dL_law_548 : decode cL_law 548 = .ok (.bipush (-5), 2) := by decide +kernel
theorem dL_law_550 : decode cL_law 550 = .ok (.if_icmp .lt 57, 3) := by decide +kernel
theorem dL_law_553 : decode cL_law 553 = .ok (.aload_n 1, 1) := by decide +kernel
theorem dL_law_554 : decode cL_law 554 = .ok (.iconst 0, 1) := by decide +kernel
theorem dL_law_555 : decode cL_law 555 = .ok (.invokevirtual 106, 3) := by decide +kernel
theorem dL_law_558 : decode cL_law 558 = .ok (.i2l, 1) := by decide +kernel
theorem dL_law_559 : decode cL_law 559 = .ok (.lload 12, 2) := by decide +kernel
theorem dL_law_561 : decode cL_law 561 = .ok (.lcmp, 1) := by decide +kernel
theorem dL_law_562 : decode cL_law 562 = .ok (.ifCond .gt 45, 3) := by decide +kernel
theorem dL_law_565 : decode cL_law 565 = .ok (.aload_n 1, 1) := by decide +kernel
theorem dL_law_566 : decode cL_law 566 = .ok (.invokevirtual 103, 3) := by decide +kernel
theorem dL_law_569 : decode cL_law 569 = .ok (.ifCond .ne 7, 3) := by decide +kernel
theorem dL_law_572 : decode cL_law 572 = .ok (.iconst 1, 1) := by decide +kernel
theorem dL_law_573 : decode cL_law 573 = .ok (.goto 4, 3) := by decide +kernel
theorem dL_law_576 : decode cL_law 576 = .ok (.iconst 0, 1) := by decide +kernel
theorem dL_law_577 : decode cL_law 577 = .ok (.lload 12, 2) := by decide +kernel
theorem dL_law_579 : decode cL_law 579 = .ok (.lconst 0, 1) := by decide +kernel
theorem dL_law_580 : decode cL_law 580 = .ok (.lcmp, 1) := by decide +kernel
theorem dL_law_581 : decode cL_law 581 = .ok (.ifCond .ne 7, 3) := by decide +kernel
theorem dL_law_584 : decode cL_law 584 = .ok (.iconst 1, 1) := by decide +kernel
theorem dL_law_585 : decode cL_law 585 = .ok (.goto 4, 3) := by decide +kernel
theorem dL_law_588 : decode cL_law 588 = .ok (.iconst 0, 1) := by decide +kernel
theorem dL_law_589 : decode cL_law 589 = .ok (.if_icmp .ne 18, 3) := by decide +kernel
theorem dL_law_592 : decode cL_law 592 = .ok (.aload_n 1, 1) := by decide +kernel
theorem dL_law_593 : decode cL_law 593 = .ok (.bipush 13, 2) := by decide +kernel
theorem dL_law_595 : decode cL_law 595 = .ok (.invokevirtual 62, 3) := by decide +kernel
theorem dL_law_598 : decode cL_law 598 = .ok (.aload_n 1, 1) := by decide +kernel
theorem dL_law_599 : decode cL_law 599 = .ok (.iconst 2, 1) := by decide +kernel
theorem dL_law_600 : decode cL_law 600 = .ok (.invokevirtual 62, 3) := by decide +kernel
theorem dL_law_603 : decode cL_law 603 = .ok (.lcmp, 1) := by decide +kernel
theorem dL_law_604 : decode cL_law 604 = .ok (.ifCond .le 5, 3) := by decide +kernel
theorem dL_law_607 : decode cL_law 607 = .ok (.iconst 0, 1) := by decide +kernel
theorem dL_law_608 : decode cL_law 608 = .ok (.ireturn, 1) := by decide +kernel
theorem dL_law_609 : decode cL_law 609 = .ok (.aload_n 1, 1) := by decide +kernel
theorem dL_law_610 : decode cL_law 610 = .ok (.aload_n 2, 1) := by decide +kernel
theorem dL_law_611 : decode cL_law 611 = .ok (.aload_n 3, 1) := by decide +kernel
theorem dL_law_612 : decode cL_law 612 = .ok (.aload 4, 2) := by decide +kernel
theorem dL_law_614 : decode cL_law 614 = .ok (.invokestatic 112, 3) := by decide +kernel
theorem dL_law_617 : decode cL_law 617 = .ok (.ifCond .eq 37, 3) := by decide +kernel
theorem dL_law_620 : decode cL_law 620 = .ok (.aload_n 1, 1) := by decide +kernel
theorem dL_law_621 : decode cL_law 621 = .ok (.iconst 0, 1) := by decide +kernel
theorem dL_law_622 : decode cL_law 622 = .ok (.invokevirtual 62, 3) := by decide +kernel
theorem dL_law_625 : decode cL_law 625 = .ok (.aload_n 1, 1) := by decide +kernel
theorem dL_law_626 : decode cL_law 626 = .ok (.iconst 3, 1) := by decide +kernel
theorem dL_law_627 : decode cL_law 627 = .ok (.invokevirtual 62, 3) := by decide +kernel
theorem dL_law_630 : decode cL_law 630 = .ok (.lcmp, 1) := by decide +kernel
theorem dL_law_631 : decode cL_law 631 = .ok (.ifCond .gt 23, 3) := by decide +kernel
theorem dL_law_634 : decode cL_law 634 = .ok (.aload_n 1, 1) := by decide +kernel
theorem dL_law_635 : decode cL_law 635 = .ok (.iconst 4, 1) := by decide +kernel
theorem dL_law_636 : decode cL_law 636 = .ok (.invokevirtual 62, 3) := by decide +kernel
theorem dL_law_639 : decode cL_law 639 = .ok (.aload_n 1, 1) := by decide +kernel
theorem dL_law_640 : decode cL_law 640 = .ok (.iconst 4, 1) := by decide +kernel
theorem dL_law_641 : decode cL_law 641 = .ok (.invokevirtual 62, 3) := by decide +kernel
theorem dL_law_644 : decode cL_law 644 = .ok (.lmul, 1) := by decide +kernel
theorem dL_law_645 : decode cL_law 645 = .ok (.aload_n 1, 1) := by decide +kernel
theorem dL_law_646 : decode cL_law 646 = .ok (.iconst 3, 1) := by decide +kernel
theorem dL_law_647 : decode cL_law 647 = .ok (.invokevirtual 62, 3) := by decide +kernel
theorem dL_law_650 : decode cL_law 650 = .ok (.lcmp, 1) := by decide +kernel
theorem dL_law_651 : decode cL_law 651 = .ok (.ifCond .ge 5, 3) := by decide +kernel
theorem dL_law_654 : decode cL_law 654 = .ok (.iconst 0, 1) := by decide +kernel
theorem dL_law_655 : decode cL_law 655 = .ok (.ireturn, 1) := by decide +kernel
theorem dL_law_656 : decode cL_law 656 = .ok (.aload_n 1, 1) := by decide +kernel
theorem dL_law_657 : decode cL_law 657 = .ok (.iload 9, 2) := by decide +kernel
theorem dL_law_659 : decode cL_law 659 = .ok (.iconst 0, 1) := by decide +kernel
theorem dL_law_660 : decode cL_law 660 = .ok (.invokevirtual 97, 3) := by decide +kernel
theorem dL_law_663 : decode cL_law 663 = .ok (.istore 18, 2) := by decide +kernel
theorem dL_law_665 : decode cL_law 665 = .ok (.aload_n 1, 1) := by decide +kernel
theorem dL_law_666 : decode cL_law 666 = .ok (.iload 9, 2) := by decide +kernel
theorem dL_law_668 : decode cL_law 668 = .ok (.iconst 2, 1) := by decide +kernel
theorem dL_law_669 : decode cL_law 669 = .ok (.invokevirtual 97, 3) := by decide +kernel
theorem dL_law_672 : decode cL_law 672 = .ok (.iconst 1, 1) := by decide +kernel
theorem dL_law_673 : decode cL_law 673 = .ok (.if_icmp .ne 7, 3) := by decide +kernel
theorem dL_law_676 : decode cL_law 676 = .ok (.iconst 1, 1) := by decide +kernel
theorem dL_law_677 : decode cL_law 677 = .ok (.goto 4, 3) := by decide +kernel
theorem dL_law_680 : decode cL_law 680 = .ok (.iconst 0, 1) := by decide +kernel
theorem dL_law_681 : decode cL_law 681 = .ok (.istore 19, 2) := by decide +kernel
theorem dL_law_683 : decode cL_law 683 = .ok (.aload_n 1, 1) := by decide +kernel
theorem dL_law_684 : decode cL_law 684 = .ok (.iload 9, 2) := by decide +kernel
theorem dL_law_686 : decode cL_law 686 = .ok (.invokevirtual 66, 3) := by decide +kernel
theorem dL_law_689 : decode cL_law 689 = .ok (.invokestatic 9, 3) := by decide +kernel
theorem dL_law_692 : decode cL_law 692 = .ok (.iload 18, 2) := by decide +kernel
theorem dL_law_694 : decode cL_law 694 = .ok (.if_icmp .ne 39, 3) := by decide +kernel
theorem dL_law_697 : decode cL_law 697 = .ok (.iload 19, 2) := by decide +kernel
theorem dL_law_699 : decode cL_law 699 = .ok (.ifCond .eq 18, 3) := by decide +kernel
theorem dL_law_702 : decode cL_law 702 = .ok (.iload 18, 2) := by decide +kernel
theorem dL_law_704 : decode cL_law 704 = .ok (.ifCond .ne 13, 3) := by decide +kernel
theorem dL_law_707 : decode cL_law 707 = .ok (.aload_n 1, 1) := by decide +kernel
theorem dL_law_708 : decode cL_law 708 = .ok (.iconst 4, 1) := by decide +kernel
theorem dL_law_709 : decode cL_law 709 = .ok (.invokevirtual 62, 3) := by decide +kernel
theorem dL_law_712 : decode cL_law 712 = .ok (.lconst 1, 1) := by decide +kernel
theorem dL_law_713 : decode cL_law 713 = .ok (.lcmp, 1) := by decide +kernel
theorem dL_law_714 : decode cL_law 714 = .ok (.ifCond .gt 19, 3) := by decide +kernel
theorem dL_law_717 : decode cL_law 717 = .ok (.ldc2_w 116, 3) := by decide +kernel
theorem dL_law_720 : decode cL_law 720 = .ok (.aload_n 1, 1) := by decide +kernel
theorem dL_law_721 : decode cL_law 721 = .ok (.iconst 0, 1) := by decide +kernel
theorem dL_law_722 : decode cL_law 722 = .ok (.invokevirtual 62, 3) := by decide +kernel
theorem dL_law_725 : decode cL_law 725 = .ok (.lmul, 1) := by decide +kernel
theorem dL_law_726 : decode cL_law 726 = .ok (.iload 18, 2) := by decide +kernel
theorem dL_law_728 : decode cL_law 728 = .ok (.i2l, 1) := by decide +kernel
theorem dL_law_729 : decode cL_law 729 = .ok (.lcmp, 1) := by decide +kernel
theorem dL_law_730 : decode cL_law 730 = .ok (.ifCond .ge 5, 3) := by decide +kernel
theorem dL_law_733 : decode cL_law 733 = .ok (.iconst 0, 1) := by decide +kernel
theorem dL_law_734 : decode cL_law 734 = .ok (.ireturn, 1) := by decide +kernel
theorem dL_law_735 : decode cL_law 735 = .ok (.iinc 6 1, 3) := by decide +kernel
theorem dL_law_738 : decode cL_law 738 = .ok (.goto (-687), 3) := by decide +kernel
theorem dL_law_741 : decode cL_law 741 = .ok (.iconst 1, 1) := by decide +kernel
theorem dL_law_742 : decode cL_law 742 = .ok (.ireturn, 1) := by decide +kernel

theorem dX0_init_0 : decode cX0_init 0 = .ok (.aload_n 0, 1) := by decide +kernel
theorem dX0_init_1 : decode cX0_init 1 = .ok (.invokespecial 1, 3) := by decide +kernel
theorem dX0_init_4 : decode cX0_init 4 = .ok (.aload_n 0, 1) := by decide +kernel
theorem dX0_init_5 : decode cX0_init 5 = .ok (.aconst_null, 1) := by decide +kernel
theorem dX0_init_6 : decode cX0_init 6 = .ok (.putfield 7, 3) := by decide +kernel
theorem dX0_init_9 : decode cX0_init 9 = .ok (.aload_n 0, 1) := by decide +kernel
theorem dX0_init_10 : decode cX0_init 10 = .ok (.aconst_null, 1) := by decide +kernel
theorem dX0_init_11 : decode cX0_init 11 = .ok (.putfield 13, 3) := by decide +kernel
theorem dX0_init_14 : decode cX0_init 14 = .ok (.aload_n 0, 1) := by decide +kernel
theorem dX0_init_15 : decode cX0_init 15 = .ok (.new 16, 3) := by decide +kernel
theorem dX0_init_18 : decode cX0_init 18 = .ok (.dup, 1) := by decide +kernel
theorem dX0_init_19 : decode cX0_init 19 = .ok (.invokespecial 18, 3) := by decide +kernel
theorem dX0_init_22 : decode cX0_init 22 = .ok (.putfield 19, 3) := by decide +kernel
theorem dX0_init_25 : decode cX0_init 25 = .ok (.aload_n 0, 1) := by decide +kernel
theorem dX0_init_26 : decode cX0_init 26 = .ok (.new 16, 3) := by decide +kernel
theorem dX0_init_29 : decode cX0_init 29 = .ok (.dup, 1) := by decide +kernel
theorem dX0_init_30 : decode cX0_init 30 = .ok (.invokespecial 18, 3) := by decide +kernel
theorem dX0_init_33 : decode cX0_init 33 = .ok (.putfield 23, 3) := by decide +kernel
theorem dX0_init_36 : decode cX0_init 36 = .ok (.return_, 1) := by decide +kernel
theorem dX1_init_0 : decode cX1_init 0 = .ok (.aload_n 0, 1) := by decide +kernel
theorem dX1_init_1 : decode cX1_init 1 = .ok (.invokespecial 3, 3) := by decide +kernel
theorem dX1_init_4 : decode cX1_init 4 = .ok (.aload_n 0, 1) := by decide +kernel
theorem dX1_init_5 : decode cX1_init 5 = .ok (.sipush 3000, 3) := by decide +kernel
theorem dX1_init_8 : decode cX1_init 8 = .ok (.newarray .int, 2) := by decide +kernel
theorem dX1_init_10 : decode cX1_init 10 = .ok (.putfield 9, 3) := by decide +kernel
theorem dX1_init_13 : decode cX1_init 13 = .ok (.aload_n 0, 1) := by decide +kernel
theorem dX1_init_14 : decode cX1_init 14 = .ok (.sipush 3000, 3) := by decide +kernel
theorem dX1_init_17 : decode cX1_init 17 = .ok (.newarray .int, 2) := by decide +kernel
theorem dX1_init_19 : decode cX1_init 19 = .ok (.putfield 15, 3) := by decide +kernel
theorem dX1_init_22 : decode cX1_init 22 = .ok (.aload_n 0, 1) := by decide +kernel
theorem dX1_init_23 : decode cX1_init 23 = .ok (.sipush 3000, 3) := by decide +kernel
theorem dX1_init_26 : decode cX1_init 26 = .ok (.newarray .int, 2) := by decide +kernel
theorem dX1_init_28 : decode cX1_init 28 = .ok (.putfield 18, 3) := by decide +kernel
theorem dX1_init_31 : decode cX1_init 31 = .ok (.aload_n 0, 1) := by decide +kernel
theorem dX1_init_32 : decode cX1_init 32 = .ok (.sipush 3000, 3) := by decide +kernel
theorem dX1_init_35 : decode cX1_init 35 = .ok (.newarray .int, 2) := by decide +kernel
theorem dX1_init_37 : decode cX1_init 37 = .ok (.putfield 21, 3) := by decide +kernel
theorem dX1_init_40 : decode cX1_init 40 = .ok (.aload_n 0, 1) := by decide +kernel
theorem dX1_init_41 : decode cX1_init 41 = .ok (.iconst 0, 1) := by decide +kernel
theorem dX1_init_42 : decode cX1_init 42 = .ok (.putfield 24, 3) := by decide +kernel
theorem dX1_init_45 : decode cX1_init 45 = .ok (.aload_n 0, 1) := by decide +kernel
theorem dX1_init_46 : decode cX1_init 46 = .ok (.new 28, 3) := by decide +kernel
theorem dX1_init_49 : decode cX1_init 49 = .ok (.dup, 1) := by decide +kernel
theorem dX1_init_50 : decode cX1_init 50 = .ok (.sipush 3000, 3) := by decide +kernel
theorem dX1_init_53 : decode cX1_init 53 = .ok (.newarray .byte, 2) := by decide +kernel
theorem dX1_init_55 : decode cX1_init 55 = .ok (.invokespecial 30, 3) := by decide +kernel
theorem dX1_init_58 : decode cX1_init 58 = .ok (.putfield 33, 3) := by decide +kernel
theorem dX1_init_61 : decode cX1_init 61 = .ok (.aload_n 0, 1) := by decide +kernel
theorem dX1_init_62 : decode cX1_init 62 = .ok (.iconst 0, 1) := by decide +kernel
theorem dX1_init_63 : decode cX1_init 63 = .ok (.putfield 37, 3) := by decide +kernel
theorem dX1_init_66 : decode cX1_init 66 = .ok (.aload_n 0, 1) := by decide +kernel
theorem dX1_init_67 : decode cX1_init 67 = .ok (.sipush 3000, 3) := by decide +kernel
theorem dX1_init_70 : decode cX1_init 70 = .ok (.newarray .byte, 2) := by decide +kernel
theorem dX1_init_72 : decode cX1_init 72 = .ok (.putfield 41, 3) := by decide +kernel
theorem dX1_init_75 : decode cX1_init 75 = .ok (.aload_n 0, 1) := by decide +kernel
theorem dX1_init_76 : decode cX1_init 76 = .ok (.iconst 0, 1) := by decide +kernel
theorem dX1_init_77 : decode cX1_init 77 = .ok (.putfield 45, 3) := by decide +kernel
theorem dX1_init_80 : decode cX1_init 80 = .ok (.aload_n 0, 1) := by decide +kernel
theorem dX1_init_81 : decode cX1_init 81 = .ok (.sipush 300, 3) := by decide +kernel
theorem dX1_init_84 : decode cX1_init 84 = .ok (.newarray .int, 2) := by decide +kernel
theorem dX1_init_86 : decode cX1_init 86 = .ok (.putfield 48, 3) := by decide +kernel
theorem dX1_init_89 : decode cX1_init 89 = .ok (.aload_n 0, 1) := by decide +kernel
theorem dX1_init_90 : decode cX1_init 90 = .ok (.sipush 300, 3) := by decide +kernel
theorem dX1_init_93 : decode cX1_init 93 = .ok (.newarray .boolean, 2) := by decide +kernel
theorem dX1_init_95 : decode cX1_init 95 = .ok (.putfield 51, 3) := by decide +kernel
theorem dX1_init_98 : decode cX1_init 98 = .ok (.aload_n 0, 1) := by decide +kernel
theorem dX1_init_99 : decode cX1_init 99 = .ok (.iconst 0, 1) := by decide +kernel
theorem dX1_init_100 : decode cX1_init 100 = .ok (.putfield 55, 3) := by decide +kernel
theorem dX1_init_103 : decode cX1_init 103 = .ok (.aload_n 0, 1) := by decide +kernel
theorem dX1_init_104 : decode cX1_init 104 = .ok (.sipush 300, 3) := by decide +kernel
theorem dX1_init_107 : decode cX1_init 107 = .ok (.newarray .boolean, 2) := by decide +kernel
theorem dX1_init_109 : decode cX1_init 109 = .ok (.putfield 58, 3) := by decide +kernel
theorem dX1_init_112 : decode cX1_init 112 = .ok (.return_, 1) := by decide +kernel
theorem dX1_begin_0 : decode cX1_begin 0 = .ok (.aload_n 0, 1) := by decide +kernel
theorem dX1_begin_1 : decode cX1_begin 1 = .ok (.iconst 0, 1) := by decide +kernel
theorem dX1_begin_2 : decode cX1_begin 2 = .ok (.putfield 24, 3) := by decide +kernel
theorem dX1_begin_5 : decode cX1_begin 5 = .ok (.aload_n 0, 1) := by decide +kernel
theorem dX1_begin_6 : decode cX1_begin 6 = .ok (.iconst 0, 1) := by decide +kernel
theorem dX1_begin_7 : decode cX1_begin 7 = .ok (.putfield 37, 3) := by decide +kernel
theorem dX1_begin_10 : decode cX1_begin 10 = .ok (.aload_n 0, 1) := by decide +kernel
theorem dX1_begin_11 : decode cX1_begin 11 = .ok (.getfield 33, 3) := by decide +kernel
theorem dX1_begin_14 : decode cX1_begin 14 = .ok (.aload_n 1, 1) := by decide +kernel
theorem dX1_begin_15 : decode cX1_begin 15 = .ok (.iload_n 2, 1) := by decide +kernel
theorem dX1_begin_16 : decode cX1_begin 16 = .ok (.iload_n 3, 1) := by decide +kernel
theorem dX1_begin_17 : decode cX1_begin 17 = .ok (.invokevirtual 61, 3) := by decide +kernel
theorem dX1_begin_20 : decode cX1_begin 20 = .ok (.return_, 1) := by decide +kernel
theorem dX1_beginWith_0 : decode cX1_beginWith 0 = .ok (.aload_n 0, 1) := by decide +kernel
theorem dX1_beginWith_1 : decode cX1_beginWith 1 = .ok (.iconst 0, 1) := by decide +kernel
theorem dX1_beginWith_2 : decode cX1_beginWith 2 = .ok (.putfield 24, 3) := by decide +kernel
theorem dX1_beginWith_5 : decode cX1_beginWith 5 = .ok (.aload_n 0, 1) := by decide +kernel
theorem dX1_beginWith_6 : decode cX1_beginWith 6 = .ok (.iconst 0, 1) := by decide +kernel
theorem dX1_beginWith_7 : decode cX1_beginWith 7 = .ok (.putfield 37, 3) := by decide +kernel
theorem dX1_beginWith_10 : decode cX1_beginWith 10 = .ok (.aload_n 0, 1) := by decide +kernel
theorem dX1_beginWith_11 : decode cX1_beginWith 11 = .ok (.getfield 33, 3) := by decide +kernel
theorem dX1_beginWith_14 : decode cX1_beginWith 14 = .ok (.iconst 0, 1) := by decide +kernel
theorem dX1_beginWith_15 : decode cX1_beginWith 15 = .ok (.putfield 65, 3) := by decide +kernel
theorem dX1_beginWith_18 : decode cX1_beginWith 18 = .ok (.iconst 0, 1) := by decide +kernel
theorem dX1_beginWith_19 : decode cX1_beginWith 19 = .ok (.istore_n 3, 1) := by decide +kernel
theorem dX1_beginWith_20 : decode cX1_beginWith 20 = .ok (.iload_n 3, 1) := by decide +kernel
theorem dX1_beginWith_21 : decode cX1_beginWith 21 = .ok (.iload_n 2, 1) := by decide +kernel
theorem dX1_beginWith_22 : decode cX1_beginWith 22 = .ok (.if_icmp .ge 18, 3) := by decide +kernel
theorem dX1_beginWith_25 : decode cX1_beginWith 25 = .ok (.aload_n 0, 1) := by decide +kernel
theorem dX1_beginWith_26 : decode cX1_beginWith 26 = .ok (.getfield 33, 3) := by decide +kernel
theorem dX1_beginWith_29 : decode cX1_beginWith 29 = .ok (.iload_n 1, 1) := by decide +kernel
theorem dX1_beginWith_30 : decode cX1_beginWith 30 = .ok (.invokevirtual 68, 3) := by decide +kernel
theorem dX1_beginWith_33 : decode cX1_beginWith 33 = .ok (.pop, 1) := by decide +kernel
theorem dX1_beginWith_34 : decode cX1_beginWith 34 = .ok (.iinc 3 1, 3) := by decide +kernel
theorem dX1_beginWith_37 : decode cX1_beginWith 37 = .ok (.goto (-17), 3) := by decide +kernel
theorem dX1_beginWith_40 : decode cX1_beginWith 40 = .ok (.return_, 1) := by decide +kernel
theorem dX1_addPart_0 : decode cX1_addPart 0 = .ok (.iload_n 1, 1) := by decide +kernel
theorem dX1_addPart_1 : decode cX1_addPart 1 = .ok (.iload_n 2, 1) := by decide +kernel
theorem dX1_addPart_2 : decode cX1_addPart 2 = .ok (.if_icmp .ne 8, 3) := by decide +kernel
theorem dX1_addPart_5 : decode cX1_addPart 5 = .ok (.iload_n 3, 1) := by decide +kernel
theorem dX1_addPart_6 : decode cX1_addPart 6 = .ok (.ifCond .ne 4, 3) := by decide +kernel
theorem dX1_addPart_9 : decode cX1_addPart 9 = .ok (.return_, 1) := by decide +kernel
theorem dX1_addPart_10 : decode cX1_addPart 10 = .ok (.aload_n 0, 1) := by decide +kernel
theorem dX1_addPart_11 : decode cX1_addPart 11 = .ok (.iload_n 1, 1) := by decide +kernel
theorem dX1_addPart_12 : decode cX1_addPart 12 = .ok (.iload_n 2, 1) := by decide +kernel
theorem dX1_addPart_13 : decode cX1_addPart 13 = .ok (.iconst 0, 1) := by decide +kernel
theorem dX1_addPart_14 : decode cX1_addPart 14 = .ok (.iload_n 3, 1) := by decide +kernel
theorem dX1_addPart_15 : decode cX1_addPart 15 = .ok (.invokevirtual 72, 3) := by decide +kernel
theorem dX1_addPart_18 : decode cX1_addPart 18 = .ok (.return_, 1) := by decide +kernel
theorem dX1_openPart_0 : decode cX1_openPart 0 = .ok (.aload_n 0, 1) := by decide +kernel
theorem dX1_openPart_1 : decode cX1_openPart 1 = .ok (.getfield 24, 3) := by decide +kernel
theorem dX1_openPart_4 : decode cX1_openPart 4 = .ok (.ifCond .eq 18, 3) := by decide +kernel
theorem dX1_openPart_7 : decode cX1_openPart 7 = .ok (.aload_n 0, 1) := by decide +kernel
theorem dX1_openPart_8 : decode cX1_openPart 8 = .ok (.getfield 9, 3) := by decide +kernel
theorem dX1_openPart_11 : decode cX1_openPart 11 = .ok (.aload_n 0, 1) := by decide +kernel
theorem dX1_openPart_12 : decode cX1_openPart 12 = .ok (.getfield 24, 3) := by decide +kernel
theorem dX1_openPart_15 : decode cX1_openPart 15 = .ok (.iconst 1, 1) := by decide +kernel
theorem dX1_openPart_16 : decode cX1_openPart 16 = .ok (.isub, 1) := by decide +kernel
theorem dX1_openPart_17 : decode cX1_openPart 17 = .ok (.iaload, 1) := by decide +kernel
theorem dX1_openPart_18 : decode cX1_openPart 18 = .ok (.iload_n 1, 1) := by decide +kernel
theorem dX1_openPart_19 : decode cX1_openPart 19 = .ok (.if_icmp .eq 17, 3) := by decide +kernel
theorem dX1_openPart_22 : decode cX1_openPart 22 = .ok (.aload_n 0, 1) := by decide +kernel
theorem dX1_openPart_23 : decode cX1_openPart 23 = .ok (.iload_n 1, 1) := by decide +kernel
theorem dX1_openPart_24 : decode cX1_openPart 24 = .ok (.iload_n 1, 1) := by decide +kernel
theorem dX1_openPart_25 : decode cX1_openPart 25 = .ok (.aload_n 0, 1) := by decide +kernel
theorem dX1_openPart_26 : decode cX1_openPart 26 = .ok (.getfield 33, 3) := by decide +kernel
theorem dX1_openPart_29 : decode cX1_openPart 29 = .ok (.getfield 65, 3) := by decide +kernel
theorem dX1_openPart_32 : decode cX1_openPart 32 = .ok (.iconst 0, 1) := by decide +kernel
theorem dX1_openPart_33 : decode cX1_openPart 33 = .ok (.invokevirtual 72, 3) := by decide +kernel
theorem dX1_openPart_36 : decode cX1_openPart 36 = .ok (.return_, 1) := by decide +kernel
theorem dX1_putLetter_0 : decode cX1_putLetter 0 = .ok (.aload_n 0, 1) := by decide +kernel
theorem dX1_putLetter_1 : decode cX1_putLetter 1 = .ok (.getfield 24, 3) := by decide +kernel
theorem dX1_putLetter_4 : decode cX1_putLetter 4 = .ok (.ifCond .eq 14, 3) := by decide +kernel
theorem dX1_putLetter_7 : decode cX1_putLetter 7 = .ok (.aload_n 0, 1) := by decide +kernel
theorem dX1_putLetter_8 : decode cX1_putLetter 8 = .ok (.getfield 33, 3) := by decide +kernel
theorem dX1_putLetter_11 : decode cX1_putLetter 11 = .ok (.iload_n 1, 1) := by decide +kernel
theorem dX1_putLetter_12 : decode cX1_putLetter 12 = .ok (.invokevirtual 68, 3) := by decide +kernel
theorem dX1_putLetter_15 : decode cX1_putLetter 15 = .ok (.ifCond .ne 9, 3) := by decide +kernel
theorem dX1_putLetter_18 : decode cX1_putLetter 18 = .ok (.aload_n 0, 1) := by decide +kernel
theorem dX1_putLetter_19 : decode cX1_putLetter 19 = .ok (.iconst 1, 1) := by decide +kernel
theorem dX1_putLetter_20 : decode cX1_putLetter 20 = .ok (.putfield 37, 3) := by decide +kernel
theorem dX1_putLetter_23 : decode cX1_putLetter 23 = .ok (.return_, 1) := by decide +kernel
theorem dX1_putLetter_24 : decode cX1_putLetter 24 = .ok (.aload_n 0, 1) := by decide +kernel
theorem dX1_putLetter_25 : decode cX1_putLetter 25 = .ok (.getfield 21, 3) := by decide +kernel
theorem dX1_putLetter_28 : decode cX1_putLetter 28 = .ok (.aload_n 0, 1) := by decide +kernel
theorem dX1_putLetter_29 : decode cX1_putLetter 29 = .ok (.getfield 24, 3) := by decide +kernel
theorem dX1_putLetter_32 : decode cX1_putLetter 32 = .ok (.iconst 1, 1) := by decide +kernel
theorem dX1_putLetter_33 : decode cX1_putLetter 33 = .ok (.isub, 1) := by decide +kernel
theorem dX1_putLetter_34 : decode cX1_putLetter 34 = .ok (.dup2, 1) := by decide +kernel
theorem dX1_putLetter_35 : decode cX1_putLetter 35 = .ok (.iaload, 1) := by decide +kernel
theorem dX1_putLetter_36 : decode cX1_putLetter 36 = .ok (.iconst 1, 1) := by decide +kernel
theorem dX1_putLetter_37 : decode cX1_putLetter 37 = .ok (.iadd, 1) := by decide +kernel
theorem dX1_putLetter_38 : decode cX1_putLetter 38 = .ok (.iastore, 1) := by decide +kernel
theorem dX1_putLetter_39 : decode cX1_putLetter 39 = .ok (.return_, 1) := by decide +kernel
theorem dX1_addRange_0 : decode cX1_addRange 0 = .ok (.aload_n 0, 1) := by decide +kernel
theorem dX1_addRange_1 : decode cX1_addRange 1 = .ok (.getfield 24, 3) := by decide +kernel
theorem dX1_addRange_4 : decode cX1_addRange 4 = .ok (.sipush 3000, 3) := by decide +kernel
theorem dX1_addRange_7 : decode cX1_addRange 7 = .ok (.if_icmp .lt 9, 3) := by decide +kernel
theorem dX1_addRange_10 : decode cX1_addRange 10 = .ok (.aload_n 0, 1) := by decide +kernel
theorem dX1_addRange_11 : decode cX1_addRange 11 = .ok (.iconst 1, 1) := by decide +kernel
theorem dX1_addRange_12 : decode cX1_addRange 12 = .ok (.putfield 37, 3) := by decide +kernel
theorem dX1_addRange_15 : decode cX1_addRange 15 = .ok (.return_, 1) := by decide +kernel
theorem dX1_addRange_16 : decode cX1_addRange 16 = .ok (.aload_n 0, 1) := by decide +kernel
theorem dX1_addRange_17 : decode cX1_addRange 17 = .ok (.getfield 9, 3) := by decide +kernel
theorem dX1_addRange_20 : decode cX1_addRange 20 = .ok (.aload_n 0, 1) := by decide +kernel
theorem dX1_addRange_21 : decode cX1_addRange 21 = .ok (.getfield 24, 3) := by decide +kernel
theorem dX1_addRange_24 : decode cX1_addRange 24 = .ok (.iload_n 1, 1) := by decide +kernel
theorem dX1_addRange_25 : decode cX1_addRange 25 = .ok (.iastore, 1) := by decide +kernel
theorem dX1_addRange_26 : decode cX1_addRange 26 = .ok (.aload_n 0, 1) := by decide +kernel
theorem dX1_addRange_27 : decode cX1_addRange 27 = .ok (.getfield 15, 3) := by decide +kernel
theorem dX1_addRange_30 : decode cX1_addRange 30 = .ok (.aload_n 0, 1) := by decide +kernel
theorem dX1_addRange_31 : decode cX1_addRange 31 = .ok (.getfield 24, 3) := by decide +kernel
theorem dX1_addRange_34 : decode cX1_addRange 34 = .ok (.iload_n 2, 1) := by decide +kernel
theorem dX1_addRange_35 : decode cX1_addRange 35 = .ok (.iastore, 1) := by decide +kernel
theorem dX1_addRange_36 : decode cX1_addRange 36 = .ok (.aload_n 0, 1) := by decide +kernel
theorem dX1_addRange_37 : decode cX1_addRange 37 = .ok (.getfield 18, 3) := by decide +kernel
theorem dX1_addRange_40 : decode cX1_addRange 40 = .ok (.aload_n 0, 1) := by decide +kernel
theorem dX1_addRange_41 : decode cX1_addRange 41 = .ok (.getfield 24, 3) := by decide +kernel
theorem dX1_addRange_44 : decode cX1_addRange 44 = .ok (.iload_n 3, 1) := by decide +kernel
theorem dX1_addRange_45 : decode cX1_addRange 45 = .ok (.iastore, 1) := by decide +kernel
theorem dX1_addRange_46 : decode cX1_addRange 46 = .ok (.aload_n 0, 1) := by decide +kernel
theorem dX1_addRange_47 : decode cX1_addRange 47 = .ok (.getfield 21, 3) := by decide +kernel
theorem dX1_addRange_50 : decode cX1_addRange 50 = .ok (.aload_n 0, 1) := by decide +kernel
theorem dX1_addRange_51 : decode cX1_addRange 51 = .ok (.getfield 24, 3) := by decide +kernel
theorem dX1_addRange_54 : decode cX1_addRange 54 = .ok (.iload 4, 2) := by decide +kernel
theorem dX1_addRange_56 : decode cX1_addRange 56 = .ok (.iastore, 1) := by decide +kernel
theorem dX1_addRange_57 : decode cX1_addRange 57 = .ok (.aload_n 0, 1) := by decide +kernel
theorem dX1_addRange_58 : decode cX1_addRange 58 = .ok (.dup, 1) := by decide +kernel
theorem dX1_addRange_59 : decode cX1_addRange 59 = .ok (.getfield 24, 3) := by decide +kernel
theorem dX1_addRange_62 : decode cX1_addRange 62 = .ok (.iconst 1, 1) := by decide +kernel
theorem dX1_addRange_63 : decode cX1_addRange 63 = .ok (.iadd, 1) := by decide +kernel
theorem dX1_addRange_64 : decode cX1_addRange 64 = .ok (.putfield 24, 3) := by decide +kernel
theorem dX1_addRange_67 : decode cX1_addRange 67 = .ok (.return_, 1) := by decide +kernel
theorem dX1_build_0 : decode cX1_build 0 = .ok (.aload_n 0, 1) := by decide +kernel
theorem dX1_build_1 : decode cX1_build 1 = .ok (.getfield 37, 3) := by decide +kernel
theorem dX1_build_4 : decode cX1_build 4 = .ok (.ifCond .ne 18, 3) := by decide +kernel
theorem dX1_build_7 : decode cX1_build 7 = .ok (.aload_n 1, 1) := by decide +kernel
theorem dX1_build_8 : decode cX1_build 8 = .ok (.getfield 76, 3) := by decide +kernel
theorem dX1_build_11 : decode cX1_build 11 = .ok (.aload_n 0, 1) := by decide +kernel
theorem dX1_build_12 : decode cX1_build 12 = .ok (.invokevirtual 79, 3) := by decide +kernel
theorem dX1_build_15 : decode cX1_build 15 = .ok (.iadd, 1) := by decide +kernel
theorem dX1_build_16 : decode cX1_build 16 = .ok (.sipush 3000, 3) := by decide +kernel
theorem dX1_build_19 : decode cX1_build 19 = .ok (.if_icmp .le 5, 3) := by decide +kernel
theorem dX1_build_22 : decode cX1_build 22 = .ok (.iconst 0, 1) := by decide +kernel
theorem dX1_build_23 : decode cX1_build 23 = .ok (.ireturn, 1) := by decide +kernel
theorem dX1_build_24 : decode cX1_build 24 = .ok (.aload_n 0, 1) := by decide +kernel
theorem dX1_build_25 : decode cX1_build 25 = .ok (.aload_n 1, 1) := by decide +kernel
theorem dX1_build_26 : decode cX1_build 26 = .ok (.invokevirtual 83, 3) := by decide +kernel
theorem dX1_build_29 : decode cX1_build 29 = .ok (.aload_n 0, 1) := by decide +kernel
theorem dX1_build_30 : decode cX1_build 30 = .ok (.iconst 0, 1) := by decide +kernel
theorem dX1_build_31 : decode cX1_build 31 = .ok (.putfield 45, 3) := by decide +kernel
theorem dX1_build_34 : decode cX1_build 34 = .ok (.aload_n 0, 1) := by decide +kernel
theorem dX1_build_35 : decode cX1_build 35 = .ok (.iconst 0, 1) := by decide +kernel
theorem dX1_build_36 : decode cX1_build 36 = .ok (.putfield 55, 3) := by decide +kernel
theorem dX1_build_39 : decode cX1_build 39 = .ok (.aload_n 0, 1) := by decide +kernel
theorem dX1_build_40 : decode cX1_build 40 = .ok (.iconst 0, 1) := by decide +kernel
theorem dX1_build_41 : decode cX1_build 41 = .ok (.iconst 0, 1) := by decide +kernel
theorem dX1_build_42 : decode cX1_build 42 = .ok (.invokevirtual 87, 3) := by decide +kernel
theorem dX1_build_45 : decode cX1_build 45 = .ok (.iconst 0, 1) := by decide +kernel
theorem dX1_build_46 : decode cX1_build 46 = .ok (.istore_n 2, 1) := by decide +kernel
theorem dX1_build_47 : decode cX1_build 47 = .ok (.iconst 0, 1) := by decide +kernel
theorem dX1_build_48 : decode cX1_build 48 = .ok (.istore_n 3, 1) := by decide +kernel
theorem dX1_build_49 : decode cX1_build 49 = .ok (.iload_n 3, 1) := by decide +kernel
theorem dX1_build_50 : decode cX1_build 50 = .ok (.aload_n 0, 1) := by decide +kernel
theorem dX1_build_51 : decode cX1_build 51 = .ok (.getfield 24, 3) := by decide +kernel
theorem dX1_build_54 : decode cX1_build 54 = .ok (.if_icmp .ge 33, 3) := by decide +kernel
theorem dX1_build_57 : decode cX1_build 57 = .ok (.aload_n 0, 1) := by decide +kernel
theorem dX1_build_58 : decode cX1_build 58 = .ok (.aload_n 1, 1) := by decide +kernel
theorem dX1_build_59 : decode cX1_build 59 = .ok (.iload_n 2, 1) := by decide +kernel
theorem dX1_build_60 : decode cX1_build 60 = .ok (.aload_n 0, 1) := by decide +kernel
theorem dX1_build_61 : decode cX1_build 61 = .ok (.getfield 9, 3) := by decide +kernel
theorem dX1_build_64 : decode cX1_build 64 = .ok (.iload_n 3, 1) := by decide +kernel
theorem dX1_build_65 : decode cX1_build 65 = .ok (.iaload, 1) := by decide +kernel
theorem dX1_build_66 : decode cX1_build 66 = .ok (.invokevirtual 91, 3) := by decide +kernel
theorem dX1_build_69 : decode cX1_build 69 = .ok (.aload_n 0, 1) := by decide +kernel
theorem dX1_build_70 : decode cX1_build 70 = .ok (.iload_n 3, 1) := by decide +kernel
theorem dX1_build_71 : decode cX1_build 71 = .ok (.invokevirtual 95, 3) := by decide +kernel
theorem dX1_build_74 : decode cX1_build 74 = .ok (.aload_n 0, 1) := by decide +kernel
theorem dX1_build_75 : decode cX1_build 75 = .ok (.getfield 15, 3) := by decide +kernel
theorem dX1_build_78 : decode cX1_build 78 = .ok (.iload_n 3, 1) := by decide +kernel
theorem dX1_build_79 : decode cX1_build 79 = .ok (.iaload, 1) := by decide +kernel
theorem dX1_build_80 : decode cX1_build 80 = .ok (.istore_n 2, 1) := by decide +kernel
theorem dX1_build_81 : decode cX1_build 81 = .ok (.iinc 3 1, 3) := by decide +kernel
theorem dX1_build_84 : decode cX1_build 84 = .ok (.goto (-35), 3) := by decide +kernel
theorem dX1_build_87 : decode cX1_build 87 = .ok (.aload_n 0, 1) := by decide +kernel
theorem dX1_build_88 : decode cX1_build 88 = .ok (.aload_n 1, 1) := by decide +kernel
theorem dX1_build_89 : decode cX1_build 89 = .ok (.iload_n 2, 1) := by decide +kernel
theorem dX1_build_90 : decode cX1_build 90 = .ok (.aload_n 1, 1) := by decide +kernel
theorem dX1_build_91 : decode cX1_build 91 = .ok (.getfield 76, 3) := by decide +kernel
theorem dX1_build_94 : decode cX1_build 94 = .ok (.invokevirtual 91, 3) := by decide +kernel
theorem dX1_build_97 : decode cX1_build 97 = .ok (.aload_n 0, 1) := by decide +kernel
theorem dX1_build_98 : decode cX1_build 98 = .ok (.getfield 55, 3) := by decide +kernel
theorem dX1_build_101 : decode cX1_build 101 = .ok (.sipush 300, 3) := by decide +kernel
theorem dX1_build_104 : decode cX1_build 104 = .ok (.if_icmp .gt 7, 3) := by decide +kernel
theorem dX1_build_107 : decode cX1_build 107 = .ok (.iconst 1, 1) := by decide +kernel
theorem dX1_build_108 : decode cX1_build 108 = .ok (.goto 4, 3) := by decide +kernel
theorem dX1_build_111 : decode cX1_build 111 = .ok (.iconst 0, 1) := by decide +kernel
theorem dX1_build_112 : decode cX1_build 112 = .ok (.ireturn, 1) := by decide +kernel
theorem dX1_growth_0 : decode cX1_growth 0 = .ok (.iconst 0, 1) := by decide +kernel
theorem dX1_growth_1 : decode cX1_growth 1 = .ok (.istore_n 1, 1) := by decide +kernel
theorem dX1_growth_2 : decode cX1_growth 2 = .ok (.iconst 0, 1) := by decide +kernel
theorem dX1_growth_3 : decode cX1_growth 3 = .ok (.istore_n 2, 1) := by decide +kernel
theorem dX1_growth_4 : decode cX1_growth 4 = .ok (.iload_n 2, 1) := by decide +kernel
theorem dX1_growth_5 : decode cX1_growth 5 = .ok (.aload_n 0, 1) := by decide +kernel
theorem dX1_growth_6 : decode cX1_growth 6 = .ok (.getfield 24, 3) := by decide +kernel
theorem dX1_growth_9 : decode cX1_growth 9 = .ok (.if_icmp .ge 32, 3) := by decide +kernel
theorem dX1_growth_12 : decode cX1_growth 12 = .ok (.iload_n 1, 1) := by decide +kernel
theorem dX1_growth_13 : decode cX1_growth 13 = .ok (.aload_n 0, 1) := by decide +kernel
theorem dX1_growth_14 : decode cX1_growth 14 = .ok (.getfield 21, 3) := by decide +kernel
theorem dX1_growth_17 : decode cX1_growth 17 = .ok (.iload_n 2, 1) := by decide +kernel
theorem dX1_growth_18 : decode cX1_growth 18 = .ok (.iaload, 1) := by decide +kernel
theorem dX1_growth_19 : decode cX1_growth 19 = .ok (.aload_n 0, 1) := by decide +kernel
theorem dX1_growth_20 : decode cX1_growth 20 = .ok (.getfield 15, 3) := by decide +kernel
theorem dX1_growth_23 : decode cX1_growth 23 = .ok (.iload_n 2, 1) := by decide +kernel
theorem dX1_growth_24 : decode cX1_growth 24 = .ok (.iaload, 1) := by decide +kernel
theorem dX1_growth_25 : decode cX1_growth 25 = .ok (.aload_n 0, 1) := by decide +kernel
theorem dX1_growth_26 : decode cX1_growth 26 = .ok (.getfield 9, 3) := by decide +kernel
theorem dX1_growth_29 : decode cX1_growth 29 = .ok (.iload_n 2, 1) := by decide +kernel
theorem dX1_growth_30 : decode cX1_growth 30 = .ok (.iaload, 1) := by decide +kernel
theorem dX1_growth_31 : decode cX1_growth 31 = .ok (.isub, 1) := by decide +kernel
theorem dX1_growth_32 : decode cX1_growth 32 = .ok (.isub, 1) := by decide +kernel
theorem dX1_growth_33 : decode cX1_growth 33 = .ok (.iadd, 1) := by decide +kernel
theorem dX1_growth_34 : decode cX1_growth 34 = .ok (.istore_n 1, 1) := by decide +kernel
theorem dX1_growth_35 : decode cX1_growth 35 = .ok (.iinc 2 1, 3) := by decide +kernel
theorem dX1_growth_38 : decode cX1_growth 38 = .ok (.goto (-34), 3) := by decide +kernel
theorem dX1_growth_41 : decode cX1_growth 41 = .ok (.iload_n 1, 1) := by decide +kernel
theorem dX1_growth_42 : decode cX1_growth 42 = .ok (.ireturn, 1) := by decide +kernel
theorem dX1_findStillHidden_0 : decode cX1_findStillHidden 0 = .ok (.aload_n 1, 1) := by decide +kernel
theorem dX1_findStillHidden_1 : decode cX1_findStillHidden 1 = .ok (.getfield 99, 3) := by decide +kernel
theorem dX1_findStillHidden_4 : decode cX1_findStillHidden 4 = .ok (.iconst 0, 1) := by decide +kernel
theorem dX1_findStillHidden_5 : decode cX1_findStillHidden 5 = .ok (.aload_n 0, 1) := by decide +kernel
theorem dX1_findStillHidden_6 : decode cX1_findStillHidden 6 = .ok (.getfield 58, 3) := by decide +kernel
theorem dX1_findStillHidden_9 : decode cX1_findStillHidden 9 = .ok (.iconst 0, 1) := by decide +kernel
theorem dX1_findStillHidden_10 : decode cX1_findStillHidden 10 = .ok (.aload_n 1, 1) := by decide +kernel
theorem dX1_findStillHidden_11 : decode cX1_findStillHidden 11 = .ok (.getfield 102, 3) := by decide +kernel
theorem dX1_findStillHidden_14 : decode cX1_findStillHidden 14 = .ok (.invokestatic 105, 3) := by decide +kernel
theorem dX1_findStillHidden_17 : decode cX1_findStillHidden 17 = .ok (.iconst 0, 1) := by decide +kernel
theorem dX1_findStillHidden_18 : decode cX1_findStillHidden 18 = .ok (.istore_n 2, 1) := by decide +kernel
theorem dX1_findStillHidden_19 : decode cX1_findStillHidden 19 = .ok (.iload_n 2, 1) := by decide +kernel
theorem dX1_findStillHidden_20 : decode cX1_findStillHidden 20 = .ok (.aload_n 0, 1) := by decide +kernel
theorem dX1_findStillHidden_21 : decode cX1_findStillHidden 21 = .ok (.getfield 24, 3) := by decide +kernel
theorem dX1_findStillHidden_24 : decode cX1_findStillHidden 24 = .ok (.if_icmp .ge 58, 3) := by decide +kernel
theorem dX1_findStillHidden_27 : decode cX1_findStillHidden 27 = .ok (.aload_n 1, 1) := by decide +kernel
theorem dX1_findStillHidden_28 : decode cX1_findStillHidden 28 = .ok (.aload_n 0, 1) := by decide +kernel
theorem dX1_findStillHidden_29 : decode cX1_findStillHidden 29 = .ok (.getfield 15, 3) := by decide +kernel
theorem dX1_findStillHidden_32 : decode cX1_findStillHidden 32 = .ok (.iload_n 2, 1) := by decide +kernel
theorem dX1_findStillHidden_33 : decode cX1_findStillHidden 33 = .ok (.iaload, 1) := by decide +kernel
theorem dX1_findStillHidden_34 : decode cX1_findStillHidden 34 = .ok (.invokevirtual 111, 3) := by decide +kernel
theorem dX1_findStillHidden_37 : decode cX1_findStillHidden 37 = .ok (.istore_n 3, 1) := by decide +kernel
theorem dX1_findStillHidden_38 : decode cX1_findStillHidden 38 = .ok (.aload_n 1, 1) := by decide +kernel
theorem dX1_findStillHidden_39 : decode cX1_findStillHidden 39 = .ok (.aload_n 0, 1) := by decide +kernel
theorem dX1_findStillHidden_40 : decode cX1_findStillHidden 40 = .ok (.getfield 9, 3) := by decide +kernel
theorem dX1_findStillHidden_43 : decode cX1_findStillHidden 43 = .ok (.iload_n 2, 1) := by decide +kernel
theorem dX1_findStillHidden_44 : decode cX1_findStillHidden 44 = .ok (.iaload, 1) := by decide +kernel
theorem dX1_findStillHidden_45 : decode cX1_findStillHidden 45 = .ok (.invokevirtual 111, 3) := by decide +kernel
theorem dX1_findStillHidden_48 : decode cX1_findStillHidden 48 = .ok (.istore 4, 2) := by decide +kernel
theorem dX1_findStillHidden_50 : decode cX1_findStillHidden 50 = .ok (.iload 4, 2) := by decide +kernel
theorem dX1_findStillHidden_52 : decode cX1_findStillHidden 52 = .ok (.iload_n 3, 1) := by decide +kernel
theorem dX1_findStillHidden_53 : decode cX1_findStillHidden 53 = .ok (.if_icmp .gt 23, 3) := by decide +kernel
theorem dX1_findStillHidden_56 : decode cX1_findStillHidden 56 = .ok (.aload_n 0, 1) := by decide +kernel
theorem dX1_findStillHidden_57 : decode cX1_findStillHidden 57 = .ok (.getfield 58, 3) := by decide +kernel
theorem dX1_findStillHidden_60 : decode cX1_findStillHidden 60 = .ok (.aload_n 1, 1) := by decide +kernel
theorem dX1_findStillHidden_61 : decode cX1_findStillHidden 61 = .ok (.getfield 102, 3) := by decide +kernel
theorem dX1_findStillHidden_64 : decode cX1_findStillHidden 64 = .ok (.iload 4, 2) := by decide +kernel
theorem dX1_findStillHidden_66 : decode cX1_findStillHidden 66 = .ok (.invokestatic 115, 3) := by decide +kernel
theorem dX1_findStillHidden_69 : decode cX1_findStillHidden 69 = .ok (.pop, 1) := by decide +kernel
theorem dX1_findStillHidden_70 : decode cX1_findStillHidden 70 = .ok (.iinc 4 1, 3) := by decide +kernel
theorem dX1_findStillHidden_73 : decode cX1_findStillHidden 73 = .ok (.goto (-23), 3) := by decide +kernel
theorem dX1_findStillHidden_76 : decode cX1_findStillHidden 76 = .ok (.iinc 2 1, 3) := by decide +kernel
theorem dX1_findStillHidden_79 : decode cX1_findStillHidden 79 = .ok (.goto (-60), 3) := by decide +kernel
theorem dX1_findStillHidden_82 : decode cX1_findStillHidden 82 = .ok (.return_, 1) := by decide +kernel
theorem dX1_takeOver_0 : decode cX1_takeOver 0 = .ok (.aload_n 1, 1) := by decide +kernel
theorem dX1_takeOver_1 : decode cX1_takeOver 1 = .ok (.getfield 119, 3) := by decide +kernel
theorem dX1_takeOver_4 : decode cX1_takeOver 4 = .ok (.iload_n 2, 1) := by decide +kernel
theorem dX1_takeOver_5 : decode cX1_takeOver 5 = .ok (.aload_n 0, 1) := by decide +kernel
theorem dX1_takeOver_6 : decode cX1_takeOver 6 = .ok (.getfield 41, 3) := by decide +kernel
theorem dX1_takeOver_9 : decode cX1_takeOver 9 = .ok (.aload_n 0, 1) := by decide +kernel
theorem dX1_takeOver_10 : decode cX1_takeOver 10 = .ok (.getfield 45, 3) := by decide +kernel
theorem dX1_takeOver_13 : decode cX1_takeOver 13 = .ok (.iload_n 3, 1) := by decide +kernel
theorem dX1_takeOver_14 : decode cX1_takeOver 14 = .ok (.iload_n 2, 1) := by decide +kernel
theorem dX1_takeOver_15 : decode cX1_takeOver 15 = .ok (.isub, 1) := by decide +kernel
theorem dX1_takeOver_16 : decode cX1_takeOver 16 = .ok (.invokestatic 105, 3) := by decide +kernel
theorem dX1_takeOver_19 : decode cX1_takeOver 19 = .ok (.aload_n 1, 1) := by decide +kernel
theorem dX1_takeOver_20 : decode cX1_takeOver 20 = .ok (.iload_n 2, 1) := by decide +kernel
theorem dX1_takeOver_21 : decode cX1_takeOver 21 = .ok (.invokevirtual 111, 3) := by decide +kernel
theorem dX1_takeOver_24 : decode cX1_takeOver 24 = .ok (.iconst 1, 1) := by decide +kernel
theorem dX1_takeOver_25 : decode cX1_takeOver 25 = .ok (.iadd, 1) := by decide +kernel
theorem dX1_takeOver_26 : decode cX1_takeOver 26 = .ok (.istore 4, 2) := by decide +kernel
theorem dX1_takeOver_28 : decode cX1_takeOver 28 = .ok (.iload 4, 2) := by decide +kernel
theorem dX1_takeOver_30 : decode cX1_takeOver 30 = .ok (.aload_n 1, 1) := by decide +kernel
theorem dX1_takeOver_31 : decode cX1_takeOver 31 = .ok (.getfield 102, 3) := by decide +kernel
theorem dX1_takeOver_34 : decode cX1_takeOver 34 = .ok (.if_icmp .ge 48, 3) := by decide +kernel
theorem dX1_takeOver_37 : decode cX1_takeOver 37 = .ok (.aload_n 1, 1) := by decide +kernel
theorem dX1_takeOver_38 : decode cX1_takeOver 38 = .ok (.getfield 122, 3) := by decide +kernel
theorem dX1_takeOver_41 : decode cX1_takeOver 41 = .ok (.iload 4, 2) := by decide +kernel
theorem dX1_takeOver_43 : decode cX1_takeOver 43 = .ok (.iaload, 1) := by decide +kernel
theorem dX1_takeOver_44 : decode cX1_takeOver 44 = .ok (.iload_n 3, 1) := by decide +kernel
theorem dX1_takeOver_45 : decode cX1_takeOver 45 = .ok (.if_icmp .le 6, 3) := by decide +kernel
theorem dX1_takeOver_48 : decode cX1_takeOver 48 = .ok (.goto 34, 3) := by decide +kernel
theorem dX1_takeOver_51 : decode cX1_takeOver 51 = .ok (.aload_n 0, 1) := by decide +kernel
theorem dX1_takeOver_52 : decode cX1_takeOver 52 = .ok (.aload_n 0, 1) := by decide +kernel
theorem dX1_takeOver_53 : decode cX1_takeOver 53 = .ok (.getfield 45, 3) := by decide +kernel
theorem dX1_takeOver_56 : decode cX1_takeOver 56 = .ok (.aload_n 1, 1) := by decide +kernel
theorem dX1_takeOver_57 : decode cX1_takeOver 57 = .ok (.getfield 122, 3) := by decide +kernel
theorem dX1_takeOver_60 : decode cX1_takeOver 60 = .ok (.iload 4, 2) := by decide +kernel
theorem dX1_takeOver_62 : decode cX1_takeOver 62 = .ok (.iaload, 1) := by decide +kernel
theorem dX1_takeOver_63 : decode cX1_takeOver 63 = .ok (.iadd, 1) := by decide +kernel
theorem dX1_takeOver_64 : decode cX1_takeOver 64 = .ok (.iload_n 2, 1) := by decide +kernel
theorem dX1_takeOver_65 : decode cX1_takeOver 65 = .ok (.isub, 1) := by decide +kernel
theorem dX1_takeOver_66 : decode cX1_takeOver 66 = .ok (.aload_n 0, 1) := by decide +kernel
theorem dX1_takeOver_67 : decode cX1_takeOver 67 = .ok (.getfield 58, 3) := by decide +kernel
theorem dX1_takeOver_70 : decode cX1_takeOver 70 = .ok (.iload 4, 2) := by decide +kernel
theorem dX1_takeOver_72 : decode cX1_takeOver 72 = .ok (.baload, 1) := by decide +kernel
theorem dX1_takeOver_73 : decode cX1_takeOver 73 = .ok (.invokevirtual 87, 3) := by decide +kernel
theorem dX1_takeOver_76 : decode cX1_takeOver 76 = .ok (.iinc 4 1, 3) := by decide +kernel
theorem dX1_takeOver_79 : decode cX1_takeOver 79 = .ok (.goto (-51), 3) := by decide +kernel
theorem dX1_takeOver_82 : decode cX1_takeOver 82 = .ok (.aload_n 0, 1) := by decide +kernel
theorem dX1_takeOver_83 : decode cX1_takeOver 83 = .ok (.dup, 1) := by decide +kernel
theorem dX1_takeOver_84 : decode cX1_takeOver 84 = .ok (.getfield 45, 3) := by decide +kernel
theorem dX1_takeOver_87 : decode cX1_takeOver 87 = .ok (.iload_n 3, 1) := by decide +kernel
theorem dX1_takeOver_88 : decode cX1_takeOver 88 = .ok (.iload_n 2, 1) := by decide +kernel
theorem dX1_takeOver_89 : decode cX1_takeOver 89 = .ok (.isub, 1) := by decide +kernel
theorem dX1_takeOver_90 : decode cX1_takeOver 90 = .ok (.iadd, 1) := by decide +kernel
theorem dX1_takeOver_91 : decode cX1_takeOver 91 = .ok (.putfield 45, 3) := by decide +kernel
theorem dX1_takeOver_94 : decode cX1_takeOver 94 = .ok (.return_, 1) := by decide +kernel
theorem dX1_putPart_0 : decode cX1_putPart 0 = .ok (.aload_n 0, 1) := by decide +kernel
theorem dX1_putPart_1 : decode cX1_putPart 1 = .ok (.getfield 18, 3) := by decide +kernel
theorem dX1_putPart_4 : decode cX1_putPart 4 = .ok (.iload_n 1, 1) := by decide +kernel
theorem dX1_putPart_5 : decode cX1_putPart 5 = .ok (.iaload, 1) := by decide +kernel
theorem dX1_putPart_6 : decode cX1_putPart 6 = .ok (.istore_n 2, 1) := by decide +kernel
theorem dX1_putPart_7 : decode cX1_putPart 7 = .ok (.iload_n 2, 1) := by decide +kernel
theorem dX1_putPart_8 : decode cX1_putPart 8 = .ok (.istore_n 3, 1) := by decide +kernel
theorem dX1_putPart_9 : decode cX1_putPart 9 = .ok (.iload_n 3, 1) := by decide +kernel
theorem dX1_putPart_10 : decode cX1_putPart 10 = .ok (.iload_n 2, 1) := by decide +kernel
theorem dX1_putPart_11 : decode cX1_putPart 11 = .ok (.aload_n 0, 1) := by decide +kernel
theorem dX1_putPart_12 : decode cX1_putPart 12 = .ok (.getfield 21, 3) := by decide +kernel
theorem dX1_putPart_15 : decode cX1_putPart 15 = .ok (.iload_n 1, 1) := by decide +kernel
theorem dX1_putPart_16 : decode cX1_putPart 16 = .ok (.iaload, 1) := by decide +kernel
theorem dX1_putPart_17 : decode cX1_putPart 17 = .ok (.iadd, 1) := by decide +kernel
theorem dX1_putPart_18 : decode cX1_putPart 18 = .ok (.if_icmp .ge 60, 3) := by decide +kernel
theorem dX1_putPart_21 : decode cX1_putPart 21 = .ok (.aload_n 0, 1) := by decide +kernel
theorem dX1_putPart_22 : decode cX1_putPart 22 = .ok (.getfield 41, 3) := by decide +kernel
theorem dX1_putPart_25 : decode cX1_putPart 25 = .ok (.aload_n 0, 1) := by decide +kernel
theorem dX1_putPart_26 : decode cX1_putPart 26 = .ok (.getfield 45, 3) := by decide +kernel
theorem dX1_putPart_29 : decode cX1_putPart 29 = .ok (.aload_n 0, 1) := by decide +kernel
theorem dX1_putPart_30 : decode cX1_putPart 30 = .ok (.getfield 33, 3) := by decide +kernel
theorem dX1_putPart_33 : decode cX1_putPart 33 = .ok (.getfield 125, 3) := by decide +kernel
theorem dX1_putPart_36 : decode cX1_putPart 36 = .ok (.iload_n 3, 1) := by decide +kernel
theorem dX1_putPart_37 : decode cX1_putPart 37 = .ok (.baload, 1) := by decide +kernel
theorem dX1_putPart_38 : decode cX1_putPart 38 = .ok (.bastore, 1) := by decide +kernel
theorem dX1_putPart_39 : decode cX1_putPart 39 = .ok (.aload_n 0, 1) := by decide +kernel
theorem dX1_putPart_40 : decode cX1_putPart 40 = .ok (.dup, 1) := by decide +kernel
theorem dX1_putPart_41 : decode cX1_putPart 41 = .ok (.getfield 45, 3) := by decide +kernel
theorem dX1_putPart_44 : decode cX1_putPart 44 = .ok (.iconst 1, 1) := by decide +kernel
theorem dX1_putPart_45 : decode cX1_putPart 45 = .ok (.iadd, 1) := by decide +kernel
theorem dX1_putPart_46 : decode cX1_putPart 46 = .ok (.putfield 45, 3) := by decide +kernel
theorem dX1_putPart_49 : decode cX1_putPart 49 = .ok (.aload_n 0, 1) := by decide +kernel
theorem dX1_putPart_50 : decode cX1_putPart 50 = .ok (.getfield 33, 3) := by decide +kernel
theorem dX1_putPart_53 : decode cX1_putPart 53 = .ok (.getfield 125, 3) := by decide +kernel
theorem dX1_putPart_56 : decode cX1_putPart 56 = .ok (.iload_n 3, 1) := by decide +kernel
theorem dX1_putPart_57 : decode cX1_putPart 57 = .ok (.baload, 1) := by decide +kernel
theorem dX1_putPart_58 : decode cX1_putPart 58 = .ok (.bipush 10, 2) := by decide +kernel
theorem dX1_putPart_60 : decode cX1_putPart 60 = .ok (.if_icmp .ne 12, 3) := by decide +kernel
theorem dX1_putPart_63 : decode cX1_putPart 63 = .ok (.aload_n 0, 1) := by decide +kernel
theorem dX1_putPart_64 : decode cX1_putPart 64 = .ok (.aload_n 0, 1) := by decide +kernel
theorem dX1_putPart_65 : decode cX1_putPart 65 = .ok (.getfield 45, 3) := by decide +kernel
theorem dX1_putPart_68 : decode cX1_putPart 68 = .ok (.iconst 0, 1) := by decide +kernel
theorem dX1_putPart_69 : decode cX1_putPart 69 = .ok (.invokevirtual 87, 3) := by decide +kernel
theorem dX1_putPart_72 : decode cX1_putPart 72 = .ok (.iinc 3 1, 3) := by decide +kernel
theorem dX1_putPart_75 : decode cX1_putPart 75 = .ok (.goto (-66), 3) := by decide +kernel
theorem dX1_putPart_78 : decode cX1_putPart 78 = .ok (.return_, 1) := by decide +kernel
theorem dX1_addLine_0 : decode cX1_addLine 0 = .ok (.aload_n 0, 1) := by decide +kernel
theorem dX1_addLine_1 : decode cX1_addLine 1 = .ok (.getfield 55, 3) := by decide +kernel
theorem dX1_addLine_4 : decode cX1_addLine 4 = .ok (.sipush 300, 3) := by decide +kernel
theorem dX1_addLine_7 : decode cX1_addLine 7 = .ok (.if_icmp .ge 23, 3) := by decide +kernel
theorem dX1_addLine_10 : decode cX1_addLine 10 = .ok (.aload_n 0, 1) := by decide +kernel
theorem dX1_addLine_11 : decode cX1_addLine 11 = .ok (.getfield 48, 3) := by decide +kernel
theorem dX1_addLine_14 : decode cX1_addLine 14 = .ok (.aload_n 0, 1) := by decide +kernel
theorem dX1_addLine_15 : decode cX1_addLine 15 = .ok (.getfield 55, 3) := by decide +kernel
theorem dX1_addLine_18 : decode cX1_addLine 18 = .ok (.iload_n 1, 1) := by decide +kernel
theorem dX1_addLine_19 : decode cX1_addLine 19 = .ok (.iastore, 1) := by decide +kernel
theorem dX1_addLine_20 : decode cX1_addLine 20 = .ok (.aload_n 0, 1) := by decide +kernel
theorem dX1_addLine_21 : decode cX1_addLine 21 = .ok (.getfield 51, 3) := by decide +kernel
theorem dX1_addLine_24 : decode cX1_addLine 24 = .ok (.aload_n 0, 1) := by decide +kernel
theorem dX1_addLine_25 : decode cX1_addLine 25 = .ok (.getfield 55, 3) := by decide +kernel
theorem dX1_addLine_28 : decode cX1_addLine 28 = .ok (.iload_n 2, 1) := by decide +kernel
theorem dX1_addLine_29 : decode cX1_addLine 29 = .ok (.bastore, 1) := by decide +kernel
theorem dX1_addLine_30 : decode cX1_addLine 30 = .ok (.aload_n 0, 1) := by decide +kernel
theorem dX1_addLine_31 : decode cX1_addLine 31 = .ok (.dup, 1) := by decide +kernel
theorem dX1_addLine_32 : decode cX1_addLine 32 = .ok (.getfield 55, 3) := by decide +kernel
theorem dX1_addLine_35 : decode cX1_addLine 35 = .ok (.iconst 1, 1) := by decide +kernel
theorem dX1_addLine_36 : decode cX1_addLine 36 = .ok (.iadd, 1) := by decide +kernel
theorem dX1_addLine_37 : decode cX1_addLine 37 = .ok (.putfield 55, 3) := by decide +kernel
theorem dX1_addLine_40 : decode cX1_addLine 40 = .ok (.return_, 1) := by decide +kernel
theorem dX1_moveInto_0 : decode cX1_moveInto 0 = .ok (.aload_n 1, 1) := by decide +kernel
theorem dX1_moveInto_1 : decode cX1_moveInto 1 = .ok (.getfield 119, 3) := by decide +kernel
theorem dX1_moveInto_4 : decode cX1_moveInto 4 = .ok (.astore_n 2, 1) := by decide +kernel
theorem dX1_moveInto_5 : decode cX1_moveInto 5 = .ok (.aload_n 1, 1) := by decide +kernel
theorem dX1_moveInto_6 : decode cX1_moveInto 6 = .ok (.getfield 122, 3) := by decide +kernel
theorem dX1_moveInto_9 : decode cX1_moveInto 9 = .ok (.astore_n 3, 1) := by decide +kernel
theorem dX1_moveInto_10 : decode cX1_moveInto 10 = .ok (.aload_n 1, 1) := by decide +kernel
theorem dX1_moveInto_11 : decode cX1_moveInto 11 = .ok (.getfield 99, 3) := by decide +kernel
theorem dX1_moveInto_14 : decode cX1_moveInto 14 = .ok (.astore 4, 2) := by decide +kernel
theorem dX1_moveInto_16 : decode cX1_moveInto 16 = .ok (.aload_n 1, 1) := by decide +kernel
theorem dX1_moveInto_17 : decode cX1_moveInto 17 = .ok (.aload_n 0, 1) := by decide +kernel
theorem dX1_moveInto_18 : decode cX1_moveInto 18 = .ok (.getfield 41, 3) := by decide +kernel
theorem dX1_moveInto_21 : decode cX1_moveInto 21 = .ok (.putfield 119, 3) := by decide +kernel
theorem dX1_moveInto_24 : decode cX1_moveInto 24 = .ok (.aload_n 1, 1) := by decide +kernel
theorem dX1_moveInto_25 : decode cX1_moveInto 25 = .ok (.aload_n 0, 1) := by decide +kernel
theorem dX1_moveInto_26 : decode cX1_moveInto 26 = .ok (.getfield 48, 3) := by decide +kernel
theorem dX1_moveInto_29 : decode cX1_moveInto 29 = .ok (.putfield 122, 3) := by decide +kernel
theorem dX1_moveInto_32 : decode cX1_moveInto 32 = .ok (.aload_n 1, 1) := by decide +kernel
theorem dX1_moveInto_33 : decode cX1_moveInto 33 = .ok (.aload_n 0, 1) := by decide +kernel
theorem dX1_moveInto_34 : decode cX1_moveInto 34 = .ok (.getfield 51, 3) := by decide +kernel
theorem dX1_moveInto_37 : decode cX1_moveInto 37 = .ok (.putfield 99, 3) := by decide +kernel
theorem dX1_moveInto_40 : decode cX1_moveInto 40 = .ok (.aload_n 1, 1) := by decide +kernel
theorem dX1_moveInto_41 : decode cX1_moveInto 41 = .ok (.aload_n 0, 1) := by decide +kernel
theorem dX1_moveInto_42 : decode cX1_moveInto 42 = .ok (.getfield 45, 3) := by decide +kernel
theorem dX1_moveInto_45 : decode cX1_moveInto 45 = .ok (.putfield 76, 3) := by decide +kernel
theorem dX1_moveInto_48 : decode cX1_moveInto 48 = .ok (.aload_n 1, 1) := by decide +kernel
theorem dX1_moveInto_49 : decode cX1_moveInto 49 = .ok (.aload_n 0, 1) := by decide +kernel
theorem dX1_moveInto_50 : decode cX1_moveInto 50 = .ok (.getfield 55, 3) := by decide +kernel
theorem dX1_moveInto_53 : decode cX1_moveInto 53 = .ok (.putfield 102, 3) := by decide +kernel
theorem dX1_moveInto_56 : decode cX1_moveInto 56 = .ok (.aload_n 0, 1) := by decide +kernel
theorem dX1_moveInto_57 : decode cX1_moveInto 57 = .ok (.aload_n 2, 1) := by decide +kernel
theorem dX1_moveInto_58 : decode cX1_moveInto 58 = .ok (.putfield 41, 3) := by decide +kernel
theorem dX1_moveInto_61 : decode cX1_moveInto 61 = .ok (.aload_n 0, 1) := by decide +kernel
theorem dX1_moveInto_62 : decode cX1_moveInto 62 = .ok (.aload_n 3, 1) := by decide +kernel
theorem dX1_moveInto_63 : decode cX1_moveInto 63 = .ok (.putfield 48, 3) := by decide +kernel
theorem dX1_moveInto_66 : decode cX1_moveInto 66 = .ok (.aload_n 0, 1) := by decide +kernel
theorem dX1_moveInto_67 : decode cX1_moveInto 67 = .ok (.aload 4, 2) := by decide +kernel
theorem dX1_moveInto_69 : decode cX1_moveInto 69 = .ok (.putfield 51, 3) := by decide +kernel
theorem dX1_moveInto_72 : decode cX1_moveInto 72 = .ok (.iconst 0, 1) := by decide +kernel
theorem dX1_moveInto_73 : decode cX1_moveInto 73 = .ok (.istore 5, 2) := by decide +kernel
theorem dX1_moveInto_75 : decode cX1_moveInto 75 = .ok (.iload 5, 2) := by decide +kernel
theorem dX1_moveInto_77 : decode cX1_moveInto 77 = .ok (.aload_n 1, 1) := by decide +kernel
theorem dX1_moveInto_78 : decode cX1_moveInto 78 = .ok (.getfield 126, 3) := by decide +kernel
theorem dX1_moveInto_81 : decode cX1_moveInto 81 = .ok (.if_icmp .ge 28, 3) := by decide +kernel
theorem dX1_moveInto_84 : decode cX1_moveInto 84 = .ok (.aload_n 1, 1) := by decide +kernel
theorem dX1_moveInto_85 : decode cX1_moveInto 85 = .ok (.getfield 129, 3) := by decide +kernel
theorem dX1_moveInto_88 : decode cX1_moveInto 88 = .ok (.iload 5, 2) := by decide +kernel
theorem dX1_moveInto_90 : decode cX1_moveInto 90 = .ok (.aload_n 0, 1) := by decide +kernel
theorem dX1_moveInto_91 : decode cX1_moveInto 91 = .ok (.aload_n 1, 1) := by decide +kernel
theorem dX1_moveInto_92 : decode cX1_moveInto 92 = .ok (.getfield 129, 3) := by decide +kernel
theorem dX1_moveInto_95 : decode cX1_moveInto 95 = .ok (.iload 5, 2) := by decide +kernel
theorem dX1_moveInto_97 : decode cX1_moveInto 97 = .ok (.iaload, 1) := by decide +kernel
theorem dX1_moveInto_98 : decode cX1_moveInto 98 = .ok (.iconst 0, 1) := by decide +kernel
theorem dX1_moveInto_99 : decode cX1_moveInto 99 = .ok (.invokevirtual 132, 3) := by decide +kernel
theorem dX1_moveInto_102 : decode cX1_moveInto 102 = .ok (.iastore, 1) := by decide +kernel
theorem dX1_moveInto_103 : decode cX1_moveInto 103 = .ok (.iinc 5 1, 3) := by decide +kernel
theorem dX1_moveInto_106 : decode cX1_moveInto 106 = .ok (.goto (-31), 3) := by decide +kernel
theorem dX1_moveInto_109 : decode cX1_moveInto 109 = .ok (.iconst 0, 1) := by decide +kernel
theorem dX1_moveInto_110 : decode cX1_moveInto 110 = .ok (.istore 5, 2) := by decide +kernel
theorem dX1_moveInto_112 : decode cX1_moveInto 112 = .ok (.iload 5, 2) := by decide +kernel
theorem dX1_moveInto_114 : decode cX1_moveInto 114 = .ok (.bipush 16, 2) := by decide +kernel
theorem dX1_moveInto_116 : decode cX1_moveInto 116 = .ok (.if_icmp .ge 45, 3) := by decide +kernel
theorem dX1_moveInto_119 : decode cX1_moveInto 119 = .ok (.aload_n 1, 1) := by decide +kernel
theorem dX1_moveInto_120 : decode cX1_moveInto 120 = .ok (.getfield 136, 3) := by decide +kernel
theorem dX1_moveInto_123 : decode cX1_moveInto 123 = .ok (.iload 5, 2) := by decide +kernel
theorem dX1_moveInto_125 : decode cX1_moveInto 125 = .ok (.iaload, 1) := by decide +kernel
theorem dX1_moveInto_126 : decode cX1_moveInto 126 = .ok (.iconst (-1), 1) := by decide +kernel
theorem dX1_moveInto_127 : decode cX1_moveInto 127 = .ok (.if_icmp .eq 28, 3) := by decide +kernel
theorem dX1_moveInto_130 : decode cX1_moveInto 130 = .ok (.aload_n 1, 1) := by decide +kernel
theorem dX1_moveInto_131 : decode cX1_moveInto 131 = .ok (.getfield 136, 3) := by decide +kernel
theorem dX1_moveInto_134 : decode cX1_moveInto 134 = .ok (.iload 5, 2) := by decide +kernel
theorem dX1_moveInto_136 : decode cX1_moveInto 136 = .ok (.aload_n 0, 1) := by decide +kernel
theorem dX1_moveInto_137 : decode cX1_moveInto 137 = .ok (.aload_n 1, 1) := by decide +kernel
theorem dX1_moveInto_138 : decode cX1_moveInto 138 = .ok (.getfield 136, 3) := by decide +kernel
theorem dX1_moveInto_141 : decode cX1_moveInto 141 = .ok (.iload 5, 2) := by decide +kernel
theorem dX1_moveInto_143 : decode cX1_moveInto 143 = .ok (.iaload, 1) := by decide +kernel
theorem dX1_moveInto_144 : decode cX1_moveInto 144 = .ok (.aload_n 1, 1) := by decide +kernel
theorem dX1_moveInto_145 : decode cX1_moveInto 145 = .ok (.getfield 139, 3) := by decide +kernel
theorem dX1_moveInto_148 : decode cX1_moveInto 148 = .ok (.iload 5, 2) := by decide +kernel
theorem dX1_moveInto_150 : decode cX1_moveInto 150 = .ok (.baload, 1) := by decide +kernel
theorem dX1_moveInto_151 : decode cX1_moveInto 151 = .ok (.invokevirtual 132, 3) := by decide +kernel
theorem dX1_moveInto_154 : decode cX1_moveInto 154 = .ok (.iastore, 1) := by decide +kernel
theorem dX1_moveInto_155 : decode cX1_moveInto 155 = .ok (.iinc 5 1, 3) := by decide +kernel
theorem dX1_moveInto_158 : decode cX1_moveInto 158 = .ok (.goto (-46), 3) := by decide +kernel
theorem dX1_moveInto_161 : decode cX1_moveInto 161 = .ok (.aload_n 1, 1) := by decide +kernel
theorem dX1_moveInto_162 : decode cX1_moveInto 162 = .ok (.invokevirtual 142, 3) := by decide +kernel
theorem dX1_moveInto_165 : decode cX1_moveInto 165 = .ok (.return_, 1) := by decide +kernel
theorem dX1_moved_0 : decode cX1_moved 0 = .ok (.iload_n 1, 1) := by decide +kernel
theorem dX1_moved_1 : decode cX1_moved 1 = .ok (.istore_n 3, 1) := by decide +kernel
theorem dX1_moved_2 : decode cX1_moved 2 = .ok (.aload_n 0, 1) := by decide +kernel
theorem dX1_moved_3 : decode cX1_moved 3 = .ok (.getfield 24, 3) := by decide +kernel
theorem dX1_moved_6 : decode cX1_moved 6 = .ok (.iconst 1, 1) := by decide +kernel
theorem dX1_moved_7 : decode cX1_moved 7 = .ok (.isub, 1) := by decide +kernel
theorem dX1_moved_8 : decode cX1_moved 8 = .ok (.istore 4, 2) := by decide +kernel
theorem dX1_moved_10 : decode cX1_moved 10 = .ok (.iload 4, 2) := by decide +kernel
theorem dX1_moved_12 : decode cX1_moved 12 = .ok (.ifCond .lt 90, 3) := by decide +kernel
theorem dX1_moved_15 : decode cX1_moved 15 = .ok (.aload_n 0, 1) := by decide +kernel
theorem dX1_moved_16 : decode cX1_moved 16 = .ok (.getfield 9, 3) := by decide +kernel
theorem dX1_moved_19 : decode cX1_moved 19 = .ok (.iload 4, 2) := by decide +kernel
theorem dX1_moved_21 : decode cX1_moved 21 = .ok (.iaload, 1) := by decide +kernel
theorem dX1_moved_22 : decode cX1_moved 22 = .ok (.istore 5, 2) := by decide +kernel
theorem dX1_moved_24 : decode cX1_moved 24 = .ok (.aload_n 0, 1) := by decide +kernel
theorem dX1_moved_25 : decode cX1_moved 25 = .ok (.getfield 15, 3) := by decide +kernel
theorem dX1_moved_28 : decode cX1_moved 28 = .ok (.iload 4, 2) := by decide +kernel
theorem dX1_moved_30 : decode cX1_moved 30 = .ok (.iaload, 1) := by decide +kernel
theorem dX1_moved_31 : decode cX1_moved 31 = .ok (.istore 6, 2) := by decide +kernel
theorem dX1_moved_33 : decode cX1_moved 33 = .ok (.iload_n 3, 1) := by decide +kernel
theorem dX1_moved_34 : decode cX1_moved 34 = .ok (.iload 6, 2) := by decide +kernel
theorem dX1_moved_36 : decode cX1_moved 36 = .ok (.if_icmp .ne 26, 3) := by decide +kernel
theorem dX1_moved_39 : decode cX1_moved 39 = .ok (.iload_n 2, 1) := by decide +kernel
theorem dX1_moved_40 : decode cX1_moved 40 = .ok (.ifCond .eq 8, 3) := by decide +kernel
theorem dX1_moved_43 : decode cX1_moved 43 = .ok (.iload 5, 2) := by decide +kernel
theorem dX1_moved_45 : decode cX1_moved 45 = .ok (.goto 13, 3) := by decide +kernel
theorem dX1_moved_48 : decode cX1_moved 48 = .ok (.iload 5, 2) := by decide +kernel
theorem dX1_moved_50 : decode cX1_moved 50 = .ok (.aload_n 0, 1) := by decide +kernel
theorem dX1_moved_51 : decode cX1_moved 51 = .ok (.getfield 21, 3) := by decide +kernel
theorem dX1_moved_54 : decode cX1_moved 54 = .ok (.iload 4, 2) := by decide +kernel
theorem dX1_moved_56 : decode cX1_moved 56 = .ok (.iaload, 1) := by decide +kernel
theorem dX1_moved_57 : decode cX1_moved 57 = .ok (.iadd, 1) := by decide +kernel
theorem dX1_moved_58 : decode cX1_moved 58 = .ok (.istore_n 3, 1) := by decide +kernel
theorem dX1_moved_59 : decode cX1_moved 59 = .ok (.goto 37, 3) := by decide +kernel
theorem dX1_moved_62 : decode cX1_moved 62 = .ok (.iload_n 3, 1) := by decide +kernel
theorem dX1_moved_63 : decode cX1_moved 63 = .ok (.iload 6, 2) := by decide +kernel
theorem dX1_moved_65 : decode cX1_moved 65 = .ok (.if_icmp .le 22, 3) := by decide +kernel
theorem dX1_moved_68 : decode cX1_moved 68 = .ok (.iload_n 3, 1) := by decide +kernel
theorem dX1_moved_69 : decode cX1_moved 69 = .ok (.aload_n 0, 1) := by decide +kernel
theorem dX1_moved_70 : decode cX1_moved 70 = .ok (.getfield 21, 3) := by decide +kernel
theorem dX1_moved_73 : decode cX1_moved 73 = .ok (.iload 4, 2) := by decide +kernel
theorem dX1_moved_75 : decode cX1_moved 75 = .ok (.iaload, 1) := by decide +kernel
theorem dX1_moved_76 : decode cX1_moved 76 = .ok (.iload 6, 2) := by decide +kernel
theorem dX1_moved_78 : decode cX1_moved 78 = .ok (.iload 5, 2) := by decide +kernel
theorem dX1_moved_80 : decode cX1_moved 80 = .ok (.isub, 1) := by decide +kernel
theorem dX1_moved_81 : decode cX1_moved 81 = .ok (.isub, 1) := by decide +kernel
theorem dX1_moved_82 : decode cX1_moved 82 = .ok (.iadd, 1) := by decide +kernel
theorem dX1_moved_83 : decode cX1_moved 83 = .ok (.istore_n 3, 1) := by decide +kernel
theorem dX1_moved_84 : decode cX1_moved 84 = .ok (.goto 12, 3) := by decide +kernel
theorem dX1_moved_87 : decode cX1_moved 87 = .ok (.iload_n 3, 1) := by decide +kernel
theorem dX1_moved_88 : decode cX1_moved 88 = .ok (.iload 5, 2) := by decide +kernel
theorem dX1_moved_90 : decode cX1_moved 90 = .ok (.if_icmp .le 6, 3) := by decide +kernel
theorem dX1_moved_93 : decode cX1_moved 93 = .ok (.iload 5, 2) := by decide +kernel
theorem dX1_moved_95 : decode cX1_moved 95 = .ok (.istore_n 3, 1) := by decide +kernel
theorem dX1_moved_96 : decode cX1_moved 96 = .ok (.iinc 4 (-1), 3) := by decide +kernel
theorem dX1_moved_99 : decode cX1_moved 99 = .ok (.goto (-89), 3) := by decide +kernel
theorem dX1_moved_102 : decode cX1_moved 102 = .ok (.iload_n 3, 1) := by decide +kernel
theorem dX1_moved_103 : decode cX1_moved 103 = .ok (.ireturn, 1) := by decide +kernel
theorem dX2_init_0 : decode cX2_init 0 = .ok (.aload_n 0, 1) := by decide +kernel
theorem dX2_init_1 : decode cX2_init 1 = .ok (.invokespecial 3, 3) := by decide +kernel
theorem dX2_init_4 : decode cX2_init 4 = .ok (.aload_n 0, 1) := by decide +kernel
theorem dX2_init_5 : decode cX2_init 5 = .ok (.new 9, 3) := by decide +kernel
theorem dX2_init_8 : decode cX2_init 8 = .ok (.dup, 1) := by decide +kernel
theorem dX2_init_9 : decode cX2_init 9 = .ok (.sipush 12000, 3) := by decide +kernel
theorem dX2_init_12 : decode cX2_init 12 = .ok (.newarray .byte, 2) := by decide +kernel
theorem dX2_init_14 : decode cX2_init 14 = .ok (.invokespecial 11, 3) := by decide +kernel
theorem dX2_init_17 : decode cX2_init 17 = .ok (.putfield 14, 3) := by decide +kernel
theorem dX2_init_20 : decode cX2_init 20 = .ok (.aload_n 0, 1) := by decide +kernel
theorem dX2_init_21 : decode cX2_init 21 = .ok (.iconst 0, 1) := by decide +kernel
theorem dX2_init_22 : decode cX2_init 22 = .ok (.putfield 20, 3) := by decide +kernel
theorem dX2_init_25 : decode cX2_init 25 = .ok (.aload_n 0, 1) := by decide +kernel
theorem dX2_init_26 : decode cX2_init 26 = .ok (.iconst 0, 1) := by decide +kernel
theorem dX2_init_27 : decode cX2_init 27 = .ok (.putfield 24, 3) := by decide +kernel
theorem dX2_init_30 : decode cX2_init 30 = .ok (.aload_n 0, 1) := by decide +kernel
theorem dX2_init_31 : decode cX2_init 31 = .ok (.iconst 0, 1) := by decide +kernel
theorem dX2_init_32 : decode cX2_init 32 = .ok (.putfield 28, 3) := by decide +kernel
theorem dX2_init_35 : decode cX2_init 35 = .ok (.return_, 1) := by decide +kernel
theorem dX2_takeLetters_0 : decode cX2_takeLetters 0 = .ok (.aload_n 0, 1) := by decide +kernel
theorem dX2_takeLetters_1 : decode cX2_takeLetters 1 = .ok (.getfield 14, 3) := by decide +kernel
theorem dX2_takeLetters_4 : decode cX2_takeLetters 4 = .ok (.aload_n 1, 1) := by decide +kernel
theorem dX2_takeLetters_5 : decode cX2_takeLetters 5 = .ok (.iload_n 2, 1) := by decide +kernel
theorem dX2_takeLetters_6 : decode cX2_takeLetters 6 = .ok (.iload_n 3, 1) := by decide +kernel
theorem dX2_takeLetters_7 : decode cX2_takeLetters 7 = .ok (.invokevirtual 31, 3) := by decide +kernel
theorem dX2_takeLetters_10 : decode cX2_takeLetters 10 = .ok (.aload_n 0, 1) := by decide +kernel
theorem dX2_takeLetters_11 : decode cX2_takeLetters 11 = .ok (.iconst 0, 1) := by decide +kernel
theorem dX2_takeLetters_12 : decode cX2_takeLetters 12 = .ok (.putfield 20, 3) := by decide +kernel
theorem dX2_takeLetters_15 : decode cX2_takeLetters 15 = .ok (.return_, 1) := by decide +kernel
theorem dX2_takeBlock_0 : decode cX2_takeBlock 0 = .ok (.iconst 0, 1) := by decide +kernel
theorem dX2_takeBlock_1 : decode cX2_takeBlock 1 = .ok (.istore 6, 2) := by decide +kernel
theorem dX2_takeBlock_3 : decode cX2_takeBlock 3 = .ok (.aload_n 0, 1) := by decide +kernel
theorem dX2_takeBlock_4 : decode cX2_takeBlock 4 = .ok (.getfield 14, 3) := by decide +kernel
theorem dX2_takeBlock_7 : decode cX2_takeBlock 7 = .ok (.iconst 0, 1) := by decide +kernel
theorem dX2_takeBlock_8 : decode cX2_takeBlock 8 = .ok (.putfield 35, 3) := by decide +kernel
theorem dX2_takeBlock_11 : decode cX2_takeBlock 11 = .ok (.iload_n 2, 1) := by decide +kernel
theorem dX2_takeBlock_12 : decode cX2_takeBlock 12 = .ok (.istore 7, 2) := by decide +kernel
theorem dX2_takeBlock_14 : decode cX2_takeBlock 14 = .ok (.iload 7, 2) := by decide +kernel
theorem dX2_takeBlock_16 : decode cX2_takeBlock 16 = .ok (.iload_n 2, 1) := by decide +kernel
theorem dX2_takeBlock_17 : decode cX2_takeBlock 17 = .ok (.iload_n 3, 1) := by decide +kernel
theorem dX2_takeBlock_18 : decode cX2_takeBlock 18 = .ok (.iadd, 1) := by decide +kernel
theorem dX2_takeBlock_19 : decode cX2_takeBlock 19 = .ok (.if_icmp .ge 93, 3) := by decide +kernel
theorem dX2_takeBlock_22 : decode cX2_takeBlock 22 = .ok (.aload_n 1, 1) := by decide +kernel
theorem dX2_takeBlock_23 : decode cX2_takeBlock 23 = .ok (.iload 7, 2) := by decide +kernel
theorem dX2_takeBlock_25 : decode cX2_takeBlock 25 = .ok (.invokevirtual 38, 3) := by decide +kernel
theorem dX2_takeBlock_28 : decode cX2_takeBlock 28 = .ok (.istore 8, 2) := by decide +kernel
theorem dX2_takeBlock_30 : decode cX2_takeBlock 30 = .ok (.aload_n 1, 1) := by decide +kernel
theorem dX2_takeBlock_31 : decode cX2_takeBlock 31 = .ok (.getfield 44, 3) := by decide +kernel
theorem dX2_takeBlock_34 : decode cX2_takeBlock 34 = .ok (.iload 7, 2) := by decide +kernel
theorem dX2_takeBlock_36 : decode cX2_takeBlock 36 = .ok (.iaload, 1) := by decide +kernel
theorem dX2_takeBlock_37 : decode cX2_takeBlock 37 = .ok (.iload 4, 2) := by decide +kernel
theorem dX2_takeBlock_39 : decode cX2_takeBlock 39 = .ok (.iadd, 1) := by decide +kernel
theorem dX2_takeBlock_40 : decode cX2_takeBlock 40 = .ok (.istore 9, 2) := by decide +kernel
theorem dX2_takeBlock_42 : decode cX2_takeBlock 42 = .ok (.iload 9, 2) := by decide +kernel
theorem dX2_takeBlock_44 : decode cX2_takeBlock 44 = .ok (.istore 10, 2) := by decide +kernel
theorem dX2_takeBlock_46 : decode cX2_takeBlock 46 = .ok (.iload 10, 2) := by decide +kernel
theorem dX2_takeBlock_48 : decode cX2_takeBlock 48 = .ok (.iload 9, 2) := by decide +kernel
theorem dX2_takeBlock_50 : decode cX2_takeBlock 50 = .ok (.iload 5, 2) := by decide +kernel
theorem dX2_takeBlock_52 : decode cX2_takeBlock 52 = .ok (.iadd, 1) := by decide +kernel
theorem dX2_takeBlock_53 : decode cX2_takeBlock 53 = .ok (.if_icmp .ge 53, 3) := by decide +kernel
theorem dX2_takeBlock_56 : decode cX2_takeBlock 56 = .ok (.aload_n 0, 1) := by decide +kernel
theorem dX2_takeBlock_57 : decode cX2_takeBlock 57 = .ok (.getfield 14, 3) := by decide +kernel
theorem dX2_takeBlock_60 : decode cX2_takeBlock 60 = .ok (.iload 10, 2) := by decide +kernel
theorem dX2_takeBlock_62 : decode cX2_takeBlock 62 = .ok (.iload 8, 2) := by decide +kernel
theorem dX2_takeBlock_64 : decode cX2_takeBlock 64 = .ok (.if_icmp .ge 13, 3) := by decide +kernel
theorem dX2_takeBlock_67 : decode cX2_takeBlock 67 = .ok (.aload_n 1, 1) := by decide +kernel
theorem dX2_takeBlock_68 : decode cX2_takeBlock 68 = .ok (.getfield 48, 3) := by decide +kernel
theorem dX2_takeBlock_71 : decode cX2_takeBlock 71 = .ok (.iload 10, 2) := by decide +kernel
theorem dX2_takeBlock_73 : decode cX2_takeBlock 73 = .ok (.baload, 1) := by decide +kernel
theorem dX2_takeBlock_74 : decode cX2_takeBlock 74 = .ok (.goto 5, 3) := by decide +kernel
theorem dX2_takeBlock_77 : decode cX2_takeBlock 77 = .ok (.bipush 32, 2) := by decide +kernel
theorem dX2_takeBlock_79 : decode cX2_takeBlock 79 = .ok (.invokevirtual 51, 3) := by decide +kernel
theorem dX2_takeBlock_82 : decode cX2_takeBlock 82 = .ok (.pop, 1) := by decide +kernel
theorem dX2_takeBlock_83 : decode cX2_takeBlock 83 = .ok (.iload 6, 2) := by decide +kernel
theorem dX2_takeBlock_85 : decode cX2_takeBlock 85 = .ok (.iload 10, 2) := by decide +kernel
theorem dX2_takeBlock_87 : decode cX2_takeBlock 87 = .ok (.iload 8, 2) := by decide +kernel
theorem dX2_takeBlock_89 : decode cX2_takeBlock 89 = .ok (.if_icmp .ge 7, 3) := by decide +kernel
theorem dX2_takeBlock_92 : decode cX2_takeBlock 92 = .ok (.iconst 1, 1) := by decide +kernel
theorem dX2_takeBlock_93 : decode cX2_takeBlock 93 = .ok (.goto 4, 3) := by decide +kernel
theorem dX2_takeBlock_96 : decode cX2_takeBlock 96 = .ok (.iconst 0, 1) := by decide +kernel
theorem dX2_takeBlock_97 : decode cX2_takeBlock 97 = .ok (.iadd, 1) := by decide +kernel
theorem dX2_takeBlock_98 : decode cX2_takeBlock 98 = .ok (.istore 6, 2) := by decide +kernel
theorem dX2_takeBlock_100 : decode cX2_takeBlock 100 = .ok (.iinc 10 1, 3) := by decide +kernel
theorem dX2_takeBlock_103 : decode cX2_takeBlock 103 = .ok (.goto (-57), 3) := by decide +kernel
theorem dX2_takeBlock_106 : decode cX2_takeBlock 106 = .ok (.iinc 7 1, 3) := by decide +kernel
theorem dX2_takeBlock_109 : decode cX2_takeBlock 109 = .ok (.goto (-95), 3) := by decide +kernel
theorem dX2_takeBlock_112 : decode cX2_takeBlock 112 = .ok (.aload_n 0, 1) := by decide +kernel
theorem dX2_takeBlock_113 : decode cX2_takeBlock 113 = .ok (.iconst 1, 1) := by decide +kernel
theorem dX2_takeBlock_114 : decode cX2_takeBlock 114 = .ok (.putfield 20, 3) := by decide +kernel
theorem dX2_takeBlock_117 : decode cX2_takeBlock 117 = .ok (.aload_n 0, 1) := by decide +kernel
theorem dX2_takeBlock_118 : decode cX2_takeBlock 118 = .ok (.iload_n 3, 1) := by decide +kernel
theorem dX2_takeBlock_119 : decode cX2_takeBlock 119 = .ok (.putfield 24, 3) := by decide +kernel
theorem dX2_takeBlock_122 : decode cX2_takeBlock 122 = .ok (.aload_n 0, 1) := by decide +kernel
theorem dX2_takeBlock_123 : decode cX2_takeBlock 123 = .ok (.iload 5, 2) := by decide +kernel
theorem dX2_takeBlock_125 : decode cX2_takeBlock 125 = .ok (.putfield 28, 3) := by decide +kernel
theorem dX2_takeBlock_128 : decode cX2_takeBlock 128 = .ok (.iload 6, 2) := by decide +kernel
theorem dX2_takeBlock_130 : decode cX2_takeBlock 130 = .ok (.ireturn, 1) := by decide +kernel
theorem dX2_planBlock_0 : decode cX2_planBlock 0 = .ok (.aload_n 1, 1) := by decide +kernel
theorem dX2_planBlock_1 : decode cX2_planBlock 1 = .ok (.aload_n 1, 1) := by decide +kernel
theorem dX2_planBlock_2 : decode cX2_planBlock 2 = .ok (.getfield 55, 3) := by decide +kernel
theorem dX2_planBlock_5 : decode cX2_planBlock 5 = .ok (.iconst 0, 1) := by decide +kernel
theorem dX2_planBlock_6 : decode cX2_planBlock 6 = .ok (.iaload, 1) := by decide +kernel
theorem dX2_planBlock_7 : decode cX2_planBlock 7 = .ok (.invokevirtual 58, 3) := by decide +kernel
theorem dX2_planBlock_10 : decode cX2_planBlock 10 = .ok (.istore_n 3, 1) := by decide +kernel
theorem dX2_planBlock_11 : decode cX2_planBlock 11 = .ok (.aload_n 1, 1) := by decide +kernel
theorem dX2_planBlock_12 : decode cX2_planBlock 12 = .ok (.getfield 55, 3) := by decide +kernel
theorem dX2_planBlock_15 : decode cX2_planBlock 15 = .ok (.iconst 0, 1) := by decide +kernel
theorem dX2_planBlock_16 : decode cX2_planBlock 16 = .ok (.iaload, 1) := by decide +kernel
theorem dX2_planBlock_17 : decode cX2_planBlock 17 = .ok (.aload_n 1, 1) := by decide +kernel
theorem dX2_planBlock_18 : decode cX2_planBlock 18 = .ok (.getfield 44, 3) := by decide +kernel
theorem dX2_planBlock_21 : decode cX2_planBlock 21 = .ok (.iload_n 3, 1) := by decide +kernel
theorem dX2_planBlock_22 : decode cX2_planBlock 22 = .ok (.iaload, 1) := by decide +kernel
theorem dX2_planBlock_23 : decode cX2_planBlock 23 = .ok (.isub, 1) := by decide +kernel
theorem dX2_planBlock_24 : decode cX2_planBlock 24 = .ok (.istore 4, 2) := by decide +kernel
theorem dX2_planBlock_26 : decode cX2_planBlock 26 = .ok (.aload_n 2, 1) := by decide +kernel
theorem dX2_planBlock_27 : decode cX2_planBlock 27 = .ok (.aload_n 0, 1) := by decide +kernel
theorem dX2_planBlock_28 : decode cX2_planBlock 28 = .ok (.getfield 14, 3) := by decide +kernel
theorem dX2_planBlock_31 : decode cX2_planBlock 31 = .ok (.getfield 61, 3) := by decide +kernel
theorem dX2_planBlock_34 : decode cX2_planBlock 34 = .ok (.iconst 0, 1) := by decide +kernel
theorem dX2_planBlock_35 : decode cX2_planBlock 35 = .ok (.iconst 0, 1) := by decide +kernel
theorem dX2_planBlock_36 : decode cX2_planBlock 36 = .ok (.invokevirtual 62, 3) := by decide +kernel
theorem dX2_planBlock_39 : decode cX2_planBlock 39 = .ok (.iconst 0, 1) := by decide +kernel
theorem dX2_planBlock_40 : decode cX2_planBlock 40 = .ok (.istore 5, 2) := by decide +kernel
theorem dX2_planBlock_42 : decode cX2_planBlock 42 = .ok (.iload 5, 2) := by decide +kernel
theorem dX2_planBlock_44 : decode cX2_planBlock 44 = .ok (.aload_n 0, 1) := by decide +kernel
theorem dX2_planBlock_45 : decode cX2_planBlock 45 = .ok (.getfield 24, 3) := by decide +kernel
theorem dX2_planBlock_48 : decode cX2_planBlock 48 = .ok (.if_icmp .ge 109, 3) := by decide +kernel
theorem dX2_planBlock_51 : decode cX2_planBlock 51 = .ok (.aload_n 2, 1) := by decide +kernel
theorem dX2_planBlock_52 : decode cX2_planBlock 52 = .ok (.getfield 67, 3) := by decide +kernel
theorem dX2_planBlock_55 : decode cX2_planBlock 55 = .ok (.ifCond .ne 102, 3) := by decide +kernel
theorem dX2_planBlock_58 : decode cX2_planBlock 58 = .ok (.iload 4, 2) := by decide +kernel
theorem dX2_planBlock_60 : decode cX2_planBlock 60 = .ok (.istore 6, 2) := by decide +kernel
theorem dX2_planBlock_62 : decode cX2_planBlock 62 = .ok (.iload_n 3, 1) := by decide +kernel
theorem dX2_planBlock_63 : decode cX2_planBlock 63 = .ok (.iload 5, 2) := by decide +kernel
theorem dX2_planBlock_65 : decode cX2_planBlock 65 = .ok (.iadd, 1) := by decide +kernel
theorem dX2_planBlock_66 : decode cX2_planBlock 66 = .ok (.aload_n 1, 1) := by decide +kernel
theorem dX2_planBlock_67 : decode cX2_planBlock 67 = .ok (.getfield 70, 3) := by decide +kernel
theorem dX2_planBlock_70 : decode cX2_planBlock 70 = .ok (.if_icmp .ge 58, 3) := by decide +kernel
theorem dX2_planBlock_73 : decode cX2_planBlock 73 = .ok (.aload_n 1, 1) := by decide +kernel
theorem dX2_planBlock_74 : decode cX2_planBlock 74 = .ok (.iload_n 3, 1) := by decide +kernel
theorem dX2_planBlock_75 : decode cX2_planBlock 75 = .ok (.iload 5, 2) := by decide +kernel
theorem dX2_planBlock_77 : decode cX2_planBlock 77 = .ok (.iadd, 1) := by decide +kernel
theorem dX2_planBlock_78 : decode cX2_planBlock 78 = .ok (.invokevirtual 38, 3) := by decide +kernel
theorem dX2_planBlock_81 : decode cX2_planBlock 81 = .ok (.istore 7, 2) := by decide +kernel
theorem dX2_planBlock_83 : decode cX2_planBlock 83 = .ok (.iload 7, 2) := by decide +kernel
theorem dX2_planBlock_85 : decode cX2_planBlock 85 = .ok (.aload_n 1, 1) := by decide +kernel
theorem dX2_planBlock_86 : decode cX2_planBlock 86 = .ok (.getfield 44, 3) := by decide +kernel
theorem dX2_planBlock_89 : decode cX2_planBlock 89 = .ok (.iload_n 3, 1) := by decide +kernel
theorem dX2_planBlock_90 : decode cX2_planBlock 90 = .ok (.iload 5, 2) := by decide +kernel
theorem dX2_planBlock_92 : decode cX2_planBlock 92 = .ok (.iadd, 1) := by decide +kernel
theorem dX2_planBlock_93 : decode cX2_planBlock 93 = .ok (.iaload, 1) := by decide +kernel
theorem dX2_planBlock_94 : decode cX2_planBlock 94 = .ok (.iload 4, 2) := by decide +kernel
theorem dX2_planBlock_96 : decode cX2_planBlock 96 = .ok (.iadd, 1) := by decide +kernel
theorem dX2_planBlock_97 : decode cX2_planBlock 97 = .ok (.invokestatic 73, 3) := by decide +kernel
theorem dX2_planBlock_100 : decode cX2_planBlock 100 = .ok (.istore 8, 2) := by decide +kernel
theorem dX2_planBlock_102 : decode cX2_planBlock 102 = .ok (.iload 4, 2) := by decide +kernel
theorem dX2_planBlock_104 : decode cX2_planBlock 104 = .ok (.iload 8, 2) := by decide +kernel
theorem dX2_planBlock_106 : decode cX2_planBlock 106 = .ok (.aload_n 1, 1) := by decide +kernel
theorem dX2_planBlock_107 : decode cX2_planBlock 107 = .ok (.getfield 44, 3) := by decide +kernel
theorem dX2_planBlock_110 : decode cX2_planBlock 110 = .ok (.iload_n 3, 1) := by decide +kernel
theorem dX2_planBlock_111 : decode cX2_planBlock 111 = .ok (.iload 5, 2) := by decide +kernel
theorem dX2_planBlock_113 : decode cX2_planBlock 113 = .ok (.iadd, 1) := by decide +kernel
theorem dX2_planBlock_114 : decode cX2_planBlock 114 = .ok (.iaload, 1) := by decide +kernel
theorem dX2_planBlock_115 : decode cX2_planBlock 115 = .ok (.isub, 1) := by decide +kernel
theorem dX2_planBlock_116 : decode cX2_planBlock 116 = .ok (.isub, 1) := by decide +kernel
theorem dX2_planBlock_117 : decode cX2_planBlock 117 = .ok (.istore 6, 2) := by decide +kernel
theorem dX2_planBlock_119 : decode cX2_planBlock 119 = .ok (.aload_n 2, 1) := by decide +kernel
theorem dX2_planBlock_120 : decode cX2_planBlock 120 = .ok (.iload 8, 2) := by decide +kernel
theorem dX2_planBlock_122 : decode cX2_planBlock 122 = .ok (.invokevirtual 79, 3) := by decide +kernel
theorem dX2_planBlock_125 : decode cX2_planBlock 125 = .ok (.goto 17, 3) := by decide +kernel
theorem dX2_planBlock_128 : decode cX2_planBlock 128 = .ok (.aload_n 2, 1) := by decide +kernel
theorem dX2_planBlock_129 : decode cX2_planBlock 129 = .ok (.aload_n 1, 1) := by decide +kernel
theorem dX2_planBlock_130 : decode cX2_planBlock 130 = .ok (.getfield 83, 3) := by decide +kernel
theorem dX2_planBlock_133 : decode cX2_planBlock 133 = .ok (.invokevirtual 79, 3) := by decide +kernel
theorem dX2_planBlock_136 : decode cX2_planBlock 136 = .ok (.aload_n 2, 1) := by decide +kernel
theorem dX2_planBlock_137 : decode cX2_planBlock 137 = .ok (.bipush 10, 2) := by decide +kernel
theorem dX2_planBlock_139 : decode cX2_planBlock 139 = .ok (.invokevirtual 84, 3) := by decide +kernel
theorem dX2_planBlock_142 : decode cX2_planBlock 142 = .ok (.aload_n 0, 1) := by decide +kernel
theorem dX2_planBlock_143 : decode cX2_planBlock 143 = .ok (.aload_n 2, 1) := by decide +kernel
theorem dX2_planBlock_144 : decode cX2_planBlock 144 = .ok (.iload 5, 2) := by decide +kernel
theorem dX2_planBlock_146 : decode cX2_planBlock 146 = .ok (.iload 6, 2) := by decide +kernel
theorem dX2_planBlock_148 : decode cX2_planBlock 148 = .ok (.invokevirtual 87, 3) := by decide +kernel
theorem dX2_planBlock_151 : decode cX2_planBlock 151 = .ok (.iinc 5 1, 3) := by decide +kernel
theorem dX2_planBlock_154 : decode cX2_planBlock 154 = .ok (.goto (-112), 3) := by decide +kernel
theorem dX2_planBlock_157 : decode cX2_planBlock 157 = .ok (.return_, 1) := by decide +kernel
theorem dX2_putRow_0 : decode cX2_putRow 0 = .ok (.iconst 0, 1) := by decide +kernel
theorem dX2_putRow_1 : decode cX2_putRow 1 = .ok (.istore 4, 2) := by decide +kernel
theorem dX2_putRow_3 : decode cX2_putRow 3 = .ok (.iload 4, 2) := by decide +kernel
theorem dX2_putRow_5 : decode cX2_putRow 5 = .ok (.iload_n 3, 1) := by decide +kernel
theorem dX2_putRow_6 : decode cX2_putRow 6 = .ok (.if_icmp .ge 22, 3) := by decide +kernel
theorem dX2_putRow_9 : decode cX2_putRow 9 = .ok (.aload_n 1, 1) := by decide +kernel
theorem dX2_putRow_10 : decode cX2_putRow 10 = .ok (.getfield 67, 3) := by decide +kernel
theorem dX2_putRow_13 : decode cX2_putRow 13 = .ok (.ifCond .ne 15, 3) := by decide +kernel
theorem dX2_putRow_16 : decode cX2_putRow 16 = .ok (.aload_n 1, 1) := by decide +kernel
theorem dX2_putRow_17 : decode cX2_putRow 17 = .ok (.bipush 32, 2) := by decide +kernel
theorem dX2_putRow_19 : decode cX2_putRow 19 = .ok (.invokevirtual 84, 3) := by decide +kernel
theorem dX2_putRow_22 : decode cX2_putRow 22 = .ok (.iinc 4 1, 3) := by decide +kernel
theorem dX2_putRow_25 : decode cX2_putRow 25 = .ok (.goto (-22), 3) := by decide +kernel
theorem dX2_putRow_28 : decode cX2_putRow 28 = .ok (.iload_n 2, 1) := by decide +kernel
theorem dX2_putRow_29 : decode cX2_putRow 29 = .ok (.aload_n 0, 1) := by decide +kernel
theorem dX2_putRow_30 : decode cX2_putRow 30 = .ok (.getfield 28, 3) := by decide +kernel
theorem dX2_putRow_33 : decode cX2_putRow 33 = .ok (.imul, 1) := by decide +kernel
theorem dX2_putRow_34 : decode cX2_putRow 34 = .ok (.istore 4, 2) := by decide +kernel
theorem dX2_putRow_36 : decode cX2_putRow 36 = .ok (.iload 4, 2) := by decide +kernel
theorem dX2_putRow_38 : decode cX2_putRow 38 = .ok (.iload_n 2, 1) := by decide +kernel
theorem dX2_putRow_39 : decode cX2_putRow 39 = .ok (.iconst 1, 1) := by decide +kernel
theorem dX2_putRow_40 : decode cX2_putRow 40 = .ok (.iadd, 1) := by decide +kernel
theorem dX2_putRow_41 : decode cX2_putRow 41 = .ok (.aload_n 0, 1) := by decide +kernel
theorem dX2_putRow_42 : decode cX2_putRow 42 = .ok (.getfield 28, 3) := by decide +kernel
theorem dX2_putRow_45 : decode cX2_putRow 45 = .ok (.imul, 1) := by decide +kernel
theorem dX2_putRow_46 : decode cX2_putRow 46 = .ok (.if_icmp .ge 30, 3) := by decide +kernel
theorem dX2_putRow_49 : decode cX2_putRow 49 = .ok (.aload_n 1, 1) := by decide +kernel
theorem dX2_putRow_50 : decode cX2_putRow 50 = .ok (.getfield 67, 3) := by decide +kernel
theorem dX2_putRow_53 : decode cX2_putRow 53 = .ok (.ifCond .ne 23, 3) := by decide +kernel
theorem dX2_putRow_56 : decode cX2_putRow 56 = .ok (.aload_n 1, 1) := by decide +kernel
theorem dX2_putRow_57 : decode cX2_putRow 57 = .ok (.aload_n 0, 1) := by decide +kernel
theorem dX2_putRow_58 : decode cX2_putRow 58 = .ok (.getfield 14, 3) := by decide +kernel
theorem dX2_putRow_61 : decode cX2_putRow 61 = .ok (.getfield 61, 3) := by decide +kernel
theorem dX2_putRow_64 : decode cX2_putRow 64 = .ok (.iload 4, 2) := by decide +kernel
theorem dX2_putRow_66 : decode cX2_putRow 66 = .ok (.baload, 1) := by decide +kernel
theorem dX2_putRow_67 : decode cX2_putRow 67 = .ok (.invokevirtual 84, 3) := by decide +kernel
theorem dX2_putRow_70 : decode cX2_putRow 70 = .ok (.iinc 4 1, 3) := by decide +kernel
theorem dX2_putRow_73 : decode cX2_putRow 73 = .ok (.goto (-37), 3) := by decide +kernel
theorem dX2_putRow_76 : decode cX2_putRow 76 = .ok (.return_, 1) := by decide +kernel
theorem dX3_init_0 : decode cX3_init 0 = .ok (.aload_n 0, 1) := by decide +kernel
theorem dX3_init_1 : decode cX3_init 1 = .ok (.invokespecial 3, 3) := by decide +kernel
theorem dX3_init_4 : decode cX3_init 4 = .ok (.aload_n 0, 1) := by decide +kernel
theorem dX3_init_5 : decode cX3_init 5 = .ok (.new 9, 3) := by decide +kernel
theorem dX3_init_8 : decode cX3_init 8 = .ok (.dup, 1) := by decide +kernel
theorem dX3_init_9 : decode cX3_init 9 = .ok (.invokespecial 11, 3) := by decide +kernel
theorem dX3_init_12 : decode cX3_init 12 = .ok (.putfield 12, 3) := by decide +kernel
theorem dX3_init_15 : decode cX3_init 15 = .ok (.aload_n 0, 1) := by decide +kernel
theorem dX3_init_16 : decode cX3_init 16 = .ok (.new 9, 3) := by decide +kernel
theorem dX3_init_19 : decode cX3_init 19 = .ok (.dup, 1) := by decide +kernel
theorem dX3_init_20 : decode cX3_init 20 = .ok (.invokespecial 11, 3) := by decide +kernel
theorem dX3_init_23 : decode cX3_init 23 = .ok (.putfield 18, 3) := by decide +kernel
theorem dX3_init_26 : decode cX3_init 26 = .ok (.aload_n 0, 1) := by decide +kernel
theorem dX3_init_27 : decode cX3_init 27 = .ok (.sipush 300, 3) := by decide +kernel
theorem dX3_init_30 : decode cX3_init 30 = .ok (.newarray .int, 2) := by decide +kernel
theorem dX3_init_32 : decode cX3_init 32 = .ok (.putfield 21, 3) := by decide +kernel
theorem dX3_init_35 : decode cX3_init 35 = .ok (.aload_n 0, 1) := by decide +kernel
theorem dX3_init_36 : decode cX3_init 36 = .ok (.sipush 300, 3) := by decide +kernel
theorem dX3_init_39 : decode cX3_init 39 = .ok (.newarray .int, 2) := by decide +kernel
theorem dX3_init_41 : decode cX3_init 41 = .ok (.putfield 25, 3) := by decide +kernel
theorem dX3_init_44 : decode cX3_init 44 = .ok (.aload_n 0, 1) := by decide +kernel
theorem dX3_init_45 : decode cX3_init 45 = .ok (.sipush 301, 3) := by decide +kernel
theorem dX3_init_48 : decode cX3_init 48 = .ok (.newarray .int, 2) := by decide +kernel
theorem dX3_init_50 : decode cX3_init 50 = .ok (.putfield 28, 3) := by decide +kernel
theorem dX3_init_53 : decode cX3_init 53 = .ok (.return_, 1) := by decide +kernel
theorem dX3_countSame_0 : decode cX3_countSame 0 = .ok (.aload_n 0, 1) := by decide +kernel
theorem dX3_countSame_1 : decode cX3_countSame 1 = .ok (.getfield 12, 3) := by decide +kernel
theorem dX3_countSame_4 : decode cX3_countSame 4 = .ok (.aload_n 0, 1) := by decide +kernel
theorem dX3_countSame_5 : decode cX3_countSame 5 = .ok (.getfield 21, 3) := by decide +kernel
theorem dX3_countSame_8 : decode cX3_countSame 8 = .ok (.invokestatic 31, 3) := by decide +kernel
theorem dX3_countSame_11 : decode cX3_countSame 11 = .ok (.aload_n 1, 1) := by decide +kernel
theorem dX3_countSame_12 : decode cX3_countSame 12 = .ok (.aload_n 0, 1) := by decide +kernel
theorem dX3_countSame_13 : decode cX3_countSame 13 = .ok (.getfield 25, 3) := by decide +kernel
theorem dX3_countSame_16 : decode cX3_countSame 16 = .ok (.invokestatic 31, 3) := by decide +kernel
theorem dX3_countSame_19 : decode cX3_countSame 19 = .ok (.iconst 0, 1) := by decide +kernel
theorem dX3_countSame_20 : decode cX3_countSame 20 = .ok (.istore_n 2, 1) := by decide +kernel
theorem dX3_countSame_21 : decode cX3_countSame 21 = .ok (.iload_n 2, 1) := by decide +kernel
theorem dX3_countSame_22 : decode cX3_countSame 22 = .ok (.aload_n 1, 1) := by decide +kernel
theorem dX3_countSame_23 : decode cX3_countSame 23 = .ok (.getfield 35, 3) := by decide +kernel
theorem dX3_countSame_26 : decode cX3_countSame 26 = .ok (.if_icmp .gt 16, 3) := by decide +kernel
theorem dX3_countSame_29 : decode cX3_countSame 29 = .ok (.aload_n 0, 1) := by decide +kernel
theorem dX3_countSame_30 : decode cX3_countSame 30 = .ok (.getfield 28, 3) := by decide +kernel
theorem dX3_countSame_33 : decode cX3_countSame 33 = .ok (.iload_n 2, 1) := by decide +kernel
theorem dX3_countSame_34 : decode cX3_countSame 34 = .ok (.iconst 0, 1) := by decide +kernel
theorem dX3_countSame_35 : decode cX3_countSame 35 = .ok (.iastore, 1) := by decide +kernel
theorem dX3_countSame_36 : decode cX3_countSame 36 = .ok (.iinc 2 1, 3) := by decide +kernel
theorem dX3_countSame_39 : decode cX3_countSame 39 = .ok (.goto (-18), 3) := by decide +kernel
theorem dX3_countSame_42 : decode cX3_countSame 42 = .ok (.iconst 0, 1) := by decide +kernel
theorem dX3_countSame_43 : decode cX3_countSame 43 = .ok (.istore_n 2, 1) := by decide +kernel
theorem dX3_countSame_44 : decode cX3_countSame 44 = .ok (.iload_n 2, 1) := by decide +kernel
theorem dX3_countSame_45 : decode cX3_countSame 45 = .ok (.aload_n 0, 1) := by decide +kernel
theorem dX3_countSame_46 : decode cX3_countSame 46 = .ok (.getfield 12, 3) := by decide +kernel
theorem dX3_countSame_49 : decode cX3_countSame 49 = .ok (.getfield 35, 3) := by decide +kernel
theorem dX3_countSame_52 : decode cX3_countSame 52 = .ok (.if_icmp .ge 90, 3) := by decide +kernel
theorem dX3_countSame_55 : decode cX3_countSame 55 = .ok (.iconst 0, 1) := by decide +kernel
theorem dX3_countSame_56 : decode cX3_countSame 56 = .ok (.istore_n 3, 1) := by decide +kernel
theorem dX3_countSame_57 : decode cX3_countSame 57 = .ok (.iconst 0, 1) := by decide +kernel
theorem dX3_countSame_58 : decode cX3_countSame 58 = .ok (.istore 4, 2) := by decide +kernel
theorem dX3_countSame_60 : decode cX3_countSame 60 = .ok (.iload 4, 2) := by decide +kernel
theorem dX3_countSame_62 : decode cX3_countSame 62 = .ok (.aload_n 1, 1) := by decide +kernel
theorem dX3_countSame_63 : decode cX3_countSame 63 = .ok (.getfield 35, 3) := by decide +kernel
theorem dX3_countSame_66 : decode cX3_countSame 66 = .ok (.if_icmp .ge 70, 3) := by decide +kernel
theorem dX3_countSame_69 : decode cX3_countSame 69 = .ok (.aload_n 0, 1) := by decide +kernel
theorem dX3_countSame_70 : decode cX3_countSame 70 = .ok (.getfield 28, 3) := by decide +kernel
theorem dX3_countSame_73 : decode cX3_countSame 73 = .ok (.iload 4, 2) := by decide +kernel
theorem dX3_countSame_75 : decode cX3_countSame 75 = .ok (.iconst 1, 1) := by decide +kernel
theorem dX3_countSame_76 : decode cX3_countSame 76 = .ok (.iadd, 1) := by decide +kernel
theorem dX3_countSame_77 : decode cX3_countSame 77 = .ok (.iaload, 1) := by decide +kernel
theorem dX3_countSame_78 : decode cX3_countSame 78 = .ok (.istore 5, 2) := by decide +kernel
theorem dX3_countSame_80 : decode cX3_countSame 80 = .ok (.aload_n 0, 1) := by decide +kernel
theorem dX3_countSame_81 : decode cX3_countSame 81 = .ok (.iload_n 2, 1) := by decide +kernel
theorem dX3_countSame_82 : decode cX3_countSame 82 = .ok (.aload_n 1, 1) := by decide +kernel
theorem dX3_countSame_83 : decode cX3_countSame 83 = .ok (.iload 4, 2) := by decide +kernel
theorem dX3_countSame_85 : decode cX3_countSame 85 = .ok (.invokevirtual 39, 3) := by decide +kernel
theorem dX3_countSame_88 : decode cX3_countSame 88 = .ok (.ifCond .eq 18, 3) := by decide +kernel
theorem dX3_countSame_91 : decode cX3_countSame 91 = .ok (.aload_n 0, 1) := by decide +kernel
theorem dX3_countSame_92 : decode cX3_countSame 92 = .ok (.getfield 28, 3) := by decide +kernel
theorem dX3_countSame_95 : decode cX3_countSame 95 = .ok (.iload 4, 2) := by decide +kernel
theorem dX3_countSame_97 : decode cX3_countSame 97 = .ok (.iconst 1, 1) := by decide +kernel
theorem dX3_countSame_98 : decode cX3_countSame 98 = .ok (.iadd, 1) := by decide +kernel
theorem dX3_countSame_99 : decode cX3_countSame 99 = .ok (.iload_n 3, 1) := by decide +kernel
theorem dX3_countSame_100 : decode cX3_countSame 100 = .ok (.iconst 1, 1) := by decide +kernel
theorem dX3_countSame_101 : decode cX3_countSame 101 = .ok (.iadd, 1) := by decide +kernel
theorem dX3_countSame_102 : decode cX3_countSame 102 = .ok (.iastore, 1) := by decide +kernel
theorem dX3_countSame_103 : decode cX3_countSame 103 = .ok (.goto 24, 3) := by decide +kernel
theorem dX3_countSame_106 : decode cX3_countSame 106 = .ok (.aload_n 0, 1) := by decide +kernel
theorem dX3_countSame_107 : decode cX3_countSame 107 = .ok (.getfield 28, 3) := by decide +kernel
theorem dX3_countSame_110 : decode cX3_countSame 110 = .ok (.iload 4, 2) := by decide +kernel
theorem dX3_countSame_112 : decode cX3_countSame 112 = .ok (.iconst 1, 1) := by decide +kernel
theorem dX3_countSame_113 : decode cX3_countSame 113 = .ok (.iadd, 1) := by decide +kernel
theorem dX3_countSame_114 : decode cX3_countSame 114 = .ok (.iload 5, 2) := by decide +kernel
theorem dX3_countSame_116 : decode cX3_countSame 116 = .ok (.aload_n 0, 1) := by decide +kernel
theorem dX3_countSame_117 : decode cX3_countSame 117 = .ok (.getfield 28, 3) := by decide +kernel
theorem dX3_countSame_120 : decode cX3_countSame 120 = .ok (.iload 4, 2) := by decide +kernel
theorem dX3_countSame_122 : decode cX3_countSame 122 = .ok (.iaload, 1) := by decide +kernel
theorem dX3_countSame_123 : decode cX3_countSame 123 = .ok (.invokestatic 43, 3) := by decide +kernel
theorem dX3_countSame_126 : decode cX3_countSame 126 = .ok (.iastore, 1) := by decide +kernel
theorem dX3_countSame_127 : decode cX3_countSame 127 = .ok (.iload 5, 2) := by decide +kernel
theorem dX3_countSame_129 : decode cX3_countSame 129 = .ok (.istore_n 3, 1) := by decide +kernel
theorem dX3_countSame_130 : decode cX3_countSame 130 = .ok (.iinc 4 1, 3) := by decide +kernel
theorem dX3_countSame_133 : decode cX3_countSame 133 = .ok (.goto (-73), 3) := by decide +kernel
theorem dX3_countSame_136 : decode cX3_countSame 136 = .ok (.iinc 2 1, 3) := by decide +kernel
theorem dX3_countSame_139 : decode cX3_countSame 139 = .ok (.goto (-95), 3) := by decide +kernel
theorem dX3_countSame_142 : decode cX3_countSame 142 = .ok (.aload_n 0, 1) := by decide +kernel
theorem dX3_countSame_143 : decode cX3_countSame 143 = .ok (.getfield 28, 3) := by decide +kernel
theorem dX3_countSame_146 : decode cX3_countSame 146 = .ok (.aload_n 1, 1) := by decide +kernel
theorem dX3_countSame_147 : decode cX3_countSame 147 = .ok (.getfield 35, 3) := by decide +kernel
theorem dX3_countSame_150 : decode cX3_countSame 150 = .ok (.iaload, 1) := by decide +kernel
theorem dX3_countSame_151 : decode cX3_countSame 151 = .ok (.ireturn, 1) := by decide +kernel
theorem dX3_fillSums_0 : decode cX3_fillSums 0 = .ok (.iconst 0, 1) := by decide +kernel
theorem dX3_fillSums_1 : decode cX3_fillSums 1 = .ok (.istore_n 2, 1) := by decide +kernel
theorem dX3_fillSums_2 : decode cX3_fillSums 2 = .ok (.iload_n 2, 1) := by decide +kernel
theorem dX3_fillSums_3 : decode cX3_fillSums 3 = .ok (.aload_n 0, 1) := by decide +kernel
theorem dX3_fillSums_4 : decode cX3_fillSums 4 = .ok (.getfield 35, 3) := by decide +kernel
theorem dX3_fillSums_7 : decode cX3_fillSums 7 = .ok (.if_icmp .ge 27, 3) := by decide +kernel
theorem dX3_fillSums_10 : decode cX3_fillSums 10 = .ok (.aload_n 1, 1) := by decide +kernel
theorem dX3_fillSums_11 : decode cX3_fillSums 11 = .ok (.iload_n 2, 1) := by decide +kernel
theorem dX3_fillSums_12 : decode cX3_fillSums 12 = .ok (.aload_n 0, 1) := by decide +kernel
theorem dX3_fillSums_13 : decode cX3_fillSums 13 = .ok (.aload_n 0, 1) := by decide +kernel
theorem dX3_fillSums_14 : decode cX3_fillSums 14 = .ok (.getfield 49, 3) := by decide +kernel
theorem dX3_fillSums_17 : decode cX3_fillSums 17 = .ok (.iload_n 2, 1) := by decide +kernel
theorem dX3_fillSums_18 : decode cX3_fillSums 18 = .ok (.iaload, 1) := by decide +kernel
theorem dX3_fillSums_19 : decode cX3_fillSums 19 = .ok (.aload_n 0, 1) := by decide +kernel
theorem dX3_fillSums_20 : decode cX3_fillSums 20 = .ok (.iload_n 2, 1) := by decide +kernel
theorem dX3_fillSums_21 : decode cX3_fillSums 21 = .ok (.invokevirtual 52, 3) := by decide +kernel
theorem dX3_fillSums_24 : decode cX3_fillSums 24 = .ok (.invokevirtual 56, 3) := by decide +kernel
theorem dX3_fillSums_27 : decode cX3_fillSums 27 = .ok (.iastore, 1) := by decide +kernel
theorem dX3_fillSums_28 : decode cX3_fillSums 28 = .ok (.iinc 2 1, 3) := by decide +kernel
theorem dX3_fillSums_31 : decode cX3_fillSums 31 = .ok (.goto (-29), 3) := by decide +kernel
theorem dX3_fillSums_34 : decode cX3_fillSums 34 = .ok (.return_, 1) := by decide +kernel
theorem dX3_isSame_0 : decode cX3_isSame 0 = .ok (.aload_n 0, 1) := by decide +kernel
theorem dX3_isSame_1 : decode cX3_isSame 1 = .ok (.getfield 21, 3) := by decide +kernel
theorem dX3_isSame_4 : decode cX3_isSame 4 = .ok (.iload_n 1, 1) := by decide +kernel
theorem dX3_isSame_5 : decode cX3_isSame 5 = .ok (.iaload, 1) := by decide +kernel
theorem dX3_isSame_6 : decode cX3_isSame 6 = .ok (.aload_n 0, 1) := by decide +kernel
theorem dX3_isSame_7 : decode cX3_isSame 7 = .ok (.getfield 25, 3) := by decide +kernel
theorem dX3_isSame_10 : decode cX3_isSame 10 = .ok (.iload_n 3, 1) := by decide +kernel
theorem dX3_isSame_11 : decode cX3_isSame 11 = .ok (.iaload, 1) := by decide +kernel
theorem dX3_isSame_12 : decode cX3_isSame 12 = .ok (.if_icmp .eq 5, 3) := by decide +kernel
theorem dX3_isSame_15 : decode cX3_isSame 15 = .ok (.iconst 0, 1) := by decide +kernel
theorem dX3_isSame_16 : decode cX3_isSame 16 = .ok (.ireturn, 1) := by decide +kernel
theorem dX3_isSame_17 : decode cX3_isSame 17 = .ok (.aload_n 0, 1) := by decide +kernel
theorem dX3_isSame_18 : decode cX3_isSame 18 = .ok (.getfield 12, 3) := by decide +kernel
theorem dX3_isSame_21 : decode cX3_isSame 21 = .ok (.getfield 49, 3) := by decide +kernel
theorem dX3_isSame_24 : decode cX3_isSame 24 = .ok (.iload_n 1, 1) := by decide +kernel
theorem dX3_isSame_25 : decode cX3_isSame 25 = .ok (.iaload, 1) := by decide +kernel
theorem dX3_isSame_26 : decode cX3_isSame 26 = .ok (.istore 4, 2) := by decide +kernel
theorem dX3_isSame_28 : decode cX3_isSame 28 = .ok (.aload_n 2, 1) := by decide +kernel
theorem dX3_isSame_29 : decode cX3_isSame 29 = .ok (.getfield 49, 3) := by decide +kernel
theorem dX3_isSame_32 : decode cX3_isSame 32 = .ok (.iload_n 3, 1) := by decide +kernel
theorem dX3_isSame_33 : decode cX3_isSame 33 = .ok (.iaload, 1) := by decide +kernel
theorem dX3_isSame_34 : decode cX3_isSame 34 = .ok (.istore 5, 2) := by decide +kernel
theorem dX3_isSame_36 : decode cX3_isSame 36 = .ok (.aload_n 2, 1) := by decide +kernel
theorem dX3_isSame_37 : decode cX3_isSame 37 = .ok (.iload_n 3, 1) := by decide +kernel
theorem dX3_isSame_38 : decode cX3_isSame 38 = .ok (.invokevirtual 52, 3) := by decide +kernel
theorem dX3_isSame_41 : decode cX3_isSame 41 = .ok (.iload 5, 2) := by decide +kernel
theorem dX3_isSame_43 : decode cX3_isSame 43 = .ok (.isub, 1) := by decide +kernel
theorem dX3_isSame_44 : decode cX3_isSame 44 = .ok (.istore 6, 2) := by decide +kernel
theorem dX3_isSame_46 : decode cX3_isSame 46 = .ok (.aload_n 0, 1) := by decide +kernel
theorem dX3_isSame_47 : decode cX3_isSame 47 = .ok (.getfield 12, 3) := by decide +kernel
theorem dX3_isSame_50 : decode cX3_isSame 50 = .ok (.iload_n 1, 1) := by decide +kernel
theorem dX3_isSame_51 : decode cX3_isSame 51 = .ok (.invokevirtual 52, 3) := by decide +kernel
theorem dX3_isSame_54 : decode cX3_isSame 54 = .ok (.iload 4, 2) := by decide +kernel
theorem dX3_isSame_56 : decode cX3_isSame 56 = .ok (.isub, 1) := by decide +kernel
theorem dX3_isSame_57 : decode cX3_isSame 57 = .ok (.iload 6, 2) := by decide +kernel
theorem dX3_isSame_59 : decode cX3_isSame 59 = .ok (.if_icmp .ne 7, 3) := by decide +kernel
theorem dX3_isSame_62 : decode cX3_isSame 62 = .ok (.iconst 1, 1) := by decide +kernel
theorem dX3_isSame_63 : decode cX3_isSame 63 = .ok (.goto 4, 3) := by decide +kernel
theorem dX3_isSame_66 : decode cX3_isSame 66 = .ok (.iconst 0, 1) := by decide +kernel
theorem dX3_isSame_67 : decode cX3_isSame 67 = .ok (.istore 7, 2) := by decide +kernel
theorem dX3_isSame_69 : decode cX3_isSame 69 = .ok (.iconst 0, 1) := by decide +kernel
theorem dX3_isSame_70 : decode cX3_isSame 70 = .ok (.istore 8, 2) := by decide +kernel
theorem dX3_isSame_72 : decode cX3_isSame 72 = .ok (.iload 7, 2) := by decide +kernel
theorem dX3_isSame_74 : decode cX3_isSame 74 = .ok (.ifCond .eq 49, 3) := by decide +kernel
theorem dX3_isSame_77 : decode cX3_isSame 77 = .ok (.iload 8, 2) := by decide +kernel
theorem dX3_isSame_79 : decode cX3_isSame 79 = .ok (.iload 6, 2) := by decide +kernel
theorem dX3_isSame_81 : decode cX3_isSame 81 = .ok (.if_icmp .ge 42, 3) := by decide +kernel
theorem dX3_isSame_84 : decode cX3_isSame 84 = .ok (.aload_n 0, 1) := by decide +kernel
theorem dX3_isSame_85 : decode cX3_isSame 85 = .ok (.getfield 12, 3) := by decide +kernel
theorem dX3_isSame_88 : decode cX3_isSame 88 = .ok (.getfield 59, 3) := by decide +kernel
theorem dX3_isSame_91 : decode cX3_isSame 91 = .ok (.iload 4, 2) := by decide +kernel
theorem dX3_isSame_93 : decode cX3_isSame 93 = .ok (.iload 8, 2) := by decide +kernel
theorem dX3_isSame_95 : decode cX3_isSame 95 = .ok (.iadd, 1) := by decide +kernel
theorem dX3_isSame_96 : decode cX3_isSame 96 = .ok (.baload, 1) := by decide +kernel
theorem dX3_isSame_97 : decode cX3_isSame 97 = .ok (.aload_n 2, 1) := by decide +kernel
theorem dX3_isSame_98 : decode cX3_isSame 98 = .ok (.getfield 59, 3) := by decide +kernel
theorem dX3_isSame_101 : decode cX3_isSame 101 = .ok (.iload 5, 2) := by decide +kernel
theorem dX3_isSame_103 : decode cX3_isSame 103 = .ok (.iload 8, 2) := by decide +kernel
theorem dX3_isSame_105 : decode cX3_isSame 105 = .ok (.iadd, 1) := by decide +kernel
theorem dX3_isSame_106 : decode cX3_isSame 106 = .ok (.baload, 1) := by decide +kernel
theorem dX3_isSame_107 : decode cX3_isSame 107 = .ok (.if_icmp .ne 7, 3) := by decide +kernel
theorem dX3_isSame_110 : decode cX3_isSame 110 = .ok (.iconst 1, 1) := by decide +kernel
theorem dX3_isSame_111 : decode cX3_isSame 111 = .ok (.goto 4, 3) := by decide +kernel
theorem dX3_isSame_114 : decode cX3_isSame 114 = .ok (.iconst 0, 1) := by decide +kernel
theorem dX3_isSame_115 : decode cX3_isSame 115 = .ok (.istore 7, 2) := by decide +kernel
theorem dX3_isSame_117 : decode cX3_isSame 117 = .ok (.iinc 8 1, 3) := by decide +kernel
theorem dX3_isSame_120 : decode cX3_isSame 120 = .ok (.goto (-48), 3) := by decide +kernel
theorem dX3_isSame_123 : decode cX3_isSame 123 = .ok (.iload 7, 2) := by decide +kernel
theorem dX3_isSame_125 : decode cX3_isSame 125 = .ok (.ireturn, 1) := by decide +kernel
theorem dX4_init_0 : decode cX4_init 0 = .ok (.aload_n 0, 1) := by decide +kernel
theorem dX4_init_1 : decode cX4_init 1 = .ok (.invokespecial 3, 3) := by decide +kernel
theorem dX4_init_4 : decode cX4_init 4 = .ok (.aload_n 0, 1) := by decide +kernel
theorem dX4_init_5 : decode cX4_init 5 = .ok (.sipush 150, 3) := by decide +kernel
theorem dX4_init_8 : decode cX4_init 8 = .ok (.anewarray 9, 3) := by decide +kernel
theorem dX4_init_11 : decode cX4_init 11 = .ok (.putfield 11, 3) := by decide +kernel
theorem dX4_init_14 : decode cX4_init 14 = .ok (.aload_n 0, 1) := by decide +kernel
theorem dX4_init_15 : decode cX4_init 15 = .ok (.iconst 0, 1) := by decide +kernel
theorem dX4_init_16 : decode cX4_init 16 = .ok (.putfield 17, 3) := by decide +kernel
theorem dX4_init_19 : decode cX4_init 19 = .ok (.aload_n 0, 1) := by decide +kernel
theorem dX4_init_20 : decode cX4_init 20 = .ok (.new 9, 3) := by decide +kernel
theorem dX4_init_23 : decode cX4_init 23 = .ok (.dup, 1) := by decide +kernel
theorem dX4_init_24 : decode cX4_init 24 = .ok (.invokespecial 21, 3) := by decide +kernel
theorem dX4_init_27 : decode cX4_init 27 = .ok (.putfield 22, 3) := by decide +kernel
theorem dX4_init_30 : decode cX4_init 30 = .ok (.aload_n 0, 1) := by decide +kernel
theorem dX4_init_31 : decode cX4_init 31 = .ok (.iconst 0, 1) := by decide +kernel
theorem dX4_init_32 : decode cX4_init 32 = .ok (.putfield 26, 3) := by decide +kernel
theorem dX4_init_35 : decode cX4_init 35 = .ok (.aload_n 0, 1) := by decide +kernel
theorem dX4_init_36 : decode cX4_init 36 = .ok (.iconst 0, 1) := by decide +kernel
theorem dX4_init_37 : decode cX4_init 37 = .ok (.putfield 30, 3) := by decide +kernel
theorem dX4_init_40 : decode cX4_init 40 = .ok (.iconst 0, 1) := by decide +kernel
theorem dX4_init_41 : decode cX4_init 41 = .ok (.istore_n 1, 1) := by decide +kernel
theorem dX4_init_42 : decode cX4_init 42 = .ok (.iload_n 1, 1) := by decide +kernel
theorem dX4_init_43 : decode cX4_init 43 = .ok (.sipush 150, 3) := by decide +kernel
theorem dX4_init_46 : decode cX4_init 46 = .ok (.if_icmp .ge 22, 3) := by decide +kernel
theorem dX4_init_49 : decode cX4_init 49 = .ok (.aload_n 0, 1) := by decide +kernel
theorem dX4_init_50 : decode cX4_init 50 = .ok (.getfield 11, 3) := by decide +kernel
theorem dX4_init_53 : decode cX4_init 53 = .ok (.iload_n 1, 1) := by decide +kernel
theorem dX4_init_54 : decode cX4_init 54 = .ok (.new 9, 3) := by decide +kernel
theorem dX4_init_57 : decode cX4_init 57 = .ok (.dup, 1) := by decide +kernel
theorem dX4_init_58 : decode cX4_init 58 = .ok (.invokespecial 21, 3) := by decide +kernel
theorem dX4_init_61 : decode cX4_init 61 = .ok (.aastore, 1) := by decide +kernel
theorem dX4_init_62 : decode cX4_init 62 = .ok (.iinc 1 1, 3) := by decide +kernel
theorem dX4_init_65 : decode cX4_init 65 = .ok (.goto (-23), 3) := by decide +kernel
theorem dX4_init_68 : decode cX4_init 68 = .ok (.return_, 1) := by decide +kernel
theorem dX4_closeGroup_0 : decode cX4_closeGroup 0 = .ok (.aload_n 0, 1) := by decide +kernel
theorem dX4_closeGroup_1 : decode cX4_closeGroup 1 = .ok (.iconst 0, 1) := by decide +kernel
theorem dX4_closeGroup_2 : decode cX4_closeGroup 2 = .ok (.putfield 26, 3) := by decide +kernel
theorem dX4_closeGroup_5 : decode cX4_closeGroup 5 = .ok (.aload_n 0, 1) := by decide +kernel
theorem dX4_closeGroup_6 : decode cX4_closeGroup 6 = .ok (.iconst 0, 1) := by decide +kernel
theorem dX4_closeGroup_7 : decode cX4_closeGroup 7 = .ok (.putfield 30, 3) := by decide +kernel
theorem dX4_closeGroup_10 : decode cX4_closeGroup 10 = .ok (.return_, 1) := by decide +kernel
theorem dX4_hasRoom_0 : decode cX4_hasRoom 0 = .ok (.aload_n 0, 1) := by decide +kernel
theorem dX4_hasRoom_1 : decode cX4_hasRoom 1 = .ok (.getfield 30, 3) := by decide +kernel
theorem dX4_hasRoom_4 : decode cX4_hasRoom 4 = .ok (.ifCond .ne 13, 3) := by decide +kernel
theorem dX4_hasRoom_7 : decode cX4_hasRoom 7 = .ok (.aload_n 0, 1) := by decide +kernel
theorem dX4_hasRoom_8 : decode cX4_hasRoom 8 = .ok (.getfield 17, 3) := by decide +kernel
theorem dX4_hasRoom_11 : decode cX4_hasRoom 11 = .ok (.sipush 150, 3) := by decide +kernel
theorem dX4_hasRoom_14 : decode cX4_hasRoom 14 = .ok (.if_icmp .ge 7, 3) := by decide +kernel
theorem dX4_hasRoom_17 : decode cX4_hasRoom 17 = .ok (.iconst 1, 1) := by decide +kernel
theorem dX4_hasRoom_18 : decode cX4_hasRoom 18 = .ok (.goto 4, 3) := by decide +kernel
theorem dX4_hasRoom_21 : decode cX4_hasRoom 21 = .ok (.iconst 0, 1) := by decide +kernel
theorem dX4_hasRoom_22 : decode cX4_hasRoom 22 = .ok (.ireturn, 1) := by decide +kernel
theorem dX4_keepAct_0 : decode cX4_keepAct 0 = .ok (.aload_n 0, 1) := by decide +kernel
theorem dX4_keepAct_1 : decode cX4_keepAct 1 = .ok (.getfield 17, 3) := by decide +kernel
theorem dX4_keepAct_4 : decode cX4_keepAct 4 = .ok (.sipush 150, 3) := by decide +kernel
theorem dX4_keepAct_7 : decode cX4_keepAct 7 = .ok (.if_icmp .ge 15, 3) := by decide +kernel
theorem dX4_keepAct_10 : decode cX4_keepAct 10 = .ok (.aload_n 0, 1) := by decide +kernel
theorem dX4_keepAct_11 : decode cX4_keepAct 11 = .ok (.getfield 11, 3) := by decide +kernel
theorem dX4_keepAct_14 : decode cX4_keepAct 14 = .ok (.aload_n 0, 1) := by decide +kernel
theorem dX4_keepAct_15 : decode cX4_keepAct 15 = .ok (.getfield 17, 3) := by decide +kernel
theorem dX4_keepAct_18 : decode cX4_keepAct 18 = .ok (.aaload, 1) := by decide +kernel
theorem dX4_keepAct_19 : decode cX4_keepAct 19 = .ok (.goto 4, 3) := by decide +kernel
theorem dX4_keepAct_22 : decode cX4_keepAct 22 = .ok (.aconst_null, 1) := by decide +kernel
theorem dX4_keepAct_23 : decode cX4_keepAct 23 = .ok (.astore_n 2, 1) := by decide +kernel
theorem dX4_keepAct_24 : decode cX4_keepAct 24 = .ok (.aload_n 0, 1) := by decide +kernel
theorem dX4_keepAct_25 : decode cX4_keepAct 25 = .ok (.getfield 30, 3) := by decide +kernel
theorem dX4_keepAct_28 : decode cX4_keepAct 28 = .ok (.ifCond .ne 7, 3) := by decide +kernel
theorem dX4_keepAct_31 : decode cX4_keepAct 31 = .ok (.aload_n 2, 1) := by decide +kernel
theorem dX4_keepAct_32 : decode cX4_keepAct 32 = .ok (.ifnonnull 4, 3) := by decide +kernel
theorem dX4_keepAct_35 : decode cX4_keepAct 35 = .ok (.return_, 1) := by decide +kernel
theorem dX4_keepAct_36 : decode cX4_keepAct 36 = .ok (.aload_n 2, 1) := by decide +kernel
theorem dX4_keepAct_37 : decode cX4_keepAct 37 = .ok (.getfield 33, 3) := by decide +kernel
theorem dX4_keepAct_40 : decode cX4_keepAct 40 = .ok (.aload_n 1, 1) := by decide +kernel
theorem dX4_keepAct_41 : decode cX4_keepAct 41 = .ok (.invokevirtual 37, 3) := by decide +kernel
theorem dX4_keepAct_44 : decode cX4_keepAct 44 = .ok (.aload_n 2, 1) := by decide +kernel
theorem dX4_keepAct_45 : decode cX4_keepAct 45 = .ok (.aload_n 0, 1) := by decide +kernel
theorem dX4_keepAct_46 : decode cX4_keepAct 46 = .ok (.getfield 22, 3) := by decide +kernel
theorem dX4_keepAct_49 : decode cX4_keepAct 49 = .ok (.putfield 43, 3) := by decide +kernel
theorem dX4_keepAct_52 : decode cX4_keepAct 52 = .ok (.aload_n 0, 1) := by decide +kernel
theorem dX4_keepAct_53 : decode cX4_keepAct 53 = .ok (.getfield 22, 3) := by decide +kernel
theorem dX4_keepAct_56 : decode cX4_keepAct 56 = .ok (.aload_n 2, 1) := by decide +kernel
theorem dX4_keepAct_57 : decode cX4_keepAct 57 = .ok (.putfield 46, 3) := by decide +kernel
theorem dX4_keepAct_60 : decode cX4_keepAct 60 = .ok (.aload_n 0, 1) := by decide +kernel
theorem dX4_keepAct_61 : decode cX4_keepAct 61 = .ok (.aload_n 2, 1) := by decide +kernel
theorem dX4_keepAct_62 : decode cX4_keepAct 62 = .ok (.putfield 22, 3) := by decide +kernel
theorem dX4_keepAct_65 : decode cX4_keepAct 65 = .ok (.aload_n 0, 1) := by decide +kernel
theorem dX4_keepAct_66 : decode cX4_keepAct 66 = .ok (.dup, 1) := by decide +kernel
theorem dX4_keepAct_67 : decode cX4_keepAct 67 = .ok (.getfield 17, 3) := by decide +kernel
theorem dX4_keepAct_70 : decode cX4_keepAct 70 = .ok (.iconst 1, 1) := by decide +kernel
theorem dX4_keepAct_71 : decode cX4_keepAct 71 = .ok (.iadd, 1) := by decide +kernel
theorem dX4_keepAct_72 : decode cX4_keepAct 72 = .ok (.putfield 17, 3) := by decide +kernel
theorem dX4_keepAct_75 : decode cX4_keepAct 75 = .ok (.aload_n 0, 1) := by decide +kernel
theorem dX4_keepAct_76 : decode cX4_keepAct 76 = .ok (.aload_n 0, 1) := by decide +kernel
theorem dX4_keepAct_77 : decode cX4_keepAct 77 = .ok (.getfield 26, 3) := by decide +kernel
theorem dX4_keepAct_80 : decode cX4_keepAct 80 = .ok (.putfield 30, 3) := by decide +kernel
theorem dX4_keepAct_83 : decode cX4_keepAct 83 = .ok (.return_, 1) := by decide +kernel
theorem dX4_goBack_0 : decode cX4_goBack 0 = .ok (.iconst 0, 1) := by decide +kernel
theorem dX4_goBack_1 : decode cX4_goBack 1 = .ok (.istore_n 3, 1) := by decide +kernel
theorem dX4_goBack_2 : decode cX4_goBack 2 = .ok (.aload_n 0, 1) := by decide +kernel
theorem dX4_goBack_3 : decode cX4_goBack 3 = .ok (.getfield 22, 3) := by decide +kernel
theorem dX4_goBack_6 : decode cX4_goBack 6 = .ok (.getfield 49, 3) := by decide +kernel
theorem dX4_goBack_9 : decode cX4_goBack 9 = .ok (.aload_n 1, 1) := by decide +kernel
theorem dX4_goBack_10 : decode cX4_goBack 10 = .ok (.invokevirtual 37, 3) := by decide +kernel
theorem dX4_goBack_13 : decode cX4_goBack 13 = .ok (.aload_n 0, 1) := by decide +kernel
theorem dX4_goBack_14 : decode cX4_goBack 14 = .ok (.getfield 22, 3) := by decide +kernel
theorem dX4_goBack_17 : decode cX4_goBack 17 = .ok (.getfield 43, 3) := by decide +kernel
theorem dX4_goBack_20 : decode cX4_goBack 20 = .ok (.astore 4, 2) := by decide +kernel
theorem dX4_goBack_22 : decode cX4_goBack 22 = .ok (.iload_n 3, 1) := by decide +kernel
theorem dX4_goBack_23 : decode cX4_goBack 23 = .ok (.iload_n 2, 1) := by decide +kernel
theorem dX4_goBack_24 : decode cX4_goBack 24 = .ok (.if_icmp .ge 44, 3) := by decide +kernel
theorem dX4_goBack_27 : decode cX4_goBack 27 = .ok (.aload 4, 2) := by decide +kernel
theorem dX4_goBack_29 : decode cX4_goBack 29 = .ok (.ifnull 39, 3) := by decide +kernel
theorem dX4_goBack_32 : decode cX4_goBack 32 = .ok (.aload 4, 2) := by decide +kernel
theorem dX4_goBack_34 : decode cX4_goBack 34 = .ok (.getfield 49, 3) := by decide +kernel
theorem dX4_goBack_37 : decode cX4_goBack 37 = .ok (.aload_n 0, 1) := by decide +kernel
theorem dX4_goBack_38 : decode cX4_goBack 38 = .ok (.getfield 22, 3) := by decide +kernel
theorem dX4_goBack_41 : decode cX4_goBack 41 = .ok (.getfield 33, 3) := by decide +kernel
theorem dX4_goBack_44 : decode cX4_goBack 44 = .ok (.invokevirtual 52, 3) := by decide +kernel
theorem dX4_goBack_47 : decode cX4_goBack 47 = .ok (.aload_n 0, 1) := by decide +kernel
theorem dX4_goBack_48 : decode cX4_goBack 48 = .ok (.aload 4, 2) := by decide +kernel
theorem dX4_goBack_50 : decode cX4_goBack 50 = .ok (.putfield 22, 3) := by decide +kernel
theorem dX4_goBack_53 : decode cX4_goBack 53 = .ok (.aload_n 0, 1) := by decide +kernel
theorem dX4_goBack_54 : decode cX4_goBack 54 = .ok (.getfield 22, 3) := by decide +kernel
theorem dX4_goBack_57 : decode cX4_goBack 57 = .ok (.getfield 43, 3) := by decide +kernel
theorem dX4_goBack_60 : decode cX4_goBack 60 = .ok (.astore 4, 2) := by decide +kernel
theorem dX4_goBack_62 : decode cX4_goBack 62 = .ok (.iinc 3 1, 3) := by decide +kernel
theorem dX4_goBack_65 : decode cX4_goBack 65 = .ok (.goto (-43), 3) := by decide +kernel
theorem dX4_goBack_68 : decode cX4_goBack 68 = .ok (.aload_n 0, 1) := by decide +kernel
theorem dX4_goBack_69 : decode cX4_goBack 69 = .ok (.getfield 22, 3) := by decide +kernel
theorem dX4_goBack_72 : decode cX4_goBack 72 = .ok (.getfield 49, 3) := by decide +kernel
theorem dX4_goBack_75 : decode cX4_goBack 75 = .ok (.aload_n 1, 1) := by decide +kernel
theorem dX4_goBack_76 : decode cX4_goBack 76 = .ok (.invokevirtual 56, 3) := by decide +kernel
theorem dX4_goBack_79 : decode cX4_goBack 79 = .ok (.iload_n 3, 1) := by decide +kernel
theorem dX4_goBack_80 : decode cX4_goBack 80 = .ok (.ireturn, 1) := by decide +kernel
theorem dX4_goOn_0 : decode cX4_goOn 0 = .ok (.iconst 0, 1) := by decide +kernel
theorem dX4_goOn_1 : decode cX4_goOn 1 = .ok (.istore_n 3, 1) := by decide +kernel
theorem dX4_goOn_2 : decode cX4_goOn 2 = .ok (.aload_n 0, 1) := by decide +kernel
theorem dX4_goOn_3 : decode cX4_goOn 3 = .ok (.getfield 22, 3) := by decide +kernel
theorem dX4_goOn_6 : decode cX4_goOn 6 = .ok (.getfield 46, 3) := by decide +kernel
theorem dX4_goOn_9 : decode cX4_goOn 9 = .ok (.astore 4, 2) := by decide +kernel
theorem dX4_goOn_11 : decode cX4_goOn 11 = .ok (.iload_n 3, 1) := by decide +kernel
theorem dX4_goOn_12 : decode cX4_goOn 12 = .ok (.iload_n 2, 1) := by decide +kernel
theorem dX4_goOn_13 : decode cX4_goOn 13 = .ok (.if_icmp .ge 29, 3) := by decide +kernel
theorem dX4_goOn_16 : decode cX4_goOn 16 = .ok (.aload 4, 2) := by decide +kernel
theorem dX4_goOn_18 : decode cX4_goOn 18 = .ok (.ifnull 24, 3) := by decide +kernel
theorem dX4_goOn_21 : decode cX4_goOn 21 = .ok (.aload_n 0, 1) := by decide +kernel
theorem dX4_goOn_22 : decode cX4_goOn 22 = .ok (.aload 4, 2) := by decide +kernel
theorem dX4_goOn_24 : decode cX4_goOn 24 = .ok (.putfield 22, 3) := by decide +kernel
theorem dX4_goOn_27 : decode cX4_goOn 27 = .ok (.aload_n 0, 1) := by decide +kernel
theorem dX4_goOn_28 : decode cX4_goOn 28 = .ok (.getfield 22, 3) := by decide +kernel
theorem dX4_goOn_31 : decode cX4_goOn 31 = .ok (.getfield 46, 3) := by decide +kernel
theorem dX4_goOn_34 : decode cX4_goOn 34 = .ok (.astore 4, 2) := by decide +kernel
theorem dX4_goOn_36 : decode cX4_goOn 36 = .ok (.iinc 3 1, 3) := by decide +kernel
theorem dX4_goOn_39 : decode cX4_goOn 39 = .ok (.goto (-28), 3) := by decide +kernel
theorem dX4_goOn_42 : decode cX4_goOn 42 = .ok (.iload_n 3, 1) := by decide +kernel
theorem dX4_goOn_43 : decode cX4_goOn 43 = .ok (.ifCond .le 14, 3) := by decide +kernel
theorem dX4_goOn_46 : decode cX4_goOn 46 = .ok (.aload_n 0, 1) := by decide +kernel
theorem dX4_goOn_47 : decode cX4_goOn 47 = .ok (.getfield 22, 3) := by decide +kernel
theorem dX4_goOn_50 : decode cX4_goOn 50 = .ok (.getfield 49, 3) := by decide +kernel
theorem dX4_goOn_53 : decode cX4_goOn 53 = .ok (.aload_n 1, 1) := by decide +kernel
theorem dX4_goOn_54 : decode cX4_goOn 54 = .ok (.invokevirtual 56, 3) := by decide +kernel
theorem dX4_goOn_57 : decode cX4_goOn 57 = .ok (.iload_n 3, 1) := by decide +kernel
theorem dX4_goOn_58 : decode cX4_goOn 58 = .ok (.ireturn, 1) := by decide +kernel
theorem dX4_countBehind_0 : decode cX4_countBehind 0 = .ok (.iconst 0, 1) := by decide +kernel
theorem dX4_countBehind_1 : decode cX4_countBehind 1 = .ok (.istore_n 1, 1) := by decide +kernel
theorem dX4_countBehind_2 : decode cX4_countBehind 2 = .ok (.aload_n 0, 1) := by decide +kernel
theorem dX4_countBehind_3 : decode cX4_countBehind 3 = .ok (.getfield 22, 3) := by decide +kernel
theorem dX4_countBehind_6 : decode cX4_countBehind 6 = .ok (.getfield 43, 3) := by decide +kernel
theorem dX4_countBehind_9 : decode cX4_countBehind 9 = .ok (.astore_n 2, 1) := by decide +kernel
theorem dX4_countBehind_10 : decode cX4_countBehind 10 = .ok (.aload_n 2, 1) := by decide +kernel
theorem dX4_countBehind_11 : decode cX4_countBehind 11 = .ok (.ifnull 14, 3) := by decide +kernel
theorem dX4_countBehind_14 : decode cX4_countBehind 14 = .ok (.iinc 1 1, 3) := by decide +kernel
theorem dX4_countBehind_17 : decode cX4_countBehind 17 = .ok (.aload_n 2, 1) := by decide +kernel
theorem dX4_countBehind_18 : decode cX4_countBehind 18 = .ok (.getfield 43, 3) := by decide +kernel
theorem dX4_countBehind_21 : decode cX4_countBehind 21 = .ok (.astore_n 2, 1) := by decide +kernel
theorem dX4_countBehind_22 : decode cX4_countBehind 22 = .ok (.goto (-12), 3) := by decide +kernel
theorem dX4_countBehind_25 : decode cX4_countBehind 25 = .ok (.iload_n 1, 1) := by decide +kernel
theorem dX4_countBehind_26 : decode cX4_countBehind 26 = .ok (.ireturn, 1) := by decide +kernel
theorem dX4_countAhead_0 : decode cX4_countAhead 0 = .ok (.iconst 0, 1) := by decide +kernel
theorem dX4_countAhead_1 : decode cX4_countAhead 1 = .ok (.istore_n 1, 1) := by decide +kernel
theorem dX4_countAhead_2 : decode cX4_countAhead 2 = .ok (.aload_n 0, 1) := by decide +kernel
theorem dX4_countAhead_3 : decode cX4_countAhead 3 = .ok (.getfield 22, 3) := by decide +kernel
theorem dX4_countAhead_6 : decode cX4_countAhead 6 = .ok (.getfield 46, 3) := by decide +kernel
theorem dX4_countAhead_9 : decode cX4_countAhead 9 = .ok (.astore_n 2, 1) := by decide +kernel
theorem dX4_countAhead_10 : decode cX4_countAhead 10 = .ok (.aload_n 2, 1) := by decide +kernel
theorem dX4_countAhead_11 : decode cX4_countAhead 11 = .ok (.ifnull 14, 3) := by decide +kernel
theorem dX4_countAhead_14 : decode cX4_countAhead 14 = .ok (.iinc 1 1, 3) := by decide +kernel
theorem dX4_countAhead_17 : decode cX4_countAhead 17 = .ok (.aload_n 2, 1) := by decide +kernel
theorem dX4_countAhead_18 : decode cX4_countAhead 18 = .ok (.getfield 46, 3) := by decide +kernel
theorem dX4_countAhead_21 : decode cX4_countAhead 21 = .ok (.astore_n 2, 1) := by decide +kernel
theorem dX4_countAhead_22 : decode cX4_countAhead 22 = .ok (.goto (-12), 3) := by decide +kernel
theorem dX4_countAhead_25 : decode cX4_countAhead 25 = .ok (.iload_n 1, 1) := by decide +kernel
theorem dX4_countAhead_26 : decode cX4_countAhead 26 = .ok (.ireturn, 1) := by decide +kernel
theorem dX4_countContinuations_0 : decode cX4_countContinuations 0 = .ok (.iconst 0, 1) := by decide +kernel
theorem dX4_countContinuations_1 : decode cX4_countContinuations 1 = .ok (.istore_n 1, 1) := by decide +kernel
theorem dX4_countContinuations_2 : decode cX4_countContinuations 2 = .ok (.iconst 0, 1) := by decide +kernel
theorem dX4_countContinuations_3 : decode cX4_countContinuations 3 = .ok (.istore_n 2, 1) := by decide +kernel
theorem dX4_countContinuations_4 : decode cX4_countContinuations 4 = .ok (.iload_n 2, 1) := by decide +kernel
theorem dX4_countContinuations_5 : decode cX4_countContinuations 5 = .ok (.aload_n 0, 1) := by decide +kernel
theorem dX4_countContinuations_6 : decode cX4_countContinuations 6 = .ok (.getfield 17, 3) := by decide +kernel
theorem dX4_countContinuations_9 : decode cX4_countContinuations 9 = .ok (.if_icmp .ge 42, 3) := by decide +kernel
theorem dX4_countContinuations_12 : decode cX4_countContinuations 12 = .ok (.iload_n 1, 1) := by decide +kernel
theorem dX4_countContinuations_13 : decode cX4_countContinuations 13 = .ok (.aload_n 0, 1) := by decide +kernel
theorem dX4_countContinuations_14 : decode cX4_countContinuations 14 = .ok (.getfield 11, 3) := by decide +kernel
theorem dX4_countContinuations_17 : decode cX4_countContinuations 17 = .ok (.iload_n 2, 1) := by decide +kernel
theorem dX4_countContinuations_18 : decode cX4_countContinuations 18 = .ok (.aaload, 1) := by decide +kernel
theorem dX4_countContinuations_19 : decode cX4_countContinuations 19 = .ok (.ifnull 23, 3) := by decide +kernel
theorem dX4_countContinuations_22 : decode cX4_countContinuations 22 = .ok (.aload_n 0, 1) := by decide +kernel
theorem dX4_countContinuations_23 : decode cX4_countContinuations 23 = .ok (.getfield 11, 3) := by decide +kernel
theorem dX4_countContinuations_26 : decode cX4_countContinuations 26 = .ok (.iload_n 2, 1) := by decide +kernel
theorem dX4_countContinuations_27 : decode cX4_countContinuations 27 = .ok (.aaload, 1) := by decide +kernel
theorem dX4_countContinuations_28 : decode cX4_countContinuations 28 = .ok (.getfield 43, 3) := by decide +kernel
theorem dX4_countContinuations_31 : decode cX4_countContinuations 31 = .ok (.aload_n 0, 1) := by decide +kernel
theorem dX4_countContinuations_32 : decode cX4_countContinuations 32 = .ok (.getfield 22, 3) := by decide +kernel
theorem dX4_countContinuations_35 : decode cX4_countContinuations 35 = .ok (.if_acmp .ne 7, 3) := by decide +kernel
theorem dX4_countContinuations_38 : decode cX4_countContinuations 38 = .ok (.iconst 1, 1) := by decide +kernel
theorem dX4_countContinuations_39 : decode cX4_countContinuations 39 = .ok (.goto 4, 3) := by decide +kernel
theorem dX4_countContinuations_42 : decode cX4_countContinuations 42 = .ok (.iconst 0, 1) := by decide +kernel
theorem dX4_countContinuations_43 : decode cX4_countContinuations 43 = .ok (.iadd, 1) := by decide +kernel
theorem dX4_countContinuations_44 : decode cX4_countContinuations 44 = .ok (.istore_n 1, 1) := by decide +kernel
theorem dX4_countContinuations_45 : decode cX4_countContinuations 45 = .ok (.iinc 2 1, 3) := by decide +kernel
theorem dX4_countContinuations_48 : decode cX4_countContinuations 48 = .ok (.goto (-44), 3) := by decide +kernel
theorem dX4_countContinuations_51 : decode cX4_countContinuations 51 = .ok (.iload_n 1, 1) := by decide +kernel
theorem dX4_countContinuations_52 : decode cX4_countContinuations 52 = .ok (.ireturn, 1) := by decide +kernel
theorem dX4_continuation_0 : decode cX4_continuation 0 = .ok (.iconst 0, 1) := by decide +kernel
theorem dX4_continuation_1 : decode cX4_continuation 1 = .ok (.istore_n 2, 1) := by decide +kernel
theorem dX4_continuation_2 : decode cX4_continuation 2 = .ok (.iconst 0, 1) := by decide +kernel
theorem dX4_continuation_3 : decode cX4_continuation 3 = .ok (.istore_n 3, 1) := by decide +kernel
theorem dX4_continuation_4 : decode cX4_continuation 4 = .ok (.iload_n 3, 1) := by decide +kernel
theorem dX4_continuation_5 : decode cX4_continuation 5 = .ok (.aload_n 0, 1) := by decide +kernel
theorem dX4_continuation_6 : decode cX4_continuation 6 = .ok (.getfield 17, 3) := by decide +kernel
theorem dX4_continuation_9 : decode cX4_continuation 9 = .ok (.if_icmp .ge 45, 3) := by decide +kernel
theorem dX4_continuation_12 : decode cX4_continuation 12 = .ok (.aload_n 0, 1) := by decide +kernel
theorem dX4_continuation_13 : decode cX4_continuation 13 = .ok (.getfield 11, 3) := by decide +kernel
theorem dX4_continuation_16 : decode cX4_continuation 16 = .ok (.iload_n 3, 1) := by decide +kernel
theorem dX4_continuation_17 : decode cX4_continuation 17 = .ok (.aaload, 1) := by decide +kernel
theorem dX4_continuation_18 : decode cX4_continuation 18 = .ok (.astore 4, 2) := by decide +kernel
theorem dX4_continuation_20 : decode cX4_continuation 20 = .ok (.aload 4, 2) := by decide +kernel
theorem dX4_continuation_22 : decode cX4_continuation 22 = .ok (.ifnull 26, 3) := by decide +kernel
theorem dX4_continuation_25 : decode cX4_continuation 25 = .ok (.aload 4, 2) := by decide +kernel
theorem dX4_continuation_27 : decode cX4_continuation 27 = .ok (.getfield 43, 3) := by decide +kernel
theorem dX4_continuation_30 : decode cX4_continuation 30 = .ok (.aload_n 0, 1) := by decide +kernel
theorem dX4_continuation_31 : decode cX4_continuation 31 = .ok (.getfield 22, 3) := by decide +kernel
theorem dX4_continuation_34 : decode cX4_continuation 34 = .ok (.if_acmp .ne 14, 3) := by decide +kernel
theorem dX4_continuation_37 : decode cX4_continuation 37 = .ok (.iload_n 2, 1) := by decide +kernel
theorem dX4_continuation_38 : decode cX4_continuation 38 = .ok (.iload_n 1, 1) := by decide +kernel
theorem dX4_continuation_39 : decode cX4_continuation 39 = .ok (.if_icmp .ne 6, 3) := by decide +kernel
theorem dX4_continuation_42 : decode cX4_continuation 42 = .ok (.aload 4, 2) := by decide +kernel
theorem dX4_continuation_44 : decode cX4_continuation 44 = .ok (.areturn, 1) := by decide +kernel
theorem dX4_continuation_45 : decode cX4_continuation 45 = .ok (.iinc 2 1, 3) := by decide +kernel
theorem dX4_continuation_48 : decode cX4_continuation 48 = .ok (.iinc 3 1, 3) := by decide +kernel
theorem dX4_continuation_51 : decode cX4_continuation 51 = .ok (.goto (-47), 3) := by decide +kernel
theorem dX4_continuation_54 : decode cX4_continuation 54 = .ok (.aconst_null, 1) := by decide +kernel
theorem dX4_continuation_55 : decode cX4_continuation 55 = .ok (.areturn, 1) := by decide +kernel
theorem dX5_init_0 : decode cX5_init 0 = .ok (.aload_n 0, 1) := by decide +kernel
theorem dX5_init_1 : decode cX5_init 1 = .ok (.invokespecial 3, 3) := by decide +kernel
theorem dX5_init_4 : decode cX5_init 4 = .ok (.aload_n 0, 1) := by decide +kernel
theorem dX5_init_5 : decode cX5_init 5 = .ok (.sipush 375, 3) := by decide +kernel
theorem dX5_init_8 : decode cX5_init 8 = .ok (.newarray .long, 2) := by decide +kernel
theorem dX5_init_10 : decode cX5_init 10 = .ok (.putfield 9, 3) := by decide +kernel
theorem dX5_init_13 : decode cX5_init 13 = .ok (.aload_n 0, 1) := by decide +kernel
theorem dX5_init_14 : decode cX5_init 14 = .ok (.iconst 0, 1) := by decide +kernel
theorem dX5_init_15 : decode cX5_init 15 = .ok (.putfield 15, 3) := by decide +kernel
theorem dX5_init_18 : decode cX5_init 18 = .ok (.aload_n 0, 1) := by decide +kernel
theorem dX5_init_19 : decode cX5_init 19 = .ok (.iconst 5, 1) := by decide +kernel
theorem dX5_init_20 : decode cX5_init 20 = .ok (.newarray .long, 2) := by decide +kernel
theorem dX5_init_22 : decode cX5_init 22 = .ok (.putfield 19, 3) := by decide +kernel
theorem dX5_init_25 : decode cX5_init 25 = .ok (.aload_n 0, 1) := by decide +kernel
theorem dX5_init_26 : decode cX5_init 26 = .ok (.bipush 8, 2) := by decide +kernel
theorem dX5_init_28 : decode cX5_init 28 = .ok (.newarray .int, 2) := by decide +kernel
theorem dX5_init_30 : decode cX5_init 30 = .ok (.putfield 22, 3) := by decide +kernel
theorem dX5_init_33 : decode cX5_init 33 = .ok (.aload_n 0, 1) := by decide +kernel
theorem dX5_init_34 : decode cX5_init 34 = .ok (.iconst 0, 1) := by decide +kernel
theorem dX5_init_35 : decode cX5_init 35 = .ok (.putfield 26, 3) := by decide +kernel
theorem dX5_init_38 : decode cX5_init 38 = .ok (.aload_n 0, 1) := by decide +kernel
theorem dX5_init_39 : decode cX5_init 39 = .ok (.bipush 16, 2) := by decide +kernel
theorem dX5_init_41 : decode cX5_init 41 = .ok (.newarray .int, 2) := by decide +kernel
theorem dX5_init_43 : decode cX5_init 43 = .ok (.putfield 29, 3) := by decide +kernel
theorem dX5_init_46 : decode cX5_init 46 = .ok (.aload_n 0, 1) := by decide +kernel
theorem dX5_init_47 : decode cX5_init 47 = .ok (.bipush 16, 2) := by decide +kernel
theorem dX5_init_49 : decode cX5_init 49 = .ok (.newarray .boolean, 2) := by decide +kernel
theorem dX5_init_51 : decode cX5_init 51 = .ok (.putfield 32, 3) := by decide +kernel
theorem dX5_init_54 : decode cX5_init 54 = .ok (.return_, 1) := by decide +kernel
theorem dX5_take_0 : decode cX5_take 0 = .ok (.aload_n 0, 1) := by decide +kernel
theorem dX5_take_1 : decode cX5_take 1 = .ok (.aload_n 1, 1) := by decide +kernel
theorem dX5_take_2 : decode cX5_take 2 = .ok (.getfield 36, 3) := by decide +kernel
theorem dX5_take_5 : decode cX5_take 5 = .ok (.putfield 15, 3) := by decide +kernel
theorem dX5_take_8 : decode cX5_take 8 = .ok (.iconst 0, 1) := by decide +kernel
theorem dX5_take_9 : decode cX5_take 9 = .ok (.istore_n 2, 1) := by decide +kernel
theorem dX5_take_10 : decode cX5_take 10 = .ok (.iload_n 2, 1) := by decide +kernel
theorem dX5_take_11 : decode cX5_take 11 = .ok (.aload_n 0, 1) := by decide +kernel
theorem dX5_take_12 : decode cX5_take 12 = .ok (.getfield 15, 3) := by decide +kernel
theorem dX5_take_15 : decode cX5_take 15 = .ok (.if_icmp .ge 56, 3) := by decide +kernel
theorem dX5_take_18 : decode cX5_take 18 = .ok (.iload_n 2, 1) := by decide +kernel
theorem dX5_take_19 : decode cX5_take 19 = .ok (.bipush 8, 2) := by decide +kernel
theorem dX5_take_21 : decode cX5_take 21 = .ok (.irem, 1) := by decide +kernel
theorem dX5_take_22 : decode cX5_take 22 = .ok (.ifCond .ne 7, 3) := by decide +kernel
theorem dX5_take_25 : decode cX5_take 25 = .ok (.lconst 0, 1) := by decide +kernel
theorem dX5_take_26 : decode cX5_take 26 = .ok (.goto 12, 3) := by decide +kernel
theorem dX5_take_29 : decode cX5_take 29 = .ok (.aload_n 0, 1) := by decide +kernel
theorem dX5_take_30 : decode cX5_take 30 = .ok (.getfield 9, 3) := by decide +kernel
theorem dX5_take_33 : decode cX5_take 33 = .ok (.iload_n 2, 1) := by decide +kernel
theorem dX5_take_34 : decode cX5_take 34 = .ok (.bipush 8, 2) := by decide +kernel
theorem dX5_take_36 : decode cX5_take 36 = .ok (.idiv, 1) := by decide +kernel
theorem dX5_take_37 : decode cX5_take 37 = .ok (.laload, 1) := by decide +kernel
theorem dX5_take_38 : decode cX5_take 38 = .ok (.lstore_n 3, 1) := by decide +kernel
theorem dX5_take_39 : decode cX5_take 39 = .ok (.aload_n 0, 1) := by decide +kernel
theorem dX5_take_40 : decode cX5_take 40 = .ok (.getfield 9, 3) := by decide +kernel
theorem dX5_take_43 : decode cX5_take 43 = .ok (.iload_n 2, 1) := by decide +kernel
theorem dX5_take_44 : decode cX5_take 44 = .ok (.bipush 8, 2) := by decide +kernel
theorem dX5_take_46 : decode cX5_take 46 = .ok (.idiv, 1) := by decide +kernel
theorem dX5_take_47 : decode cX5_take 47 = .ok (.lload_n 3, 1) := by decide +kernel
theorem dX5_take_48 : decode cX5_take 48 = .ok (.aload_n 1, 1) := by decide +kernel
theorem dX5_take_49 : decode cX5_take 49 = .ok (.getfield 39, 3) := by decide +kernel
theorem dX5_take_52 : decode cX5_take 52 = .ok (.iload_n 2, 1) := by decide +kernel
theorem dX5_take_53 : decode cX5_take 53 = .ok (.baload, 1) := by decide +kernel
theorem dX5_take_54 : decode cX5_take 54 = .ok (.i2l, 1) := by decide +kernel
theorem dX5_take_55 : decode cX5_take 55 = .ok (.iload_n 2, 1) := by decide +kernel
theorem dX5_take_56 : decode cX5_take 56 = .ok (.bipush 8, 2) := by decide +kernel
theorem dX5_take_58 : decode cX5_take 58 = .ok (.irem, 1) := by decide +kernel
theorem dX5_take_59 : decode cX5_take 59 = .ok (.bipush 8, 2) := by decide +kernel
theorem dX5_take_61 : decode cX5_take 61 = .ok (.imul, 1) := by decide +kernel
theorem dX5_take_62 : decode cX5_take 62 = .ok (.lshl, 1) := by decide +kernel
theorem dX5_take_63 : decode cX5_take 63 = .ok (.lor, 1) := by decide +kernel
theorem dX5_take_64 : decode cX5_take 64 = .ok (.lastore, 1) := by decide +kernel
theorem dX5_take_65 : decode cX5_take 65 = .ok (.iinc 2 1, 3) := by decide +kernel
theorem dX5_take_68 : decode cX5_take 68 = .ok (.goto (-58), 3) := by decide +kernel
theorem dX5_take_71 : decode cX5_take 71 = .ok (.iconst 0, 1) := by decide +kernel
theorem dX5_take_72 : decode cX5_take 72 = .ok (.istore_n 2, 1) := by decide +kernel
theorem dX5_take_73 : decode cX5_take 73 = .ok (.iload_n 2, 1) := by decide +kernel
theorem dX5_take_74 : decode cX5_take 74 = .ok (.aload_n 1, 1) := by decide +kernel
theorem dX5_take_75 : decode cX5_take 75 = .ok (.getfield 42, 3) := by decide +kernel
theorem dX5_take_78 : decode cX5_take 78 = .ok (.if_icmp .ge 60, 3) := by decide +kernel
theorem dX5_take_81 : decode cX5_take 81 = .ok (.iload_n 2, 1) := by decide +kernel
theorem dX5_take_82 : decode cX5_take 82 = .ok (.bipush 64, 2) := by decide +kernel
theorem dX5_take_84 : decode cX5_take 84 = .ok (.irem, 1) := by decide +kernel
theorem dX5_take_85 : decode cX5_take 85 = .ok (.ifCond .ne 7, 3) := by decide +kernel
theorem dX5_take_88 : decode cX5_take 88 = .ok (.lconst 0, 1) := by decide +kernel
theorem dX5_take_89 : decode cX5_take 89 = .ok (.goto 12, 3) := by decide +kernel
theorem dX5_take_92 : decode cX5_take 92 = .ok (.aload_n 0, 1) := by decide +kernel
theorem dX5_take_93 : decode cX5_take 93 = .ok (.getfield 19, 3) := by decide +kernel
theorem dX5_take_96 : decode cX5_take 96 = .ok (.iload_n 2, 1) := by decide +kernel
theorem dX5_take_97 : decode cX5_take 97 = .ok (.bipush 64, 2) := by decide +kernel
theorem dX5_take_99 : decode cX5_take 99 = .ok (.idiv, 1) := by decide +kernel
theorem dX5_take_100 : decode cX5_take 100 = .ok (.laload, 1) := by decide +kernel
theorem dX5_take_101 : decode cX5_take 101 = .ok (.lstore_n 3, 1) := by decide +kernel
theorem dX5_take_102 : decode cX5_take 102 = .ok (.aload_n 0, 1) := by decide +kernel
theorem dX5_take_103 : decode cX5_take 103 = .ok (.getfield 19, 3) := by decide +kernel
theorem dX5_take_106 : decode cX5_take 106 = .ok (.iload_n 2, 1) := by decide +kernel
theorem dX5_take_107 : decode cX5_take 107 = .ok (.bipush 64, 2) := by decide +kernel
theorem dX5_take_109 : decode cX5_take 109 = .ok (.idiv, 1) := by decide +kernel
theorem dX5_take_110 : decode cX5_take 110 = .ok (.lload_n 3, 1) := by decide +kernel
theorem dX5_take_111 : decode cX5_take 111 = .ok (.aload_n 1, 1) := by decide +kernel
theorem dX5_take_112 : decode cX5_take 112 = .ok (.getfield 45, 3) := by decide +kernel
theorem dX5_take_115 : decode cX5_take 115 = .ok (.iload_n 2, 1) := by decide +kernel
theorem dX5_take_116 : decode cX5_take 116 = .ok (.baload, 1) := by decide +kernel
theorem dX5_take_117 : decode cX5_take 117 = .ok (.ifCond .eq 7, 3) := by decide +kernel
theorem dX5_take_120 : decode cX5_take 120 = .ok (.lconst 1, 1) := by decide +kernel
theorem dX5_take_121 : decode cX5_take 121 = .ok (.goto 4, 3) := by decide +kernel
theorem dX5_take_124 : decode cX5_take 124 = .ok (.lconst 0, 1) := by decide +kernel
theorem dX5_take_125 : decode cX5_take 125 = .ok (.iload_n 2, 1) := by decide +kernel
theorem dX5_take_126 : decode cX5_take 126 = .ok (.bipush 64, 2) := by decide +kernel
theorem dX5_take_128 : decode cX5_take 128 = .ok (.irem, 1) := by decide +kernel
theorem dX5_take_129 : decode cX5_take 129 = .ok (.lshl, 1) := by decide +kernel
theorem dX5_take_130 : decode cX5_take 130 = .ok (.lor, 1) := by decide +kernel
theorem dX5_take_131 : decode cX5_take 131 = .ok (.lastore, 1) := by decide +kernel
theorem dX5_take_132 : decode cX5_take 132 = .ok (.iinc 2 1, 3) := by decide +kernel
theorem dX5_take_135 : decode cX5_take 135 = .ok (.goto (-62), 3) := by decide +kernel
theorem dX5_take_138 : decode cX5_take 138 = .ok (.aload_n 1, 1) := by decide +kernel
theorem dX5_take_139 : decode cX5_take 139 = .ok (.getfield 47, 3) := by decide +kernel
theorem dX5_take_142 : decode cX5_take 142 = .ok (.iconst 0, 1) := by decide +kernel
theorem dX5_take_143 : decode cX5_take 143 = .ok (.aload_n 0, 1) := by decide +kernel
theorem dX5_take_144 : decode cX5_take 144 = .ok (.getfield 22, 3) := by decide +kernel
theorem dX5_take_147 : decode cX5_take 147 = .ok (.iconst 0, 1) := by decide +kernel
theorem dX5_take_148 : decode cX5_take 148 = .ok (.bipush 8, 2) := by decide +kernel
theorem dX5_take_150 : decode cX5_take 150 = .ok (.invokestatic 48, 3) := by decide +kernel
theorem dX5_take_153 : decode cX5_take 153 = .ok (.aload_n 1, 1) := by decide +kernel
theorem dX5_take_154 : decode cX5_take 154 = .ok (.getfield 54, 3) := by decide +kernel
theorem dX5_take_157 : decode cX5_take 157 = .ok (.iconst 0, 1) := by decide +kernel
theorem dX5_take_158 : decode cX5_take 158 = .ok (.aload_n 0, 1) := by decide +kernel
theorem dX5_take_159 : decode cX5_take 159 = .ok (.getfield 29, 3) := by decide +kernel
theorem dX5_take_162 : decode cX5_take 162 = .ok (.iconst 0, 1) := by decide +kernel
theorem dX5_take_163 : decode cX5_take 163 = .ok (.bipush 16, 2) := by decide +kernel
theorem dX5_take_165 : decode cX5_take 165 = .ok (.invokestatic 48, 3) := by decide +kernel
theorem dX5_take_168 : decode cX5_take 168 = .ok (.aload_n 1, 1) := by decide +kernel
theorem dX5_take_169 : decode cX5_take 169 = .ok (.getfield 55, 3) := by decide +kernel
theorem dX5_take_172 : decode cX5_take 172 = .ok (.iconst 0, 1) := by decide +kernel
theorem dX5_take_173 : decode cX5_take 173 = .ok (.aload_n 0, 1) := by decide +kernel
theorem dX5_take_174 : decode cX5_take 174 = .ok (.getfield 32, 3) := by decide +kernel
theorem dX5_take_177 : decode cX5_take 177 = .ok (.iconst 0, 1) := by decide +kernel
theorem dX5_take_178 : decode cX5_take 178 = .ok (.bipush 16, 2) := by decide +kernel
theorem dX5_take_180 : decode cX5_take 180 = .ok (.invokestatic 48, 3) := by decide +kernel
theorem dX5_take_183 : decode cX5_take 183 = .ok (.aload_n 0, 1) := by decide +kernel
theorem dX5_take_184 : decode cX5_take 184 = .ok (.aload_n 1, 1) := by decide +kernel
theorem dX5_take_185 : decode cX5_take 185 = .ok (.getfield 56, 3) := by decide +kernel
theorem dX5_take_188 : decode cX5_take 188 = .ok (.putfield 26, 3) := by decide +kernel
theorem dX5_take_191 : decode cX5_take 191 = .ok (.return_, 1) := by decide +kernel
theorem dX5_bringBack_0 : decode cX5_bringBack 0 = .ok (.iconst 0, 1) := by decide +kernel
theorem dX5_bringBack_1 : decode cX5_bringBack 1 = .ok (.istore_n 2, 1) := by decide +kernel
theorem dX5_bringBack_2 : decode cX5_bringBack 2 = .ok (.iload_n 2, 1) := by decide +kernel
theorem dX5_bringBack_3 : decode cX5_bringBack 3 = .ok (.aload_n 0, 1) := by decide +kernel
theorem dX5_bringBack_4 : decode cX5_bringBack 4 = .ok (.getfield 15, 3) := by decide +kernel
theorem dX5_bringBack_7 : decode cX5_bringBack 7 = .ok (.if_icmp .ge 34, 3) := by decide +kernel
theorem dX5_bringBack_10 : decode cX5_bringBack 10 = .ok (.aload_n 1, 1) := by decide +kernel
theorem dX5_bringBack_11 : decode cX5_bringBack 11 = .ok (.getfield 39, 3) := by decide +kernel
theorem dX5_bringBack_14 : decode cX5_bringBack 14 = .ok (.iload_n 2, 1) := by decide +kernel
theorem dX5_bringBack_15 : decode cX5_bringBack 15 = .ok (.aload_n 0, 1) := by decide +kernel
theorem dX5_bringBack_16 : decode cX5_bringBack 16 = .ok (.getfield 9, 3) := by decide +kernel
theorem dX5_bringBack_19 : decode cX5_bringBack 19 = .ok (.iload_n 2, 1) := by decide +kernel
theorem dX5_bringBack_20 : decode cX5_bringBack 20 = .ok (.bipush 8, 2) := by decide +kernel
theorem dX5_bringBack_22 : decode cX5_bringBack 22 = .ok (.idiv, 1) := by decide +kernel
theorem dX5_bringBack_23 : decode cX5_bringBack 23 = .ok (.laload, 1) := by decide +kernel
theorem dX5_bringBack_24 : decode cX5_bringBack 24 = .ok (.iload_n 2, 1) := by decide +kernel
theorem dX5_bringBack_25 : decode cX5_bringBack 25 = .ok (.bipush 8, 2) := by decide +kernel
theorem dX5_bringBack_27 : decode cX5_bringBack 27 = .ok (.irem, 1) := by decide +kernel
theorem dX5_bringBack_28 : decode cX5_bringBack 28 = .ok (.bipush 8, 2) := by decide +kernel
theorem dX5_bringBack_30 : decode cX5_bringBack 30 = .ok (.imul, 1) := by decide +kernel
theorem dX5_bringBack_31 : decode cX5_bringBack 31 = .ok (.lushr, 1) := by decide +kernel
theorem dX5_bringBack_32 : decode cX5_bringBack 32 = .ok (.l2i, 1) := by decide +kernel
theorem dX5_bringBack_33 : decode cX5_bringBack 33 = .ok (.i2b, 1) := by decide +kernel
theorem dX5_bringBack_34 : decode cX5_bringBack 34 = .ok (.bastore, 1) := by decide +kernel
theorem dX5_bringBack_35 : decode cX5_bringBack 35 = .ok (.iinc 2 1, 3) := by decide +kernel
theorem dX5_bringBack_38 : decode cX5_bringBack 38 = .ok (.goto (-36), 3) := by decide +kernel
theorem dX5_bringBack_41 : decode cX5_bringBack 41 = .ok (.aload_n 1, 1) := by decide +kernel
theorem dX5_bringBack_42 : decode cX5_bringBack 42 = .ok (.aload_n 0, 1) := by decide +kernel
theorem dX5_bringBack_43 : decode cX5_bringBack 43 = .ok (.getfield 15, 3) := by decide +kernel
theorem dX5_bringBack_46 : decode cX5_bringBack 46 = .ok (.putfield 36, 3) := by decide +kernel
theorem dX5_bringBack_49 : decode cX5_bringBack 49 = .ok (.aload_n 1, 1) := by decide +kernel
theorem dX5_bringBack_50 : decode cX5_bringBack 50 = .ok (.invokevirtual 57, 3) := by decide +kernel
theorem dX5_bringBack_53 : decode cX5_bringBack 53 = .ok (.iconst 0, 1) := by decide +kernel
theorem dX5_bringBack_54 : decode cX5_bringBack 54 = .ok (.istore_n 2, 1) := by decide +kernel
theorem dX5_bringBack_55 : decode cX5_bringBack 55 = .ok (.iload_n 2, 1) := by decide +kernel
theorem dX5_bringBack_56 : decode cX5_bringBack 56 = .ok (.aload_n 1, 1) := by decide +kernel
theorem dX5_bringBack_57 : decode cX5_bringBack 57 = .ok (.getfield 42, 3) := by decide +kernel
theorem dX5_bringBack_60 : decode cX5_bringBack 60 = .ok (.if_icmp .ge 41, 3) := by decide +kernel
theorem dX5_bringBack_63 : decode cX5_bringBack 63 = .ok (.aload_n 1, 1) := by decide +kernel
theorem dX5_bringBack_64 : decode cX5_bringBack 64 = .ok (.getfield 45, 3) := by decide +kernel
theorem dX5_bringBack_67 : decode cX5_bringBack 67 = .ok (.iload_n 2, 1) := by decide +kernel
theorem dX5_bringBack_68 : decode cX5_bringBack 68 = .ok (.aload_n 0, 1) := by decide +kernel
theorem dX5_bringBack_69 : decode cX5_bringBack 69 = .ok (.getfield 19, 3) := by decide +kernel
theorem dX5_bringBack_72 : decode cX5_bringBack 72 = .ok (.iload_n 2, 1) := by decide +kernel
theorem dX5_bringBack_73 : decode cX5_bringBack 73 = .ok (.bipush 64, 2) := by decide +kernel
theorem dX5_bringBack_75 : decode cX5_bringBack 75 = .ok (.idiv, 1) := by decide +kernel
theorem dX5_bringBack_76 : decode cX5_bringBack 76 = .ok (.laload, 1) := by decide +kernel
theorem dX5_bringBack_77 : decode cX5_bringBack 77 = .ok (.iload_n 2, 1) := by decide +kernel
theorem dX5_bringBack_78 : decode cX5_bringBack 78 = .ok (.bipush 64, 2) := by decide +kernel
theorem dX5_bringBack_80 : decode cX5_bringBack 80 = .ok (.irem, 1) := by decide +kernel
theorem dX5_bringBack_81 : decode cX5_bringBack 81 = .ok (.lushr, 1) := by decide +kernel
theorem dX5_bringBack_82 : decode cX5_bringBack 82 = .ok (.lconst 1, 1) := by decide +kernel
theorem dX5_bringBack_83 : decode cX5_bringBack 83 = .ok (.land, 1) := by decide +kernel
theorem dX5_bringBack_84 : decode cX5_bringBack 84 = .ok (.lconst 1, 1) := by decide +kernel
theorem dX5_bringBack_85 : decode cX5_bringBack 85 = .ok (.lcmp, 1) := by decide +kernel
theorem dX5_bringBack_86 : decode cX5_bringBack 86 = .ok (.ifCond .ne 7, 3) := by decide +kernel
theorem dX5_bringBack_89 : decode cX5_bringBack 89 = .ok (.iconst 1, 1) := by decide +kernel
theorem dX5_bringBack_90 : decode cX5_bringBack 90 = .ok (.goto 4, 3) := by decide +kernel
theorem dX5_bringBack_93 : decode cX5_bringBack 93 = .ok (.iconst 0, 1) := by decide +kernel
theorem dX5_bringBack_94 : decode cX5_bringBack 94 = .ok (.bastore, 1) := by decide +kernel
theorem dX5_bringBack_95 : decode cX5_bringBack 95 = .ok (.iinc 2 1, 3) := by decide +kernel
theorem dX5_bringBack_98 : decode cX5_bringBack 98 = .ok (.goto (-43), 3) := by decide +kernel
theorem dX5_bringBack_101 : decode cX5_bringBack 101 = .ok (.aload_n 0, 1) := by decide +kernel
theorem dX5_bringBack_102 : decode cX5_bringBack 102 = .ok (.getfield 22, 3) := by decide +kernel
theorem dX5_bringBack_105 : decode cX5_bringBack 105 = .ok (.iconst 0, 1) := by decide +kernel
theorem dX5_bringBack_106 : decode cX5_bringBack 106 = .ok (.aload_n 1, 1) := by decide +kernel
theorem dX5_bringBack_107 : decode cX5_bringBack 107 = .ok (.getfield 47, 3) := by decide +kernel
theorem dX5_bringBack_110 : decode cX5_bringBack 110 = .ok (.iconst 0, 1) := by decide +kernel
theorem dX5_bringBack_111 : decode cX5_bringBack 111 = .ok (.bipush 8, 2) := by decide +kernel
theorem dX5_bringBack_113 : decode cX5_bringBack 113 = .ok (.invokestatic 48, 3) := by decide +kernel
theorem dX5_bringBack_116 : decode cX5_bringBack 116 = .ok (.aload_n 0, 1) := by decide +kernel
theorem dX5_bringBack_117 : decode cX5_bringBack 117 = .ok (.getfield 29, 3) := by decide +kernel
theorem dX5_bringBack_120 : decode cX5_bringBack 120 = .ok (.iconst 0, 1) := by decide +kernel
theorem dX5_bringBack_121 : decode cX5_bringBack 121 = .ok (.aload_n 1, 1) := by decide +kernel
theorem dX5_bringBack_122 : decode cX5_bringBack 122 = .ok (.getfield 54, 3) := by decide +kernel
theorem dX5_bringBack_125 : decode cX5_bringBack 125 = .ok (.iconst 0, 1) := by decide +kernel
theorem dX5_bringBack_126 : decode cX5_bringBack 126 = .ok (.bipush 16, 2) := by decide +kernel
theorem dX5_bringBack_128 : decode cX5_bringBack 128 = .ok (.invokestatic 48, 3) := by decide +kernel
theorem dX5_bringBack_131 : decode cX5_bringBack 131 = .ok (.aload_n 0, 1) := by decide +kernel
theorem dX5_bringBack_132 : decode cX5_bringBack 132 = .ok (.getfield 32, 3) := by decide +kernel
theorem dX5_bringBack_135 : decode cX5_bringBack 135 = .ok (.iconst 0, 1) := by decide +kernel
theorem dX5_bringBack_136 : decode cX5_bringBack 136 = .ok (.aload_n 1, 1) := by decide +kernel
theorem dX5_bringBack_137 : decode cX5_bringBack 137 = .ok (.getfield 55, 3) := by decide +kernel
theorem dX5_bringBack_140 : decode cX5_bringBack 140 = .ok (.iconst 0, 1) := by decide +kernel
theorem dX5_bringBack_141 : decode cX5_bringBack 141 = .ok (.bipush 16, 2) := by decide +kernel
theorem dX5_bringBack_143 : decode cX5_bringBack 143 = .ok (.invokestatic 48, 3) := by decide +kernel
theorem dX5_bringBack_146 : decode cX5_bringBack 146 = .ok (.aload_n 1, 1) := by decide +kernel
theorem dX5_bringBack_147 : decode cX5_bringBack 147 = .ok (.aload_n 0, 1) := by decide +kernel
theorem dX5_bringBack_148 : decode cX5_bringBack 148 = .ok (.getfield 26, 3) := by decide +kernel
theorem dX5_bringBack_151 : decode cX5_bringBack 151 = .ok (.putfield 56, 3) := by decide +kernel
theorem dX5_bringBack_154 : decode cX5_bringBack 154 = .ok (.return_, 1) := by decide +kernel
theorem dX5_become_0 : decode cX5_become 0 = .ok (.aload_n 1, 1) := by decide +kernel
theorem dX5_become_1 : decode cX5_become 1 = .ok (.getfield 9, 3) := by decide +kernel
theorem dX5_become_4 : decode cX5_become 4 = .ok (.iconst 0, 1) := by decide +kernel
theorem dX5_become_5 : decode cX5_become 5 = .ok (.aload_n 0, 1) := by decide +kernel
theorem dX5_become_6 : decode cX5_become 6 = .ok (.getfield 9, 3) := by decide +kernel
theorem dX5_become_9 : decode cX5_become 9 = .ok (.iconst 0, 1) := by decide +kernel
theorem dX5_become_10 : decode cX5_become 10 = .ok (.aload_n 0, 1) := by decide +kernel
theorem dX5_become_11 : decode cX5_become 11 = .ok (.getfield 9, 3) := by decide +kernel
theorem dX5_become_14 : decode cX5_become 14 = .ok (.arraylength, 1) := by decide +kernel
theorem dX5_become_15 : decode cX5_become 15 = .ok (.invokestatic 48, 3) := by decide +kernel
theorem dX5_become_18 : decode cX5_become 18 = .ok (.aload_n 1, 1) := by decide +kernel
theorem dX5_become_19 : decode cX5_become 19 = .ok (.getfield 19, 3) := by decide +kernel
theorem dX5_become_22 : decode cX5_become 22 = .ok (.iconst 0, 1) := by decide +kernel
theorem dX5_become_23 : decode cX5_become 23 = .ok (.aload_n 0, 1) := by decide +kernel
theorem dX5_become_24 : decode cX5_become 24 = .ok (.getfield 19, 3) := by decide +kernel
theorem dX5_become_27 : decode cX5_become 27 = .ok (.iconst 0, 1) := by decide +kernel
theorem dX5_become_28 : decode cX5_become 28 = .ok (.aload_n 0, 1) := by decide +kernel
theorem dX5_become_29 : decode cX5_become 29 = .ok (.getfield 19, 3) := by decide +kernel
theorem dX5_become_32 : decode cX5_become 32 = .ok (.arraylength, 1) := by decide +kernel
theorem dX5_become_33 : decode cX5_become 33 = .ok (.invokestatic 48, 3) := by decide +kernel
theorem dX5_become_36 : decode cX5_become 36 = .ok (.aload_n 1, 1) := by decide +kernel
theorem dX5_become_37 : decode cX5_become 37 = .ok (.getfield 22, 3) := by decide +kernel
theorem dX5_become_40 : decode cX5_become 40 = .ok (.iconst 0, 1) := by decide +kernel
theorem dX5_become_41 : decode cX5_become 41 = .ok (.aload_n 0, 1) := by decide +kernel
theorem dX5_become_42 : decode cX5_become 42 = .ok (.getfield 22, 3) := by decide +kernel
theorem dX5_become_45 : decode cX5_become 45 = .ok (.iconst 0, 1) := by decide +kernel
theorem dX5_become_46 : decode cX5_become 46 = .ok (.bipush 8, 2) := by decide +kernel
theorem dX5_become_48 : decode cX5_become 48 = .ok (.invokestatic 48, 3) := by decide +kernel
theorem dX5_become_51 : decode cX5_become 51 = .ok (.aload_n 1, 1) := by decide +kernel
theorem dX5_become_52 : decode cX5_become 52 = .ok (.getfield 29, 3) := by decide +kernel
theorem dX5_become_55 : decode cX5_become 55 = .ok (.iconst 0, 1) := by decide +kernel
theorem dX5_become_56 : decode cX5_become 56 = .ok (.aload_n 0, 1) := by decide +kernel
theorem dX5_become_57 : decode cX5_become 57 = .ok (.getfield 29, 3) := by decide +kernel
theorem dX5_become_60 : decode cX5_become 60 = .ok (.iconst 0, 1) := by decide +kernel
theorem dX5_become_61 : decode cX5_become 61 = .ok (.bipush 16, 2) := by decide +kernel
theorem dX5_become_63 : decode cX5_become 63 = .ok (.invokestatic 48, 3) := by decide +kernel
theorem dX5_become_66 : decode cX5_become 66 = .ok (.aload_n 1, 1) := by decide +kernel
theorem dX5_become_67 : decode cX5_become 67 = .ok (.getfield 32, 3) := by decide +kernel
theorem dX5_become_70 : decode cX5_become 70 = .ok (.iconst 0, 1) := by decide +kernel
theorem dX5_become_71 : decode cX5_become 71 = .ok (.aload_n 0, 1) := by decide +kernel
theorem dX5_become_72 : decode cX5_become 72 = .ok (.getfield 32, 3) := by decide +kernel
theorem dX5_become_75 : decode cX5_become 75 = .ok (.iconst 0, 1) := by decide +kernel
theorem dX5_become_76 : decode cX5_become 76 = .ok (.bipush 16, 2) := by decide +kernel
theorem dX5_become_78 : decode cX5_become 78 = .ok (.invokestatic 48, 3) := by decide +kernel
theorem dX5_become_81 : decode cX5_become 81 = .ok (.aload_n 0, 1) := by decide +kernel
theorem dX5_become_82 : decode cX5_become 82 = .ok (.aload_n 1, 1) := by decide +kernel
theorem dX5_become_83 : decode cX5_become 83 = .ok (.getfield 15, 3) := by decide +kernel
theorem dX5_become_86 : decode cX5_become 86 = .ok (.putfield 15, 3) := by decide +kernel
theorem dX5_become_89 : decode cX5_become 89 = .ok (.aload_n 0, 1) := by decide +kernel
theorem dX5_become_90 : decode cX5_become 90 = .ok (.aload_n 1, 1) := by decide +kernel
theorem dX5_become_91 : decode cX5_become 91 = .ok (.getfield 26, 3) := by decide +kernel
theorem dX5_become_94 : decode cX5_become 94 = .ok (.putfield 26, 3) := by decide +kernel
theorem dX5_become_97 : decode cX5_become 97 = .ok (.return_, 1) := by decide +kernel
theorem dX6_init_0 : decode cX6_init 0 = .ok (.aload_n 0, 1) := by decide +kernel
theorem dX6_init_1 : decode cX6_init 1 = .ok (.invokespecial 1, 3) := by decide +kernel
theorem dX6_init_4 : decode cX6_init 4 = .ok (.aload_n 0, 1) := by decide +kernel
theorem dX6_init_5 : decode cX6_init 5 = .ok (.aload_n 1, 1) := by decide +kernel
theorem dX6_init_6 : decode cX6_init 6 = .ok (.putfield 7, 3) := by decide +kernel
theorem dX6_init_9 : decode cX6_init 9 = .ok (.return_, 1) := by decide +kernel
theorem dX6_add_0 : decode cX6_add 0 = .ok (.aload_n 0, 1) := by decide +kernel
theorem dX6_add_1 : decode cX6_add 1 = .ok (.getfield 13, 3) := by decide +kernel
theorem dX6_add_4 : decode cX6_add 4 = .ok (.aload_n 0, 1) := by decide +kernel
theorem dX6_add_5 : decode cX6_add 5 = .ok (.getfield 7, 3) := by decide +kernel
theorem dX6_add_8 : decode cX6_add 8 = .ok (.arraylength, 1) := by decide +kernel
theorem dX6_add_9 : decode cX6_add 9 = .ok (.if_icmp .lt 5, 3) := by decide +kernel
theorem dX6_add_12 : decode cX6_add 12 = .ok (.iconst 0, 1) := by decide +kernel
theorem dX6_add_13 : decode cX6_add 13 = .ok (.ireturn, 1) := by decide +kernel
theorem dX6_add_14 : decode cX6_add 14 = .ok (.aload_n 0, 1) := by decide +kernel
theorem dX6_add_15 : decode cX6_add 15 = .ok (.getfield 7, 3) := by decide +kernel
theorem dX6_add_18 : decode cX6_add 18 = .ok (.aload_n 0, 1) := by decide +kernel
theorem dX6_add_19 : decode cX6_add 19 = .ok (.getfield 13, 3) := by decide +kernel
theorem dX6_add_22 : decode cX6_add 22 = .ok (.iload_n 1, 1) := by decide +kernel
theorem dX6_add_23 : decode cX6_add 23 = .ok (.i2b, 1) := by decide +kernel
theorem dX6_add_24 : decode cX6_add 24 = .ok (.bastore, 1) := by decide +kernel
theorem dX6_add_25 : decode cX6_add 25 = .ok (.aload_n 0, 1) := by decide +kernel
theorem dX6_add_26 : decode cX6_add 26 = .ok (.dup, 1) := by decide +kernel
theorem dX6_add_27 : decode cX6_add 27 = .ok (.getfield 13, 3) := by decide +kernel
theorem dX6_add_30 : decode cX6_add 30 = .ok (.iconst 1, 1) := by decide +kernel
theorem dX6_add_31 : decode cX6_add 31 = .ok (.iadd, 1) := by decide +kernel
theorem dX6_add_32 : decode cX6_add 32 = .ok (.putfield 13, 3) := by decide +kernel
theorem dX6_add_35 : decode cX6_add 35 = .ok (.iconst 1, 1) := by decide +kernel
theorem dX6_add_36 : decode cX6_add 36 = .ok (.ireturn, 1) := by decide +kernel
theorem dX6_become_0 : decode cX6_become 0 = .ok (.aload_n 1, 1) := by decide +kernel
theorem dX6_become_1 : decode cX6_become 1 = .ok (.iload_n 2, 1) := by decide +kernel
theorem dX6_become_2 : decode cX6_become 2 = .ok (.aload_n 0, 1) := by decide +kernel
theorem dX6_become_3 : decode cX6_become 3 = .ok (.getfield 7, 3) := by decide +kernel
theorem dX6_become_6 : decode cX6_become 6 = .ok (.iconst 0, 1) := by decide +kernel
theorem dX6_become_7 : decode cX6_become 7 = .ok (.iload_n 3, 1) := by decide +kernel
theorem dX6_become_8 : decode cX6_become 8 = .ok (.invokestatic 17, 3) := by decide +kernel
theorem dX6_become_11 : decode cX6_become 11 = .ok (.aload_n 0, 1) := by decide +kernel
theorem dX6_become_12 : decode cX6_become 12 = .ok (.iload_n 3, 1) := by decide +kernel
theorem dX6_become_13 : decode cX6_become 13 = .ok (.putfield 13, 3) := by decide +kernel
theorem dX6_become_16 : decode cX6_become 16 = .ok (.return_, 1) := by decide +kernel
theorem dX7_init_0 : decode cX7_init 0 = .ok (.aload_n 0, 1) := by decide +kernel
theorem dX7_init_1 : decode cX7_init 1 = .ok (.invokespecial 3, 3) := by decide +kernel
theorem dX7_init_4 : decode cX7_init 4 = .ok (.aload_n 0, 1) := by decide +kernel
theorem dX7_init_5 : decode cX7_init 5 = .ok (.new 9, 3) := by decide +kernel
theorem dX7_init_8 : decode cX7_init 8 = .ok (.dup, 1) := by decide +kernel
theorem dX7_init_9 : decode cX7_init 9 = .ok (.bipush 40, 2) := by decide +kernel
theorem dX7_init_11 : decode cX7_init 11 = .ok (.newarray .byte, 2) := by decide +kernel
theorem dX7_init_13 : decode cX7_init 13 = .ok (.invokespecial 11, 3) := by decide +kernel
theorem dX7_init_16 : decode cX7_init 16 = .ok (.putfield 14, 3) := by decide +kernel
theorem dX7_init_19 : decode cX7_init 19 = .ok (.aload_n 0, 1) := by decide +kernel
theorem dX7_init_20 : decode cX7_init 20 = .ok (.iconst 0, 1) := by decide +kernel
theorem dX7_init_21 : decode cX7_init 21 = .ok (.putfield 20, 3) := by decide +kernel
theorem dX7_init_24 : decode cX7_init 24 = .ok (.return_, 1) := by decide +kernel
theorem dX7_isSet_0 : decode cX7_isSet 0 = .ok (.aload_n 0, 1) := by decide +kernel
theorem dX7_isSet_1 : decode cX7_isSet 1 = .ok (.getfield 14, 3) := by decide +kernel
theorem dX7_isSet_4 : decode cX7_isSet 4 = .ok (.getfield 24, 3) := by decide +kernel
theorem dX7_isSet_7 : decode cX7_isSet 7 = .ok (.ifCond .le 7, 3) := by decide +kernel
theorem dX7_isSet_10 : decode cX7_isSet 10 = .ok (.iconst 1, 1) := by decide +kernel
theorem dX7_isSet_11 : decode cX7_isSet 11 = .ok (.goto 4, 3) := by decide +kernel
theorem dX7_isSet_14 : decode cX7_isSet 14 = .ok (.iconst 0, 1) := by decide +kernel
theorem dX7_isSet_15 : decode cX7_isSet 15 = .ok (.ireturn, 1) := by decide +kernel
theorem dX7_next_0 : decode cX7_next 0 = .ok (.iload_n 2, 1) := by decide +kernel
theorem dX7_next_1 : decode cX7_next 1 = .ok (.istore_n 3, 1) := by decide +kernel
theorem dX7_next_2 : decode cX7_next 2 = .ok (.iload_n 3, 1) := by decide +kernel
theorem dX7_next_3 : decode cX7_next 3 = .ok (.aload_n 1, 1) := by decide +kernel
theorem dX7_next_4 : decode cX7_next 4 = .ok (.getfield 28, 3) := by decide +kernel
theorem dX7_next_7 : decode cX7_next 7 = .ok (.aload_n 0, 1) := by decide +kernel
theorem dX7_next_8 : decode cX7_next 8 = .ok (.getfield 14, 3) := by decide +kernel
theorem dX7_next_11 : decode cX7_next 11 = .ok (.getfield 24, 3) := by decide +kernel
theorem dX7_next_14 : decode cX7_next 14 = .ok (.isub, 1) := by decide +kernel
theorem dX7_next_15 : decode cX7_next 15 = .ok (.if_icmp .gt 20, 3) := by decide +kernel
theorem dX7_next_18 : decode cX7_next 18 = .ok (.aload_n 0, 1) := by decide +kernel
theorem dX7_next_19 : decode cX7_next 19 = .ok (.aload_n 1, 1) := by decide +kernel
theorem dX7_next_20 : decode cX7_next 20 = .ok (.iload_n 3, 1) := by decide +kernel
theorem dX7_next_21 : decode cX7_next 21 = .ok (.invokevirtual 31, 3) := by decide +kernel
theorem dX7_next_24 : decode cX7_next 24 = .ok (.ifCond .eq 5, 3) := by decide +kernel
theorem dX7_next_27 : decode cX7_next 27 = .ok (.iload_n 3, 1) := by decide +kernel
theorem dX7_next_28 : decode cX7_next 28 = .ok (.ireturn, 1) := by decide +kernel
theorem dX7_next_29 : decode cX7_next 29 = .ok (.iinc 3 1, 3) := by decide +kernel
theorem dX7_next_32 : decode cX7_next 32 = .ok (.goto (-30), 3) := by decide +kernel
theorem dX7_next_35 : decode cX7_next 35 = .ok (.iconst (-1), 1) := by decide +kernel
theorem dX7_next_36 : decode cX7_next 36 = .ok (.ireturn, 1) := by decide +kernel
theorem dX7_before_0 : decode cX7_before 0 = .ok (.iload_n 2, 1) := by decide +kernel
theorem dX7_before_1 : decode cX7_before 1 = .ok (.iconst 1, 1) := by decide +kernel
theorem dX7_before_2 : decode cX7_before 2 = .ok (.isub, 1) := by decide +kernel
theorem dX7_before_3 : decode cX7_before 3 = .ok (.aload_n 1, 1) := by decide +kernel
theorem dX7_before_4 : decode cX7_before 4 = .ok (.getfield 28, 3) := by decide +kernel
theorem dX7_before_7 : decode cX7_before 7 = .ok (.aload_n 0, 1) := by decide +kernel
theorem dX7_before_8 : decode cX7_before 8 = .ok (.getfield 14, 3) := by decide +kernel
theorem dX7_before_11 : decode cX7_before 11 = .ok (.getfield 24, 3) := by decide +kernel
theorem dX7_before_14 : decode cX7_before 14 = .ok (.isub, 1) := by decide +kernel
theorem dX7_before_15 : decode cX7_before 15 = .ok (.invokestatic 35, 3) := by decide +kernel
theorem dX7_before_18 : decode cX7_before 18 = .ok (.istore_n 3, 1) := by decide +kernel
theorem dX7_before_19 : decode cX7_before 19 = .ok (.iload_n 3, 1) := by decide +kernel
theorem dX7_before_20 : decode cX7_before 20 = .ok (.ifCond .lt 20, 3) := by decide +kernel
theorem dX7_before_23 : decode cX7_before 23 = .ok (.aload_n 0, 1) := by decide +kernel
theorem dX7_before_24 : decode cX7_before 24 = .ok (.aload_n 1, 1) := by decide +kernel
theorem dX7_before_25 : decode cX7_before 25 = .ok (.iload_n 3, 1) := by decide +kernel
theorem dX7_before_26 : decode cX7_before 26 = .ok (.invokevirtual 31, 3) := by decide +kernel
theorem dX7_before_29 : decode cX7_before 29 = .ok (.ifCond .eq 5, 3) := by decide +kernel
theorem dX7_before_32 : decode cX7_before 32 = .ok (.iload_n 3, 1) := by decide +kernel
theorem dX7_before_33 : decode cX7_before 33 = .ok (.ireturn, 1) := by decide +kernel
theorem dX7_before_34 : decode cX7_before 34 = .ok (.iinc 3 (-1), 3) := by decide +kernel
theorem dX7_before_37 : decode cX7_before 37 = .ok (.goto (-18), 3) := by decide +kernel
theorem dX7_before_40 : decode cX7_before 40 = .ok (.iconst (-1), 1) := by decide +kernel
theorem dX7_before_41 : decode cX7_before 41 = .ok (.ireturn, 1) := by decide +kernel
theorem dX7_countFinds_0 : decode cX7_countFinds 0 = .ok (.iconst 0, 1) := by decide +kernel
theorem dX7_countFinds_1 : decode cX7_countFinds 1 = .ok (.istore_n 2, 1) := by decide +kernel
theorem dX7_countFinds_2 : decode cX7_countFinds 2 = .ok (.iconst 0, 1) := by decide +kernel
theorem dX7_countFinds_3 : decode cX7_countFinds 3 = .ok (.istore_n 3, 1) := by decide +kernel
theorem dX7_countFinds_4 : decode cX7_countFinds 4 = .ok (.iload_n 3, 1) := by decide +kernel
theorem dX7_countFinds_5 : decode cX7_countFinds 5 = .ok (.aload_n 1, 1) := by decide +kernel
theorem dX7_countFinds_6 : decode cX7_countFinds 6 = .ok (.getfield 28, 3) := by decide +kernel
theorem dX7_countFinds_9 : decode cX7_countFinds 9 = .ok (.aload_n 0, 1) := by decide +kernel
theorem dX7_countFinds_10 : decode cX7_countFinds 10 = .ok (.getfield 14, 3) := by decide +kernel
theorem dX7_countFinds_13 : decode cX7_countFinds 13 = .ok (.getfield 24, 3) := by decide +kernel
theorem dX7_countFinds_16 : decode cX7_countFinds 16 = .ok (.isub, 1) := by decide +kernel
theorem dX7_countFinds_17 : decode cX7_countFinds 17 = .ok (.if_icmp .gt 26, 3) := by decide +kernel
theorem dX7_countFinds_20 : decode cX7_countFinds 20 = .ok (.iload_n 2, 1) := by decide +kernel
theorem dX7_countFinds_21 : decode cX7_countFinds 21 = .ok (.aload_n 0, 1) := by decide +kernel
theorem dX7_countFinds_22 : decode cX7_countFinds 22 = .ok (.aload_n 1, 1) := by decide +kernel
theorem dX7_countFinds_23 : decode cX7_countFinds 23 = .ok (.iload_n 3, 1) := by decide +kernel
theorem dX7_countFinds_24 : decode cX7_countFinds 24 = .ok (.invokevirtual 31, 3) := by decide +kernel
theorem dX7_countFinds_27 : decode cX7_countFinds 27 = .ok (.ifCond .eq 7, 3) := by decide +kernel
theorem dX7_countFinds_30 : decode cX7_countFinds 30 = .ok (.iconst 1, 1) := by decide +kernel
theorem dX7_countFinds_31 : decode cX7_countFinds 31 = .ok (.goto 4, 3) := by decide +kernel
theorem dX7_countFinds_34 : decode cX7_countFinds 34 = .ok (.iconst 0, 1) := by decide +kernel
theorem dX7_countFinds_35 : decode cX7_countFinds 35 = .ok (.iadd, 1) := by decide +kernel
theorem dX7_countFinds_36 : decode cX7_countFinds 36 = .ok (.istore_n 2, 1) := by decide +kernel
theorem dX7_countFinds_37 : decode cX7_countFinds 37 = .ok (.iinc 3 1, 3) := by decide +kernel
theorem dX7_countFinds_40 : decode cX7_countFinds 40 = .ok (.goto (-36), 3) := by decide +kernel
theorem dX7_countFinds_43 : decode cX7_countFinds 43 = .ok (.iload_n 2, 1) := by decide +kernel
theorem dX7_countFinds_44 : decode cX7_countFinds 44 = .ok (.ireturn, 1) := by decide +kernel
theorem dX7_isFind_0 : decode cX7_isFind 0 = .ok (.iconst 0, 1) := by decide +kernel
theorem dX7_isFind_1 : decode cX7_isFind 1 = .ok (.istore_n 3, 1) := by decide +kernel
theorem dX7_isFind_2 : decode cX7_isFind 2 = .ok (.iload_n 3, 1) := by decide +kernel
theorem dX7_isFind_3 : decode cX7_isFind 3 = .ok (.aload_n 0, 1) := by decide +kernel
theorem dX7_isFind_4 : decode cX7_isFind 4 = .ok (.getfield 14, 3) := by decide +kernel
theorem dX7_isFind_7 : decode cX7_isFind 7 = .ok (.getfield 24, 3) := by decide +kernel
theorem dX7_isFind_10 : decode cX7_isFind 10 = .ok (.if_icmp .ge 31, 3) := by decide +kernel
theorem dX7_isFind_13 : decode cX7_isFind 13 = .ok (.aload_n 1, 1) := by decide +kernel
theorem dX7_isFind_14 : decode cX7_isFind 14 = .ok (.getfield 41, 3) := by decide +kernel
theorem dX7_isFind_17 : decode cX7_isFind 17 = .ok (.iload_n 2, 1) := by decide +kernel
theorem dX7_isFind_18 : decode cX7_isFind 18 = .ok (.iload_n 3, 1) := by decide +kernel
theorem dX7_isFind_19 : decode cX7_isFind 19 = .ok (.iadd, 1) := by decide +kernel
theorem dX7_isFind_20 : decode cX7_isFind 20 = .ok (.baload, 1) := by decide +kernel
theorem dX7_isFind_21 : decode cX7_isFind 21 = .ok (.aload_n 0, 1) := by decide +kernel
theorem dX7_isFind_22 : decode cX7_isFind 22 = .ok (.getfield 14, 3) := by decide +kernel
theorem dX7_isFind_25 : decode cX7_isFind 25 = .ok (.getfield 45, 3) := by decide +kernel
theorem dX7_isFind_28 : decode cX7_isFind 28 = .ok (.iload_n 3, 1) := by decide +kernel
theorem dX7_isFind_29 : decode cX7_isFind 29 = .ok (.baload, 1) := by decide +kernel
theorem dX7_isFind_30 : decode cX7_isFind 30 = .ok (.if_icmp .eq 5, 3) := by decide +kernel
theorem dX7_isFind_33 : decode cX7_isFind 33 = .ok (.iconst 0, 1) := by decide +kernel
theorem dX7_isFind_34 : decode cX7_isFind 34 = .ok (.ireturn, 1) := by decide +kernel
theorem dX7_isFind_35 : decode cX7_isFind 35 = .ok (.iinc 3 1, 3) := by decide +kernel
theorem dX7_isFind_38 : decode cX7_isFind 38 = .ok (.goto (-36), 3) := by decide +kernel
theorem dX7_isFind_41 : decode cX7_isFind 41 = .ok (.aload_n 0, 1) := by decide +kernel
theorem dX7_isFind_42 : decode cX7_isFind 42 = .ok (.getfield 20, 3) := by decide +kernel
theorem dX7_isFind_45 : decode cX7_isFind 45 = .ok (.ifCond .ne 5, 3) := by decide +kernel
theorem dX7_isFind_48 : decode cX7_isFind 48 = .ok (.iconst 1, 1) := by decide +kernel
theorem dX7_isFind_49 : decode cX7_isFind 49 = .ok (.ireturn, 1) := by decide +kernel
theorem dX7_isFind_50 : decode cX7_isFind 50 = .ok (.iload_n 2, 1) := by decide +kernel
theorem dX7_isFind_51 : decode cX7_isFind 51 = .ok (.aload_n 0, 1) := by decide +kernel
theorem dX7_isFind_52 : decode cX7_isFind 52 = .ok (.getfield 14, 3) := by decide +kernel
theorem dX7_isFind_55 : decode cX7_isFind 55 = .ok (.getfield 24, 3) := by decide +kernel
theorem dX7_isFind_58 : decode cX7_isFind 58 = .ok (.iadd, 1) := by decide +kernel
theorem dX7_isFind_59 : decode cX7_isFind 59 = .ok (.istore_n 3, 1) := by decide +kernel
theorem dX7_isFind_60 : decode cX7_isFind 60 = .ok (.iload_n 2, 1) := by decide +kernel
theorem dX7_isFind_61 : decode cX7_isFind 61 = .ok (.ifCond .le 21, 3) := by decide +kernel
theorem dX7_isFind_64 : decode cX7_isFind 64 = .ok (.aload_n 1, 1) := by decide +kernel
theorem dX7_isFind_65 : decode cX7_isFind 65 = .ok (.getfield 41, 3) := by decide +kernel
theorem dX7_isFind_68 : decode cX7_isFind 68 = .ok (.iload_n 2, 1) := by decide +kernel
theorem dX7_isFind_69 : decode cX7_isFind 69 = .ok (.iconst 1, 1) := by decide +kernel
theorem dX7_isFind_70 : decode cX7_isFind 70 = .ok (.isub, 1) := by decide +kernel
theorem dX7_isFind_71 : decode cX7_isFind 71 = .ok (.baload, 1) := by decide +kernel
theorem dX7_isFind_72 : decode cX7_isFind 72 = .ok (.invokestatic 46, 3) := by decide +kernel
theorem dX7_isFind_75 : decode cX7_isFind 75 = .ok (.ifCond .eq 7, 3) := by decide +kernel
theorem dX7_isFind_78 : decode cX7_isFind 78 = .ok (.iconst 1, 1) := by decide +kernel
theorem dX7_isFind_79 : decode cX7_isFind 79 = .ok (.goto 4, 3) := by decide +kernel
theorem dX7_isFind_82 : decode cX7_isFind 82 = .ok (.iconst 0, 1) := by decide +kernel
theorem dX7_isFind_83 : decode cX7_isFind 83 = .ok (.istore 4, 2) := by decide +kernel
theorem dX7_isFind_85 : decode cX7_isFind 85 = .ok (.iload 4, 2) := by decide +kernel
theorem dX7_isFind_87 : decode cX7_isFind 87 = .ok (.ifCond .ne 27, 3) := by decide +kernel
theorem dX7_isFind_90 : decode cX7_isFind 90 = .ok (.iload_n 3, 1) := by decide +kernel
theorem dX7_isFind_91 : decode cX7_isFind 91 = .ok (.aload_n 1, 1) := by decide +kernel
theorem dX7_isFind_92 : decode cX7_isFind 92 = .ok (.getfield 28, 3) := by decide +kernel
theorem dX7_isFind_95 : decode cX7_isFind 95 = .ok (.if_icmp .ge 15, 3) := by decide +kernel
theorem dX7_isFind_98 : decode cX7_isFind 98 = .ok (.aload_n 1, 1) := by decide +kernel
theorem dX7_isFind_99 : decode cX7_isFind 99 = .ok (.getfield 41, 3) := by decide +kernel
theorem dX7_isFind_102 : decode cX7_isFind 102 = .ok (.iload_n 3, 1) := by decide +kernel
theorem dX7_isFind_103 : decode cX7_isFind 103 = .ok (.baload, 1) := by decide +kernel
theorem dX7_isFind_104 : decode cX7_isFind 104 = .ok (.invokestatic 46, 3) := by decide +kernel
theorem dX7_isFind_107 : decode cX7_isFind 107 = .ok (.ifCond .ne 7, 3) := by decide +kernel
theorem dX7_isFind_110 : decode cX7_isFind 110 = .ok (.iconst 1, 1) := by decide +kernel
theorem dX7_isFind_111 : decode cX7_isFind 111 = .ok (.goto 4, 3) := by decide +kernel
theorem dX7_isFind_114 : decode cX7_isFind 114 = .ok (.iconst 0, 1) := by decide +kernel
theorem dX7_isFind_115 : decode cX7_isFind 115 = .ok (.ireturn, 1) := by decide +kernel
theorem dX8_init_0 : decode cX8_init 0 = .ok (.aload_n 0, 1) := by decide +kernel
theorem dX8_init_1 : decode cX8_init 1 = .ok (.invokespecial 3, 3) := by decide +kernel
theorem dX8_init_4 : decode cX8_init 4 = .ok (.aload_n 0, 1) := by decide +kernel
theorem dX8_init_5 : decode cX8_init 5 = .ok (.sipush 3000, 3) := by decide +kernel
theorem dX8_init_8 : decode cX8_init 8 = .ok (.newarray .byte, 2) := by decide +kernel
theorem dX8_init_10 : decode cX8_init 10 = .ok (.putfield 9, 3) := by decide +kernel
theorem dX8_init_13 : decode cX8_init 13 = .ok (.aload_n 0, 1) := by decide +kernel
theorem dX8_init_14 : decode cX8_init 14 = .ok (.iconst 0, 1) := by decide +kernel
theorem dX8_init_15 : decode cX8_init 15 = .ok (.putfield 15, 3) := by decide +kernel
theorem dX8_init_18 : decode cX8_init 18 = .ok (.aload_n 0, 1) := by decide +kernel
theorem dX8_init_19 : decode cX8_init 19 = .ok (.sipush 300, 3) := by decide +kernel
theorem dX8_init_22 : decode cX8_init 22 = .ok (.newarray .int, 2) := by decide +kernel
theorem dX8_init_24 : decode cX8_init 24 = .ok (.putfield 19, 3) := by decide +kernel
theorem dX8_init_27 : decode cX8_init 27 = .ok (.aload_n 0, 1) := by decide +kernel
theorem dX8_init_28 : decode cX8_init 28 = .ok (.sipush 300, 3) := by decide +kernel
theorem dX8_init_31 : decode cX8_init 31 = .ok (.newarray .boolean, 2) := by decide +kernel
theorem dX8_init_33 : decode cX8_init 33 = .ok (.putfield 23, 3) := by decide +kernel
theorem dX8_init_36 : decode cX8_init 36 = .ok (.aload_n 0, 1) := by decide +kernel
theorem dX8_init_37 : decode cX8_init 37 = .ok (.iconst 1, 1) := by decide +kernel
theorem dX8_init_38 : decode cX8_init 38 = .ok (.putfield 27, 3) := by decide +kernel
theorem dX8_init_41 : decode cX8_init 41 = .ok (.aload_n 0, 1) := by decide +kernel
theorem dX8_init_42 : decode cX8_init 42 = .ok (.bipush 8, 2) := by decide +kernel
theorem dX8_init_44 : decode cX8_init 44 = .ok (.newarray .int, 2) := by decide +kernel
theorem dX8_init_46 : decode cX8_init 46 = .ok (.putfield 30, 3) := by decide +kernel
theorem dX8_init_49 : decode cX8_init 49 = .ok (.aload_n 0, 1) := by decide +kernel
theorem dX8_init_50 : decode cX8_init 50 = .ok (.iconst 1, 1) := by decide +kernel
theorem dX8_init_51 : decode cX8_init 51 = .ok (.putfield 33, 3) := by decide +kernel
theorem dX8_init_54 : decode cX8_init 54 = .ok (.aload_n 0, 1) := by decide +kernel
theorem dX8_init_55 : decode cX8_init 55 = .ok (.bipush 16, 2) := by decide +kernel
theorem dX8_init_57 : decode cX8_init 57 = .ok (.newarray .int, 2) := by decide +kernel
theorem dX8_init_59 : decode cX8_init 59 = .ok (.putfield 36, 3) := by decide +kernel
theorem dX8_init_62 : decode cX8_init 62 = .ok (.aload_n 0, 1) := by decide +kernel
theorem dX8_init_63 : decode cX8_init 63 = .ok (.bipush 16, 2) := by decide +kernel
theorem dX8_init_65 : decode cX8_init 65 = .ok (.newarray .boolean, 2) := by decide +kernel
theorem dX8_init_67 : decode cX8_init 67 = .ok (.putfield 39, 3) := by decide +kernel
theorem dX8_init_70 : decode cX8_init 70 = .ok (.iconst 0, 1) := by decide +kernel
theorem dX8_init_71 : decode cX8_init 71 = .ok (.istore_n 1, 1) := by decide +kernel
theorem dX8_init_72 : decode cX8_init 72 = .ok (.iload_n 1, 1) := by decide +kernel
theorem dX8_init_73 : decode cX8_init 73 = .ok (.bipush 16, 2) := by decide +kernel
theorem dX8_init_75 : decode cX8_init 75 = .ok (.if_icmp .ge 16, 3) := by decide +kernel
theorem dX8_init_78 : decode cX8_init 78 = .ok (.aload_n 0, 1) := by decide +kernel
theorem dX8_init_79 : decode cX8_init 79 = .ok (.getfield 36, 3) := by decide +kernel
theorem dX8_init_82 : decode cX8_init 82 = .ok (.iload_n 1, 1) := by decide +kernel
theorem dX8_init_83 : decode cX8_init 83 = .ok (.iconst (-1), 1) := by decide +kernel
theorem dX8_init_84 : decode cX8_init 84 = .ok (.iastore, 1) := by decide +kernel
theorem dX8_init_85 : decode cX8_init 85 = .ok (.iinc 1 1, 3) := by decide +kernel
theorem dX8_init_88 : decode cX8_init 88 = .ok (.goto (-16), 3) := by decide +kernel
theorem dX8_init_91 : decode cX8_init 91 = .ok (.return_, 1) := by decide +kernel
theorem dX8_become_0 : decode cX8_become 0 = .ok (.aload_n 1, 1) := by decide +kernel
theorem dX8_become_1 : decode cX8_become 1 = .ok (.getfield 9, 3) := by decide +kernel
theorem dX8_become_4 : decode cX8_become 4 = .ok (.iconst 0, 1) := by decide +kernel
theorem dX8_become_5 : decode cX8_become 5 = .ok (.aload_n 0, 1) := by decide +kernel
theorem dX8_become_6 : decode cX8_become 6 = .ok (.getfield 9, 3) := by decide +kernel
theorem dX8_become_9 : decode cX8_become 9 = .ok (.iconst 0, 1) := by decide +kernel
theorem dX8_become_10 : decode cX8_become 10 = .ok (.aload_n 1, 1) := by decide +kernel
theorem dX8_become_11 : decode cX8_become 11 = .ok (.getfield 15, 3) := by decide +kernel
theorem dX8_become_14 : decode cX8_become 14 = .ok (.invokestatic 42, 3) := by decide +kernel
theorem dX8_become_17 : decode cX8_become 17 = .ok (.aload_n 1, 1) := by decide +kernel
theorem dX8_become_18 : decode cX8_become 18 = .ok (.getfield 19, 3) := by decide +kernel
theorem dX8_become_21 : decode cX8_become 21 = .ok (.iconst 0, 1) := by decide +kernel
theorem dX8_become_22 : decode cX8_become 22 = .ok (.aload_n 0, 1) := by decide +kernel
theorem dX8_become_23 : decode cX8_become 23 = .ok (.getfield 19, 3) := by decide +kernel
theorem dX8_become_26 : decode cX8_become 26 = .ok (.iconst 0, 1) := by decide +kernel
theorem dX8_become_27 : decode cX8_become 27 = .ok (.aload_n 1, 1) := by decide +kernel
theorem dX8_become_28 : decode cX8_become 28 = .ok (.getfield 27, 3) := by decide +kernel
theorem dX8_become_31 : decode cX8_become 31 = .ok (.invokestatic 42, 3) := by decide +kernel
theorem dX8_become_34 : decode cX8_become 34 = .ok (.aload_n 1, 1) := by decide +kernel
theorem dX8_become_35 : decode cX8_become 35 = .ok (.getfield 23, 3) := by decide +kernel
theorem dX8_become_38 : decode cX8_become 38 = .ok (.iconst 0, 1) := by decide +kernel
theorem dX8_become_39 : decode cX8_become 39 = .ok (.aload_n 0, 1) := by decide +kernel
theorem dX8_become_40 : decode cX8_become 40 = .ok (.getfield 23, 3) := by decide +kernel
theorem dX8_become_43 : decode cX8_become 43 = .ok (.iconst 0, 1) := by decide +kernel
theorem dX8_become_44 : decode cX8_become 44 = .ok (.aload_n 1, 1) := by decide +kernel
theorem dX8_become_45 : decode cX8_become 45 = .ok (.getfield 27, 3) := by decide +kernel
theorem dX8_become_48 : decode cX8_become 48 = .ok (.invokestatic 42, 3) := by decide +kernel
theorem dX8_become_51 : decode cX8_become 51 = .ok (.aload_n 1, 1) := by decide +kernel
theorem dX8_become_52 : decode cX8_become 52 = .ok (.getfield 30, 3) := by decide +kernel
theorem dX8_become_55 : decode cX8_become 55 = .ok (.iconst 0, 1) := by decide +kernel
theorem dX8_become_56 : decode cX8_become 56 = .ok (.aload_n 0, 1) := by decide +kernel
theorem dX8_become_57 : decode cX8_become 57 = .ok (.getfield 30, 3) := by decide +kernel
theorem dX8_become_60 : decode cX8_become 60 = .ok (.iconst 0, 1) := by decide +kernel
theorem dX8_become_61 : decode cX8_become 61 = .ok (.aload_n 1, 1) := by decide +kernel
theorem dX8_become_62 : decode cX8_become 62 = .ok (.getfield 33, 3) := by decide +kernel
theorem dX8_become_65 : decode cX8_become 65 = .ok (.invokestatic 42, 3) := by decide +kernel
theorem dX8_become_68 : decode cX8_become 68 = .ok (.aload_n 1, 1) := by decide +kernel
theorem dX8_become_69 : decode cX8_become 69 = .ok (.getfield 36, 3) := by decide +kernel
theorem dX8_become_72 : decode cX8_become 72 = .ok (.iconst 0, 1) := by decide +kernel
theorem dX8_become_73 : decode cX8_become 73 = .ok (.aload_n 0, 1) := by decide +kernel
theorem dX8_become_74 : decode cX8_become 74 = .ok (.getfield 36, 3) := by decide +kernel
theorem dX8_become_77 : decode cX8_become 77 = .ok (.iconst 0, 1) := by decide +kernel
theorem dX8_become_78 : decode cX8_become 78 = .ok (.bipush 16, 2) := by decide +kernel
theorem dX8_become_80 : decode cX8_become 80 = .ok (.invokestatic 42, 3) := by decide +kernel
theorem dX8_become_83 : decode cX8_become 83 = .ok (.aload_n 1, 1) := by decide +kernel
theorem dX8_become_84 : decode cX8_become 84 = .ok (.getfield 39, 3) := by decide +kernel
theorem dX8_become_87 : decode cX8_become 87 = .ok (.iconst 0, 1) := by decide +kernel
theorem dX8_become_88 : decode cX8_become 88 = .ok (.aload_n 0, 1) := by decide +kernel
theorem dX8_become_89 : decode cX8_become 89 = .ok (.getfield 39, 3) := by decide +kernel
theorem dX8_become_92 : decode cX8_become 92 = .ok (.iconst 0, 1) := by decide +kernel
theorem dX8_become_93 : decode cX8_become 93 = .ok (.bipush 16, 2) := by decide +kernel
theorem dX8_become_95 : decode cX8_become 95 = .ok (.invokestatic 42, 3) := by decide +kernel
theorem dX8_become_98 : decode cX8_become 98 = .ok (.aload_n 0, 1) := by decide +kernel
theorem dX8_become_99 : decode cX8_become 99 = .ok (.aload_n 1, 1) := by decide +kernel
theorem dX8_become_100 : decode cX8_become 100 = .ok (.getfield 15, 3) := by decide +kernel
theorem dX8_become_103 : decode cX8_become 103 = .ok (.putfield 15, 3) := by decide +kernel
theorem dX8_become_106 : decode cX8_become 106 = .ok (.aload_n 0, 1) := by decide +kernel
theorem dX8_become_107 : decode cX8_become 107 = .ok (.aload_n 1, 1) := by decide +kernel
theorem dX8_become_108 : decode cX8_become 108 = .ok (.getfield 27, 3) := by decide +kernel
theorem dX8_become_111 : decode cX8_become 111 = .ok (.putfield 27, 3) := by decide +kernel
theorem dX8_become_114 : decode cX8_become 114 = .ok (.aload_n 0, 1) := by decide +kernel
theorem dX8_become_115 : decode cX8_become 115 = .ok (.aload_n 1, 1) := by decide +kernel
theorem dX8_become_116 : decode cX8_become 116 = .ok (.getfield 33, 3) := by decide +kernel
theorem dX8_become_119 : decode cX8_become 119 = .ok (.putfield 33, 3) := by decide +kernel
theorem dX8_become_122 : decode cX8_become 122 = .ok (.return_, 1) := by decide +kernel
theorem dX8_findLines_0 : decode cX8_findLines 0 = .ok (.aload_n 0, 1) := by decide +kernel
theorem dX8_findLines_1 : decode cX8_findLines 1 = .ok (.getfield 19, 3) := by decide +kernel
theorem dX8_findLines_4 : decode cX8_findLines 4 = .ok (.iconst 0, 1) := by decide +kernel
theorem dX8_findLines_5 : decode cX8_findLines 5 = .ok (.iconst 0, 1) := by decide +kernel
theorem dX8_findLines_6 : decode cX8_findLines 6 = .ok (.iastore, 1) := by decide +kernel
theorem dX8_findLines_7 : decode cX8_findLines 7 = .ok (.aload_n 0, 1) := by decide +kernel
theorem dX8_findLines_8 : decode cX8_findLines 8 = .ok (.iconst 1, 1) := by decide +kernel
theorem dX8_findLines_9 : decode cX8_findLines 9 = .ok (.putfield 27, 3) := by decide +kernel
theorem dX8_findLines_12 : decode cX8_findLines 12 = .ok (.iconst 0, 1) := by decide +kernel
theorem dX8_findLines_13 : decode cX8_findLines 13 = .ok (.istore_n 1, 1) := by decide +kernel
theorem dX8_findLines_14 : decode cX8_findLines 14 = .ok (.iload_n 1, 1) := by decide +kernel
theorem dX8_findLines_15 : decode cX8_findLines 15 = .ok (.aload_n 0, 1) := by decide +kernel
theorem dX8_findLines_16 : decode cX8_findLines 16 = .ok (.getfield 15, 3) := by decide +kernel
theorem dX8_findLines_19 : decode cX8_findLines 19 = .ok (.if_icmp .ge 52, 3) := by decide +kernel
theorem dX8_findLines_22 : decode cX8_findLines 22 = .ok (.aload_n 0, 1) := by decide +kernel
theorem dX8_findLines_23 : decode cX8_findLines 23 = .ok (.getfield 27, 3) := by decide +kernel
theorem dX8_findLines_26 : decode cX8_findLines 26 = .ok (.sipush 300, 3) := by decide +kernel
theorem dX8_findLines_29 : decode cX8_findLines 29 = .ok (.if_icmp .ge 42, 3) := by decide +kernel
theorem dX8_findLines_32 : decode cX8_findLines 32 = .ok (.aload_n 0, 1) := by decide +kernel
theorem dX8_findLines_33 : decode cX8_findLines 33 = .ok (.getfield 9, 3) := by decide +kernel
theorem dX8_findLines_36 : decode cX8_findLines 36 = .ok (.iload_n 1, 1) := by decide +kernel
theorem dX8_findLines_37 : decode cX8_findLines 37 = .ok (.baload, 1) := by decide +kernel
theorem dX8_findLines_38 : decode cX8_findLines 38 = .ok (.bipush 10, 2) := by decide +kernel
theorem dX8_findLines_40 : decode cX8_findLines 40 = .ok (.if_icmp .ne 25, 3) := by decide +kernel
theorem dX8_findLines_43 : decode cX8_findLines 43 = .ok (.aload_n 0, 1) := by decide +kernel
theorem dX8_findLines_44 : decode cX8_findLines 44 = .ok (.getfield 19, 3) := by decide +kernel
theorem dX8_findLines_47 : decode cX8_findLines 47 = .ok (.aload_n 0, 1) := by decide +kernel
theorem dX8_findLines_48 : decode cX8_findLines 48 = .ok (.getfield 27, 3) := by decide +kernel
theorem dX8_findLines_51 : decode cX8_findLines 51 = .ok (.iload_n 1, 1) := by decide +kernel
theorem dX8_findLines_52 : decode cX8_findLines 52 = .ok (.iconst 1, 1) := by decide +kernel
theorem dX8_findLines_53 : decode cX8_findLines 53 = .ok (.iadd, 1) := by decide +kernel
theorem dX8_findLines_54 : decode cX8_findLines 54 = .ok (.iastore, 1) := by decide +kernel
theorem dX8_findLines_55 : decode cX8_findLines 55 = .ok (.aload_n 0, 1) := by decide +kernel
theorem dX8_findLines_56 : decode cX8_findLines 56 = .ok (.dup, 1) := by decide +kernel
theorem dX8_findLines_57 : decode cX8_findLines 57 = .ok (.getfield 27, 3) := by decide +kernel
theorem dX8_findLines_60 : decode cX8_findLines 60 = .ok (.iconst 1, 1) := by decide +kernel
theorem dX8_findLines_61 : decode cX8_findLines 61 = .ok (.iadd, 1) := by decide +kernel
theorem dX8_findLines_62 : decode cX8_findLines 62 = .ok (.putfield 27, 3) := by decide +kernel
theorem dX8_findLines_65 : decode cX8_findLines 65 = .ok (.iinc 1 1, 3) := by decide +kernel
theorem dX8_findLines_68 : decode cX8_findLines 68 = .ok (.goto (-54), 3) := by decide +kernel
theorem dX8_findLines_71 : decode cX8_findLines 71 = .ok (.return_, 1) := by decide +kernel
theorem dX8_lineWith_0 : decode cX8_lineWith 0 = .ok (.iconst 0, 1) := by decide +kernel
theorem dX8_lineWith_1 : decode cX8_lineWith 1 = .ok (.istore_n 2, 1) := by decide +kernel
theorem dX8_lineWith_2 : decode cX8_lineWith 2 = .ok (.sipush 256, 3) := by decide +kernel
theorem dX8_lineWith_5 : decode cX8_lineWith 5 = .ok (.istore_n 3, 1) := by decide +kernel
theorem dX8_lineWith_6 : decode cX8_lineWith 6 = .ok (.iload_n 3, 1) := by decide +kernel
theorem dX8_lineWith_7 : decode cX8_lineWith 7 = .ok (.ifCond .le 36, 3) := by decide +kernel
theorem dX8_lineWith_10 : decode cX8_lineWith 10 = .ok (.iload_n 2, 1) := by decide +kernel
theorem dX8_lineWith_11 : decode cX8_lineWith 11 = .ok (.iload_n 3, 1) := by decide +kernel
theorem dX8_lineWith_12 : decode cX8_lineWith 12 = .ok (.iadd, 1) := by decide +kernel
theorem dX8_lineWith_13 : decode cX8_lineWith 13 = .ok (.aload_n 0, 1) := by decide +kernel
theorem dX8_lineWith_14 : decode cX8_lineWith 14 = .ok (.getfield 27, 3) := by decide +kernel
theorem dX8_lineWith_17 : decode cX8_lineWith 17 = .ok (.if_icmp .ge 19, 3) := by decide +kernel
theorem dX8_lineWith_20 : decode cX8_lineWith 20 = .ok (.aload_n 0, 1) := by decide +kernel
theorem dX8_lineWith_21 : decode cX8_lineWith 21 = .ok (.getfield 19, 3) := by decide +kernel
theorem dX8_lineWith_24 : decode cX8_lineWith 24 = .ok (.iload_n 2, 1) := by decide +kernel
theorem dX8_lineWith_25 : decode cX8_lineWith 25 = .ok (.iload_n 3, 1) := by decide +kernel
theorem dX8_lineWith_26 : decode cX8_lineWith 26 = .ok (.iadd, 1) := by decide +kernel
theorem dX8_lineWith_27 : decode cX8_lineWith 27 = .ok (.iaload, 1) := by decide +kernel
theorem dX8_lineWith_28 : decode cX8_lineWith 28 = .ok (.iload_n 1, 1) := by decide +kernel
theorem dX8_lineWith_29 : decode cX8_lineWith 29 = .ok (.if_icmp .gt 7, 3) := by decide +kernel
theorem dX8_lineWith_32 : decode cX8_lineWith 32 = .ok (.iload_n 2, 1) := by decide +kernel
theorem dX8_lineWith_33 : decode cX8_lineWith 33 = .ok (.iload_n 3, 1) := by decide +kernel
theorem dX8_lineWith_34 : decode cX8_lineWith 34 = .ok (.iadd, 1) := by decide +kernel
theorem dX8_lineWith_35 : decode cX8_lineWith 35 = .ok (.istore_n 2, 1) := by decide +kernel
theorem dX8_lineWith_36 : decode cX8_lineWith 36 = .ok (.iload_n 3, 1) := by decide +kernel
theorem dX8_lineWith_37 : decode cX8_lineWith 37 = .ok (.iconst 1, 1) := by decide +kernel
theorem dX8_lineWith_38 : decode cX8_lineWith 38 = .ok (.ishr, 1) := by decide +kernel
theorem dX8_lineWith_39 : decode cX8_lineWith 39 = .ok (.istore_n 3, 1) := by decide +kernel
theorem dX8_lineWith_40 : decode cX8_lineWith 40 = .ok (.goto (-34), 3) := by decide +kernel
theorem dX8_lineWith_43 : decode cX8_lineWith 43 = .ok (.iload_n 2, 1) := by decide +kernel
theorem dX8_lineWith_44 : decode cX8_lineWith 44 = .ok (.ireturn, 1) := by decide +kernel
theorem dX8_endOf_0 : decode cX8_endOf 0 = .ok (.iload_n 1, 1) := by decide +kernel
theorem dX8_endOf_1 : decode cX8_endOf 1 = .ok (.iconst 1, 1) := by decide +kernel
theorem dX8_endOf_2 : decode cX8_endOf 2 = .ok (.iadd, 1) := by decide +kernel
theorem dX8_endOf_3 : decode cX8_endOf 3 = .ok (.aload_n 0, 1) := by decide +kernel
theorem dX8_endOf_4 : decode cX8_endOf 4 = .ok (.getfield 27, 3) := by decide +kernel
theorem dX8_endOf_7 : decode cX8_endOf 7 = .ok (.if_icmp .ge 16, 3) := by decide +kernel
theorem dX8_endOf_10 : decode cX8_endOf 10 = .ok (.aload_n 0, 1) := by decide +kernel
theorem dX8_endOf_11 : decode cX8_endOf 11 = .ok (.getfield 19, 3) := by decide +kernel
theorem dX8_endOf_14 : decode cX8_endOf 14 = .ok (.iload_n 1, 1) := by decide +kernel
theorem dX8_endOf_15 : decode cX8_endOf 15 = .ok (.iconst 1, 1) := by decide +kernel
theorem dX8_endOf_16 : decode cX8_endOf 16 = .ok (.iadd, 1) := by decide +kernel
theorem dX8_endOf_17 : decode cX8_endOf 17 = .ok (.iaload, 1) := by decide +kernel
theorem dX8_endOf_18 : decode cX8_endOf 18 = .ok (.iconst 1, 1) := by decide +kernel
theorem dX8_endOf_19 : decode cX8_endOf 19 = .ok (.isub, 1) := by decide +kernel
theorem dX8_endOf_20 : decode cX8_endOf 20 = .ok (.goto 7, 3) := by decide +kernel
theorem dX8_endOf_23 : decode cX8_endOf 23 = .ok (.aload_n 0, 1) := by decide +kernel
theorem dX8_endOf_24 : decode cX8_endOf 24 = .ok (.getfield 15, 3) := by decide +kernel
theorem dX8_endOf_27 : decode cX8_endOf 27 = .ok (.ireturn, 1) := by decide +kernel
theorem dX8_columnWith_0 : decode cX8_columnWith 0 = .ok (.iconst 0, 1) := by decide +kernel
theorem dX8_columnWith_1 : decode cX8_columnWith 1 = .ok (.istore_n 3, 1) := by decide +kernel
theorem dX8_columnWith_2 : decode cX8_columnWith 2 = .ok (.aload_n 0, 1) := by decide +kernel
theorem dX8_columnWith_3 : decode cX8_columnWith 3 = .ok (.getfield 19, 3) := by decide +kernel
theorem dX8_columnWith_6 : decode cX8_columnWith 6 = .ok (.aload_n 0, 1) := by decide +kernel
theorem dX8_columnWith_7 : decode cX8_columnWith 7 = .ok (.iload_n 1, 1) := by decide +kernel
theorem dX8_columnWith_8 : decode cX8_columnWith 8 = .ok (.invokevirtual 48, 3) := by decide +kernel
theorem dX8_columnWith_11 : decode cX8_columnWith 11 = .ok (.iaload, 1) := by decide +kernel
theorem dX8_columnWith_12 : decode cX8_columnWith 12 = .ok (.istore 4, 2) := by decide +kernel
theorem dX8_columnWith_14 : decode cX8_columnWith 14 = .ok (.iload 4, 2) := by decide +kernel
theorem dX8_columnWith_16 : decode cX8_columnWith 16 = .ok (.iload_n 1, 1) := by decide +kernel
theorem dX8_columnWith_17 : decode cX8_columnWith 17 = .ok (.if_icmp .ge 22, 3) := by decide +kernel
theorem dX8_columnWith_20 : decode cX8_columnWith 20 = .ok (.iload_n 3, 1) := by decide +kernel
theorem dX8_columnWith_21 : decode cX8_columnWith 21 = .ok (.aload_n 0, 1) := by decide +kernel
theorem dX8_columnWith_22 : decode cX8_columnWith 22 = .ok (.getfield 9, 3) := by decide +kernel
theorem dX8_columnWith_25 : decode cX8_columnWith 25 = .ok (.iload 4, 2) := by decide +kernel
theorem dX8_columnWith_27 : decode cX8_columnWith 27 = .ok (.baload, 1) := by decide +kernel
theorem dX8_columnWith_28 : decode cX8_columnWith 28 = .ok (.iload_n 2, 1) := by decide +kernel
theorem dX8_columnWith_29 : decode cX8_columnWith 29 = .ok (.invokestatic 52, 3) := by decide +kernel
theorem dX8_columnWith_32 : decode cX8_columnWith 32 = .ok (.istore_n 3, 1) := by decide +kernel
theorem dX8_columnWith_33 : decode cX8_columnWith 33 = .ok (.iinc 4 1, 3) := by decide +kernel
theorem dX8_columnWith_36 : decode cX8_columnWith 36 = .ok (.goto (-22), 3) := by decide +kernel
theorem dX8_columnWith_39 : decode cX8_columnWith 39 = .ok (.iload_n 3, 1) := by decide +kernel
theorem dX8_columnWith_40 : decode cX8_columnWith 40 = .ok (.ireturn, 1) := by decide +kernel
theorem dX8_placeWith_0 : decode cX8_placeWith 0 = .ok (.aload_n 0, 1) := by decide +kernel
theorem dX8_placeWith_1 : decode cX8_placeWith 1 = .ok (.iload_n 1, 1) := by decide +kernel
theorem dX8_placeWith_2 : decode cX8_placeWith 2 = .ok (.invokevirtual 56, 3) := by decide +kernel
theorem dX8_placeWith_5 : decode cX8_placeWith 5 = .ok (.istore 4, 2) := by decide +kernel
theorem dX8_placeWith_7 : decode cX8_placeWith 7 = .ok (.iconst 0, 1) := by decide +kernel
theorem dX8_placeWith_8 : decode cX8_placeWith 8 = .ok (.istore 5, 2) := by decide +kernel
theorem dX8_placeWith_10 : decode cX8_placeWith 10 = .ok (.aload_n 0, 1) := by decide +kernel
theorem dX8_placeWith_11 : decode cX8_placeWith 11 = .ok (.getfield 19, 3) := by decide +kernel
theorem dX8_placeWith_14 : decode cX8_placeWith 14 = .ok (.iload_n 1, 1) := by decide +kernel
theorem dX8_placeWith_15 : decode cX8_placeWith 15 = .ok (.iaload, 1) := by decide +kernel
theorem dX8_placeWith_16 : decode cX8_placeWith 16 = .ok (.istore 6, 2) := by decide +kernel
theorem dX8_placeWith_18 : decode cX8_placeWith 18 = .ok (.iload 6, 2) := by decide +kernel
theorem dX8_placeWith_20 : decode cX8_placeWith 20 = .ok (.iload 4, 2) := by decide +kernel
theorem dX8_placeWith_22 : decode cX8_placeWith 22 = .ok (.if_icmp .ge 30, 3) := by decide +kernel
theorem dX8_placeWith_25 : decode cX8_placeWith 25 = .ok (.iload 5, 2) := by decide +kernel
theorem dX8_placeWith_27 : decode cX8_placeWith 27 = .ok (.iload_n 2, 1) := by decide +kernel
theorem dX8_placeWith_28 : decode cX8_placeWith 28 = .ok (.if_icmp .ge 24, 3) := by decide +kernel
theorem dX8_placeWith_31 : decode cX8_placeWith 31 = .ok (.iload 5, 2) := by decide +kernel
theorem dX8_placeWith_33 : decode cX8_placeWith 33 = .ok (.aload_n 0, 1) := by decide +kernel
theorem dX8_placeWith_34 : decode cX8_placeWith 34 = .ok (.getfield 9, 3) := by decide +kernel
theorem dX8_placeWith_37 : decode cX8_placeWith 37 = .ok (.iload 6, 2) := by decide +kernel
theorem dX8_placeWith_39 : decode cX8_placeWith 39 = .ok (.baload, 1) := by decide +kernel
theorem dX8_placeWith_40 : decode cX8_placeWith 40 = .ok (.iload_n 3, 1) := by decide +kernel
theorem dX8_placeWith_41 : decode cX8_placeWith 41 = .ok (.invokestatic 52, 3) := by decide +kernel
theorem dX8_placeWith_44 : decode cX8_placeWith 44 = .ok (.istore 5, 2) := by decide +kernel
theorem dX8_placeWith_46 : decode cX8_placeWith 46 = .ok (.iinc 6 1, 3) := by decide +kernel
theorem dX8_placeWith_49 : decode cX8_placeWith 49 = .ok (.goto (-31), 3) := by decide +kernel
theorem dX8_placeWith_52 : decode cX8_placeWith 52 = .ok (.iload 6, 2) := by decide +kernel
theorem dX8_placeWith_54 : decode cX8_placeWith 54 = .ok (.ireturn, 1) := by decide +kernel
theorem dX8_blanksFrom_0 : decode cX8_blanksFrom 0 = .ok (.iconst 0, 1) := by decide +kernel
theorem dX8_blanksFrom_1 : decode cX8_blanksFrom 1 = .ok (.istore_n 3, 1) := by decide +kernel
theorem dX8_blanksFrom_2 : decode cX8_blanksFrom 2 = .ok (.iload_n 3, 1) := by decide +kernel
theorem dX8_blanksFrom_3 : decode cX8_blanksFrom 3 = .ok (.iload_n 2, 1) := by decide +kernel
theorem dX8_blanksFrom_4 : decode cX8_blanksFrom 4 = .ok (.if_icmp .ge 45, 3) := by decide +kernel
theorem dX8_blanksFrom_7 : decode cX8_blanksFrom 7 = .ok (.iload_n 1, 1) := by decide +kernel
theorem dX8_blanksFrom_8 : decode cX8_blanksFrom 8 = .ok (.iload_n 3, 1) := by decide +kernel
theorem dX8_blanksFrom_9 : decode cX8_blanksFrom 9 = .ok (.iadd, 1) := by decide +kernel
theorem dX8_blanksFrom_10 : decode cX8_blanksFrom 10 = .ok (.aload_n 0, 1) := by decide +kernel
theorem dX8_blanksFrom_11 : decode cX8_blanksFrom 11 = .ok (.getfield 15, 3) := by decide +kernel
theorem dX8_blanksFrom_14 : decode cX8_blanksFrom 14 = .ok (.if_icmp .ge 35, 3) := by decide +kernel
theorem dX8_blanksFrom_17 : decode cX8_blanksFrom 17 = .ok (.aload_n 0, 1) := by decide +kernel
theorem dX8_blanksFrom_18 : decode cX8_blanksFrom 18 = .ok (.getfield 9, 3) := by decide +kernel
theorem dX8_blanksFrom_21 : decode cX8_blanksFrom 21 = .ok (.iload_n 1, 1) := by decide +kernel
theorem dX8_blanksFrom_22 : decode cX8_blanksFrom 22 = .ok (.iload_n 3, 1) := by decide +kernel
theorem dX8_blanksFrom_23 : decode cX8_blanksFrom 23 = .ok (.iadd, 1) := by decide +kernel
theorem dX8_blanksFrom_24 : decode cX8_blanksFrom 24 = .ok (.baload, 1) := by decide +kernel
theorem dX8_blanksFrom_25 : decode cX8_blanksFrom 25 = .ok (.bipush 32, 2) := by decide +kernel
theorem dX8_blanksFrom_27 : decode cX8_blanksFrom 27 = .ok (.if_icmp .eq 16, 3) := by decide +kernel
theorem dX8_blanksFrom_30 : decode cX8_blanksFrom 30 = .ok (.aload_n 0, 1) := by decide +kernel
theorem dX8_blanksFrom_31 : decode cX8_blanksFrom 31 = .ok (.getfield 9, 3) := by decide +kernel
theorem dX8_blanksFrom_34 : decode cX8_blanksFrom 34 = .ok (.iload_n 1, 1) := by decide +kernel
theorem dX8_blanksFrom_35 : decode cX8_blanksFrom 35 = .ok (.iload_n 3, 1) := by decide +kernel
theorem dX8_blanksFrom_36 : decode cX8_blanksFrom 36 = .ok (.iadd, 1) := by decide +kernel
theorem dX8_blanksFrom_37 : decode cX8_blanksFrom 37 = .ok (.baload, 1) := by decide +kernel
theorem dX8_blanksFrom_38 : decode cX8_blanksFrom 38 = .ok (.bipush 9, 2) := by decide +kernel
theorem dX8_blanksFrom_40 : decode cX8_blanksFrom 40 = .ok (.if_icmp .ne 9, 3) := by decide +kernel
theorem dX8_blanksFrom_43 : decode cX8_blanksFrom 43 = .ok (.iinc 3 1, 3) := by decide +kernel
theorem dX8_blanksFrom_46 : decode cX8_blanksFrom 46 = .ok (.goto (-44), 3) := by decide +kernel
theorem dX8_blanksFrom_49 : decode cX8_blanksFrom 49 = .ok (.iload_n 3, 1) := by decide +kernel
theorem dX8_blanksFrom_50 : decode cX8_blanksFrom 50 = .ok (.ireturn, 1) := by decide +kernel
theorem dX8_isBlankLine_0 : decode cX8_isBlankLine 0 = .ok (.aload_n 0, 1) := by decide +kernel
theorem dX8_isBlankLine_1 : decode cX8_isBlankLine 1 = .ok (.getfield 19, 3) := by decide +kernel
theorem dX8_isBlankLine_4 : decode cX8_isBlankLine 4 = .ok (.iload_n 1, 1) := by decide +kernel
theorem dX8_isBlankLine_5 : decode cX8_isBlankLine 5 = .ok (.iaload, 1) := by decide +kernel
theorem dX8_isBlankLine_6 : decode cX8_isBlankLine 6 = .ok (.istore_n 2, 1) := by decide +kernel
theorem dX8_isBlankLine_7 : decode cX8_isBlankLine 7 = .ok (.iload_n 2, 1) := by decide +kernel
theorem dX8_isBlankLine_8 : decode cX8_isBlankLine 8 = .ok (.aload_n 0, 1) := by decide +kernel
theorem dX8_isBlankLine_9 : decode cX8_isBlankLine 9 = .ok (.getfield 15, 3) := by decide +kernel
theorem dX8_isBlankLine_12 : decode cX8_isBlankLine 12 = .ok (.if_icmp .ge 31, 3) := by decide +kernel
theorem dX8_isBlankLine_15 : decode cX8_isBlankLine 15 = .ok (.aload_n 0, 1) := by decide +kernel
theorem dX8_isBlankLine_16 : decode cX8_isBlankLine 16 = .ok (.getfield 9, 3) := by decide +kernel
theorem dX8_isBlankLine_19 : decode cX8_isBlankLine 19 = .ok (.iload_n 2, 1) := by decide +kernel
theorem dX8_isBlankLine_20 : decode cX8_isBlankLine 20 = .ok (.baload, 1) := by decide +kernel
theorem dX8_isBlankLine_21 : decode cX8_isBlankLine 21 = .ok (.bipush 32, 2) := by decide +kernel
theorem dX8_isBlankLine_23 : decode cX8_isBlankLine 23 = .ok (.if_icmp .eq 14, 3) := by decide +kernel
theorem dX8_isBlankLine_26 : decode cX8_isBlankLine 26 = .ok (.aload_n 0, 1) := by decide +kernel
theorem dX8_isBlankLine_27 : decode cX8_isBlankLine 27 = .ok (.getfield 9, 3) := by decide +kernel
theorem dX8_isBlankLine_30 : decode cX8_isBlankLine 30 = .ok (.iload_n 2, 1) := by decide +kernel
theorem dX8_isBlankLine_31 : decode cX8_isBlankLine 31 = .ok (.baload, 1) := by decide +kernel
theorem dX8_isBlankLine_32 : decode cX8_isBlankLine 32 = .ok (.bipush 9, 2) := by decide +kernel
theorem dX8_isBlankLine_34 : decode cX8_isBlankLine 34 = .ok (.if_icmp .ne 9, 3) := by decide +kernel
theorem dX8_isBlankLine_37 : decode cX8_isBlankLine 37 = .ok (.iinc 2 1, 3) := by decide +kernel
theorem dX8_isBlankLine_40 : decode cX8_isBlankLine 40 = .ok (.goto (-33), 3) := by decide +kernel
theorem dX8_isBlankLine_43 : decode cX8_isBlankLine 43 = .ok (.iload_n 2, 1) := by decide +kernel
theorem dX8_isBlankLine_44 : decode cX8_isBlankLine 44 = .ok (.aload_n 0, 1) := by decide +kernel
theorem dX8_isBlankLine_45 : decode cX8_isBlankLine 45 = .ok (.getfield 15, 3) := by decide +kernel
theorem dX8_isBlankLine_48 : decode cX8_isBlankLine 48 = .ok (.if_icmp .ge 14, 3) := by decide +kernel
theorem dX8_isBlankLine_51 : decode cX8_isBlankLine 51 = .ok (.aload_n 0, 1) := by decide +kernel
theorem dX8_isBlankLine_52 : decode cX8_isBlankLine 52 = .ok (.getfield 9, 3) := by decide +kernel
theorem dX8_isBlankLine_55 : decode cX8_isBlankLine 55 = .ok (.iload_n 2, 1) := by decide +kernel
theorem dX8_isBlankLine_56 : decode cX8_isBlankLine 56 = .ok (.baload, 1) := by decide +kernel
theorem dX8_isBlankLine_57 : decode cX8_isBlankLine 57 = .ok (.bipush 10, 2) := by decide +kernel
theorem dX8_isBlankLine_59 : decode cX8_isBlankLine 59 = .ok (.if_icmp .ne 7, 3) := by decide +kernel
theorem dX8_isBlankLine_62 : decode cX8_isBlankLine 62 = .ok (.iconst 1, 1) := by decide +kernel
theorem dX8_isBlankLine_63 : decode cX8_isBlankLine 63 = .ok (.goto 4, 3) := by decide +kernel
theorem dX8_isBlankLine_66 : decode cX8_isBlankLine 66 = .ok (.iconst 0, 1) := by decide +kernel
theorem dX8_isBlankLine_67 : decode cX8_isBlankLine 67 = .ok (.ireturn, 1) := by decide +kernel
theorem dX8_isParagraph_0 : decode cX8_isParagraph 0 = .ok (.aload_n 0, 1) := by decide +kernel
theorem dX8_isParagraph_1 : decode cX8_isParagraph 1 = .ok (.iload_n 1, 1) := by decide +kernel
theorem dX8_isParagraph_2 : decode cX8_isParagraph 2 = .ok (.invokevirtual 59, 3) := by decide +kernel
theorem dX8_isParagraph_5 : decode cX8_isParagraph 5 = .ok (.ifCond .ne 21, 3) := by decide +kernel
theorem dX8_isParagraph_8 : decode cX8_isParagraph 8 = .ok (.iload_n 1, 1) := by decide +kernel
theorem dX8_isParagraph_9 : decode cX8_isParagraph 9 = .ok (.ifCond .eq 13, 3) := by decide +kernel
theorem dX8_isParagraph_12 : decode cX8_isParagraph 12 = .ok (.aload_n 0, 1) := by decide +kernel
theorem dX8_isParagraph_13 : decode cX8_isParagraph 13 = .ok (.iload_n 1, 1) := by decide +kernel
theorem dX8_isParagraph_14 : decode cX8_isParagraph 14 = .ok (.iconst 1, 1) := by decide +kernel
theorem dX8_isParagraph_15 : decode cX8_isParagraph 15 = .ok (.isub, 1) := by decide +kernel
theorem dX8_isParagraph_16 : decode cX8_isParagraph 16 = .ok (.invokevirtual 59, 3) := by decide +kernel
theorem dX8_isParagraph_19 : decode cX8_isParagraph 19 = .ok (.ifCond .eq 7, 3) := by decide +kernel
theorem dX8_isParagraph_22 : decode cX8_isParagraph 22 = .ok (.iconst 1, 1) := by decide +kernel
theorem dX8_isParagraph_23 : decode cX8_isParagraph 23 = .ok (.goto 4, 3) := by decide +kernel
theorem dX8_isParagraph_26 : decode cX8_isParagraph 26 = .ok (.iconst 0, 1) := by decide +kernel
theorem dX8_isParagraph_27 : decode cX8_isParagraph 27 = .ok (.ireturn, 1) := by decide +kernel
theorem dX8_hasCursorAt_0 : decode cX8_hasCursorAt 0 = .ok (.iconst 0, 1) := by decide +kernel
theorem dX8_hasCursorAt_1 : decode cX8_hasCursorAt 1 = .ok (.istore_n 2, 1) := by decide +kernel
theorem dX8_hasCursorAt_2 : decode cX8_hasCursorAt 2 = .ok (.iload_n 2, 1) := by decide +kernel
theorem dX8_hasCursorAt_3 : decode cX8_hasCursorAt 3 = .ok (.aload_n 0, 1) := by decide +kernel
theorem dX8_hasCursorAt_4 : decode cX8_hasCursorAt 4 = .ok (.getfield 33, 3) := by decide +kernel
theorem dX8_hasCursorAt_7 : decode cX8_hasCursorAt 7 = .ok (.if_icmp .ge 21, 3) := by decide +kernel
theorem dX8_hasCursorAt_10 : decode cX8_hasCursorAt 10 = .ok (.aload_n 0, 1) := by decide +kernel
theorem dX8_hasCursorAt_11 : decode cX8_hasCursorAt 11 = .ok (.getfield 30, 3) := by decide +kernel
theorem dX8_hasCursorAt_14 : decode cX8_hasCursorAt 14 = .ok (.iload_n 2, 1) := by decide +kernel
theorem dX8_hasCursorAt_15 : decode cX8_hasCursorAt 15 = .ok (.iaload, 1) := by decide +kernel
theorem dX8_hasCursorAt_16 : decode cX8_hasCursorAt 16 = .ok (.iload_n 1, 1) := by decide +kernel
theorem dX8_hasCursorAt_17 : decode cX8_hasCursorAt 17 = .ok (.if_icmp .ne 5, 3) := by decide +kernel
theorem dX8_hasCursorAt_20 : decode cX8_hasCursorAt 20 = .ok (.iconst 1, 1) := by decide +kernel
theorem dX8_hasCursorAt_21 : decode cX8_hasCursorAt 21 = .ok (.ireturn, 1) := by decide +kernel
theorem dX8_hasCursorAt_22 : decode cX8_hasCursorAt 22 = .ok (.iinc 2 1, 3) := by decide +kernel
theorem dX8_hasCursorAt_25 : decode cX8_hasCursorAt 25 = .ok (.goto (-23), 3) := by decide +kernel
theorem dX8_hasCursorAt_28 : decode cX8_hasCursorAt 28 = .ok (.iconst 0, 1) := by decide +kernel
theorem dX8_hasCursorAt_29 : decode cX8_hasCursorAt 29 = .ok (.ireturn, 1) := by decide +kernel
theorem dX8_hasCursorInLines_0 : decode cX8_hasCursorInLines 0 = .ok (.iconst 0, 1) := by decide +kernel
theorem dX8_hasCursorInLines_1 : decode cX8_hasCursorInLines 1 = .ok (.istore_n 3, 1) := by decide +kernel
theorem dX8_hasCursorInLines_2 : decode cX8_hasCursorInLines 2 = .ok (.iload_n 3, 1) := by decide +kernel
theorem dX8_hasCursorInLines_3 : decode cX8_hasCursorInLines 3 = .ok (.aload_n 0, 1) := by decide +kernel
theorem dX8_hasCursorInLines_4 : decode cX8_hasCursorInLines 4 = .ok (.getfield 33, 3) := by decide +kernel
theorem dX8_hasCursorInLines_7 : decode cX8_hasCursorInLines 7 = .ok (.if_icmp .ge 35, 3) := by decide +kernel
theorem dX8_hasCursorInLines_10 : decode cX8_hasCursorInLines 10 = .ok (.aload_n 0, 1) := by decide +kernel
theorem dX8_hasCursorInLines_11 : decode cX8_hasCursorInLines 11 = .ok (.aload_n 0, 1) := by decide +kernel
theorem dX8_hasCursorInLines_12 : decode cX8_hasCursorInLines 12 = .ok (.getfield 30, 3) := by decide +kernel
theorem dX8_hasCursorInLines_15 : decode cX8_hasCursorInLines 15 = .ok (.iload_n 3, 1) := by decide +kernel
theorem dX8_hasCursorInLines_16 : decode cX8_hasCursorInLines 16 = .ok (.iaload, 1) := by decide +kernel
theorem dX8_hasCursorInLines_17 : decode cX8_hasCursorInLines 17 = .ok (.invokevirtual 48, 3) := by decide +kernel
theorem dX8_hasCursorInLines_20 : decode cX8_hasCursorInLines 20 = .ok (.istore 4, 2) := by decide +kernel
theorem dX8_hasCursorInLines_22 : decode cX8_hasCursorInLines 22 = .ok (.iload 4, 2) := by decide +kernel
theorem dX8_hasCursorInLines_24 : decode cX8_hasCursorInLines 24 = .ok (.iload_n 1, 1) := by decide +kernel
theorem dX8_hasCursorInLines_25 : decode cX8_hasCursorInLines 25 = .ok (.if_icmp .lt 11, 3) := by decide +kernel
theorem dX8_hasCursorInLines_28 : decode cX8_hasCursorInLines 28 = .ok (.iload 4, 2) := by decide +kernel
theorem dX8_hasCursorInLines_30 : decode cX8_hasCursorInLines 30 = .ok (.iload_n 2, 1) := by decide +kernel
theorem dX8_hasCursorInLines_31 : decode cX8_hasCursorInLines 31 = .ok (.if_icmp .gt 5, 3) := by decide +kernel
theorem dX8_hasCursorInLines_34 : decode cX8_hasCursorInLines 34 = .ok (.iconst 1, 1) := by decide +kernel
theorem dX8_hasCursorInLines_35 : decode cX8_hasCursorInLines 35 = .ok (.ireturn, 1) := by decide +kernel
theorem dX8_hasCursorInLines_36 : decode cX8_hasCursorInLines 36 = .ok (.iinc 3 1, 3) := by decide +kernel
theorem dX8_hasCursorInLines_39 : decode cX8_hasCursorInLines 39 = .ok (.goto (-37), 3) := by decide +kernel
theorem dX8_hasCursorInLines_42 : decode cX8_hasCursorInLines 42 = .ok (.iconst 0, 1) := by decide +kernel
theorem dX8_hasCursorInLines_43 : decode cX8_hasCursorInLines 43 = .ok (.ireturn, 1) := by decide +kernel
theorem dX8_leaveOneCursor_0 : decode cX8_leaveOneCursor 0 = .ok (.aload_n 0, 1) := by decide +kernel
theorem dX8_leaveOneCursor_1 : decode cX8_leaveOneCursor 1 = .ok (.getfield 30, 3) := by decide +kernel
theorem dX8_leaveOneCursor_4 : decode cX8_leaveOneCursor 4 = .ok (.iconst 0, 1) := by decide +kernel
theorem dX8_leaveOneCursor_5 : decode cX8_leaveOneCursor 5 = .ok (.iload_n 1, 1) := by decide +kernel
theorem dX8_leaveOneCursor_6 : decode cX8_leaveOneCursor 6 = .ok (.iastore, 1) := by decide +kernel
theorem dX8_leaveOneCursor_7 : decode cX8_leaveOneCursor 7 = .ok (.aload_n 0, 1) := by decide +kernel
theorem dX8_leaveOneCursor_8 : decode cX8_leaveOneCursor 8 = .ok (.iconst 1, 1) := by decide +kernel
theorem dX8_leaveOneCursor_9 : decode cX8_leaveOneCursor 9 = .ok (.putfield 33, 3) := by decide +kernel
theorem dX8_leaveOneCursor_12 : decode cX8_leaveOneCursor 12 = .ok (.aload_n 0, 1) := by decide +kernel
theorem dX8_leaveOneCursor_13 : decode cX8_leaveOneCursor 13 = .ok (.invokevirtual 63, 3) := by decide +kernel
theorem dX8_leaveOneCursor_16 : decode cX8_leaveOneCursor 16 = .ok (.return_, 1) := by decide +kernel
theorem dX8_settleCursors_0 : decode cX8_settleCursors 0 = .ok (.aload_n 0, 1) := by decide +kernel
theorem dX8_settleCursors_1 : decode cX8_settleCursors 1 = .ok (.invokevirtual 66, 3) := by decide +kernel
theorem dX8_settleCursors_4 : decode cX8_settleCursors 4 = .ok (.iconst 0, 1) := by decide +kernel
theorem dX8_settleCursors_5 : decode cX8_settleCursors 5 = .ok (.istore_n 1, 1) := by decide +kernel
theorem dX8_settleCursors_6 : decode cX8_settleCursors 6 = .ok (.iconst 0, 1) := by decide +kernel
theorem dX8_settleCursors_7 : decode cX8_settleCursors 7 = .ok (.istore_n 2, 1) := by decide +kernel
theorem dX8_settleCursors_8 : decode cX8_settleCursors 8 = .ok (.iload_n 2, 1) := by decide +kernel
theorem dX8_settleCursors_9 : decode cX8_settleCursors 9 = .ok (.aload_n 0, 1) := by decide +kernel
theorem dX8_settleCursors_10 : decode cX8_settleCursors 10 = .ok (.getfield 33, 3) := by decide +kernel
theorem dX8_settleCursors_13 : decode cX8_settleCursors 13 = .ok (.if_icmp .ge 45, 3) := by decide +kernel
theorem dX8_settleCursors_16 : decode cX8_settleCursors 16 = .ok (.iload_n 1, 1) := by decide +kernel
theorem dX8_settleCursors_17 : decode cX8_settleCursors 17 = .ok (.ifCond .eq 20, 3) := by decide +kernel
theorem dX8_settleCursors_20 : decode cX8_settleCursors 20 = .ok (.aload_n 0, 1) := by decide +kernel
theorem dX8_settleCursors_21 : decode cX8_settleCursors 21 = .ok (.getfield 30, 3) := by decide +kernel
theorem dX8_settleCursors_24 : decode cX8_settleCursors 24 = .ok (.iload_n 1, 1) := by decide +kernel
theorem dX8_settleCursors_25 : decode cX8_settleCursors 25 = .ok (.iconst 1, 1) := by decide +kernel
theorem dX8_settleCursors_26 : decode cX8_settleCursors 26 = .ok (.isub, 1) := by decide +kernel
theorem dX8_settleCursors_27 : decode cX8_settleCursors 27 = .ok (.iaload, 1) := by decide +kernel
theorem dX8_settleCursors_28 : decode cX8_settleCursors 28 = .ok (.aload_n 0, 1) := by decide +kernel
theorem dX8_settleCursors_29 : decode cX8_settleCursors 29 = .ok (.getfield 30, 3) := by decide +kernel
theorem dX8_settleCursors_32 : decode cX8_settleCursors 32 = .ok (.iload_n 2, 1) := by decide +kernel
theorem dX8_settleCursors_33 : decode cX8_settleCursors 33 = .ok (.iaload, 1) := by decide +kernel
theorem dX8_settleCursors_34 : decode cX8_settleCursors 34 = .ok (.if_icmp .eq 18, 3) := by decide +kernel
theorem dX8_settleCursors_37 : decode cX8_settleCursors 37 = .ok (.aload_n 0, 1) := by decide +kernel
theorem dX8_settleCursors_38 : decode cX8_settleCursors 38 = .ok (.getfield 30, 3) := by decide +kernel
theorem dX8_settleCursors_41 : decode cX8_settleCursors 41 = .ok (.iload_n 1, 1) := by decide +kernel
theorem dX8_settleCursors_42 : decode cX8_settleCursors 42 = .ok (.aload_n 0, 1) := by decide +kernel
theorem dX8_settleCursors_43 : decode cX8_settleCursors 43 = .ok (.getfield 30, 3) := by decide +kernel
theorem dX8_settleCursors_46 : decode cX8_settleCursors 46 = .ok (.iload_n 2, 1) := by decide +kernel
theorem dX8_settleCursors_47 : decode cX8_settleCursors 47 = .ok (.iaload, 1) := by decide +kernel
theorem dX8_settleCursors_48 : decode cX8_settleCursors 48 = .ok (.iastore, 1) := by decide +kernel
theorem dX8_settleCursors_49 : decode cX8_settleCursors 49 = .ok (.iinc 1 1, 3) := by decide +kernel
theorem dX8_settleCursors_52 : decode cX8_settleCursors 52 = .ok (.iinc 2 1, 3) := by decide +kernel
theorem dX8_settleCursors_55 : decode cX8_settleCursors 55 = .ok (.goto (-47), 3) := by decide +kernel
theorem dX8_settleCursors_58 : decode cX8_settleCursors 58 = .ok (.aload_n 0, 1) := by decide +kernel
theorem dX8_settleCursors_59 : decode cX8_settleCursors 59 = .ok (.iload_n 1, 1) := by decide +kernel
theorem dX8_settleCursors_60 : decode cX8_settleCursors 60 = .ok (.putfield 33, 3) := by decide +kernel
theorem dX8_settleCursors_63 : decode cX8_settleCursors 63 = .ok (.iconst 0, 1) := by decide +kernel
theorem dX8_settleCursors_64 : decode cX8_settleCursors 64 = .ok (.istore_n 2, 1) := by decide +kernel
theorem dX8_settleCursors_65 : decode cX8_settleCursors 65 = .ok (.iload_n 2, 1) := by decide +kernel
theorem dX8_settleCursors_66 : decode cX8_settleCursors 66 = .ok (.aload_n 0, 1) := by decide +kernel
theorem dX8_settleCursors_67 : decode cX8_settleCursors 67 = .ok (.getfield 33, 3) := by decide +kernel
theorem dX8_settleCursors_70 : decode cX8_settleCursors 70 = .ok (.if_icmp .ge 31, 3) := by decide +kernel
theorem dX8_settleCursors_73 : decode cX8_settleCursors 73 = .ok (.aload_n 0, 1) := by decide +kernel
theorem dX8_settleCursors_74 : decode cX8_settleCursors 74 = .ok (.getfield 23, 3) := by decide +kernel
theorem dX8_settleCursors_77 : decode cX8_settleCursors 77 = .ok (.aload_n 0, 1) := by decide +kernel
theorem dX8_settleCursors_78 : decode cX8_settleCursors 78 = .ok (.getfield 27, 3) := by decide +kernel
theorem dX8_settleCursors_81 : decode cX8_settleCursors 81 = .ok (.aload_n 0, 1) := by decide +kernel
theorem dX8_settleCursors_82 : decode cX8_settleCursors 82 = .ok (.aload_n 0, 1) := by decide +kernel
theorem dX8_settleCursors_83 : decode cX8_settleCursors 83 = .ok (.getfield 30, 3) := by decide +kernel
theorem dX8_settleCursors_86 : decode cX8_settleCursors 86 = .ok (.iload_n 2, 1) := by decide +kernel
theorem dX8_settleCursors_87 : decode cX8_settleCursors 87 = .ok (.iaload, 1) := by decide +kernel
theorem dX8_settleCursors_88 : decode cX8_settleCursors 88 = .ok (.invokevirtual 48, 3) := by decide +kernel
theorem dX8_settleCursors_91 : decode cX8_settleCursors 91 = .ok (.invokestatic 69, 3) := by decide +kernel
theorem dX8_settleCursors_94 : decode cX8_settleCursors 94 = .ok (.pop, 1) := by decide +kernel
theorem dX8_settleCursors_95 : decode cX8_settleCursors 95 = .ok (.iinc 2 1, 3) := by decide +kernel
theorem dX8_settleCursors_98 : decode cX8_settleCursors 98 = .ok (.goto (-33), 3) := by decide +kernel
theorem dX8_settleCursors_101 : decode cX8_settleCursors 101 = .ok (.return_, 1) := by decide +kernel
theorem dX8_sortCursors_0 : decode cX8_sortCursors 0 = .ok (.iconst 1, 1) := by decide +kernel
theorem dX8_sortCursors_1 : decode cX8_sortCursors 1 = .ok (.istore_n 1, 1) := by decide +kernel
theorem dX8_sortCursors_2 : decode cX8_sortCursors 2 = .ok (.iload_n 1, 1) := by decide +kernel
theorem dX8_sortCursors_3 : decode cX8_sortCursors 3 = .ok (.aload_n 0, 1) := by decide +kernel
theorem dX8_sortCursors_4 : decode cX8_sortCursors 4 = .ok (.getfield 33, 3) := by decide +kernel
theorem dX8_sortCursors_7 : decode cX8_sortCursors 7 = .ok (.if_icmp .ge 61, 3) := by decide +kernel
theorem dX8_sortCursors_10 : decode cX8_sortCursors 10 = .ok (.aload_n 0, 1) := by decide +kernel
theorem dX8_sortCursors_11 : decode cX8_sortCursors 11 = .ok (.getfield 30, 3) := by decide +kernel
theorem dX8_sortCursors_14 : decode cX8_sortCursors 14 = .ok (.iload_n 1, 1) := by decide +kernel
theorem dX8_sortCursors_15 : decode cX8_sortCursors 15 = .ok (.iaload, 1) := by decide +kernel
theorem dX8_sortCursors_16 : decode cX8_sortCursors 16 = .ok (.istore_n 2, 1) := by decide +kernel
theorem dX8_sortCursors_17 : decode cX8_sortCursors 17 = .ok (.iload_n 1, 1) := by decide +kernel
theorem dX8_sortCursors_18 : decode cX8_sortCursors 18 = .ok (.istore_n 3, 1) := by decide +kernel
theorem dX8_sortCursors_19 : decode cX8_sortCursors 19 = .ok (.iload_n 3, 1) := by decide +kernel
theorem dX8_sortCursors_20 : decode cX8_sortCursors 20 = .ok (.ifCond .le 35, 3) := by decide +kernel
theorem dX8_sortCursors_23 : decode cX8_sortCursors 23 = .ok (.aload_n 0, 1) := by decide +kernel
theorem dX8_sortCursors_24 : decode cX8_sortCursors 24 = .ok (.getfield 30, 3) := by decide +kernel
theorem dX8_sortCursors_27 : decode cX8_sortCursors 27 = .ok (.iload_n 3, 1) := by decide +kernel
theorem dX8_sortCursors_28 : decode cX8_sortCursors 28 = .ok (.iconst 1, 1) := by decide +kernel
theorem dX8_sortCursors_29 : decode cX8_sortCursors 29 = .ok (.isub, 1) := by decide +kernel
theorem dX8_sortCursors_30 : decode cX8_sortCursors 30 = .ok (.iaload, 1) := by decide +kernel
theorem dX8_sortCursors_31 : decode cX8_sortCursors 31 = .ok (.iload_n 2, 1) := by decide +kernel
theorem dX8_sortCursors_32 : decode cX8_sortCursors 32 = .ok (.if_icmp .le 23, 3) := by decide +kernel
theorem dX8_sortCursors_35 : decode cX8_sortCursors 35 = .ok (.aload_n 0, 1) := by decide +kernel
theorem dX8_sortCursors_36 : decode cX8_sortCursors 36 = .ok (.getfield 30, 3) := by decide +kernel
theorem dX8_sortCursors_39 : decode cX8_sortCursors 39 = .ok (.iload_n 3, 1) := by decide +kernel
theorem dX8_sortCursors_40 : decode cX8_sortCursors 40 = .ok (.aload_n 0, 1) := by decide +kernel
theorem dX8_sortCursors_41 : decode cX8_sortCursors 41 = .ok (.getfield 30, 3) := by decide +kernel
theorem dX8_sortCursors_44 : decode cX8_sortCursors 44 = .ok (.iload_n 3, 1) := by decide +kernel
theorem dX8_sortCursors_45 : decode cX8_sortCursors 45 = .ok (.iconst 1, 1) := by decide +kernel
theorem dX8_sortCursors_46 : decode cX8_sortCursors 46 = .ok (.isub, 1) := by decide +kernel
theorem dX8_sortCursors_47 : decode cX8_sortCursors 47 = .ok (.iaload, 1) := by decide +kernel
theorem dX8_sortCursors_48 : decode cX8_sortCursors 48 = .ok (.iastore, 1) := by decide +kernel
theorem dX8_sortCursors_49 : decode cX8_sortCursors 49 = .ok (.iinc 3 (-1), 3) := by decide +kernel
theorem dX8_sortCursors_52 : decode cX8_sortCursors 52 = .ok (.goto (-33), 3) := by decide +kernel
theorem dX8_sortCursors_55 : decode cX8_sortCursors 55 = .ok (.aload_n 0, 1) := by decide +kernel
theorem dX8_sortCursors_56 : decode cX8_sortCursors 56 = .ok (.getfield 30, 3) := by decide +kernel
theorem dX8_sortCursors_59 : decode cX8_sortCursors 59 = .ok (.iload_n 3, 1) := by decide +kernel
theorem dX8_sortCursors_60 : decode cX8_sortCursors 60 = .ok (.iload_n 2, 1) := by decide +kernel
theorem dX8_sortCursors_61 : decode cX8_sortCursors 61 = .ok (.iastore, 1) := by decide +kernel
theorem dX8_sortCursors_62 : decode cX8_sortCursors 62 = .ok (.iinc 1 1, 3) := by decide +kernel
theorem dX8_sortCursors_65 : decode cX8_sortCursors 65 = .ok (.goto (-63), 3) := by decide +kernel
theorem dX8_sortCursors_68 : decode cX8_sortCursors 68 = .ok (.return_, 1) := by decide +kernel
theorem dX8_countMarks_0 : decode cX8_countMarks 0 = .ok (.iconst 0, 1) := by decide +kernel
theorem dX8_countMarks_1 : decode cX8_countMarks 1 = .ok (.istore_n 1, 1) := by decide +kernel
theorem dX8_countMarks_2 : decode cX8_countMarks 2 = .ok (.iconst 0, 1) := by decide +kernel
theorem dX8_countMarks_3 : decode cX8_countMarks 3 = .ok (.istore_n 2, 1) := by decide +kernel
theorem dX8_countMarks_4 : decode cX8_countMarks 4 = .ok (.iload_n 2, 1) := by decide +kernel
theorem dX8_countMarks_5 : decode cX8_countMarks 5 = .ok (.bipush 16, 2) := by decide +kernel
theorem dX8_countMarks_7 : decode cX8_countMarks 7 = .ok (.if_icmp .ge 27, 3) := by decide +kernel
theorem dX8_countMarks_10 : decode cX8_countMarks 10 = .ok (.iload_n 1, 1) := by decide +kernel
theorem dX8_countMarks_11 : decode cX8_countMarks 11 = .ok (.aload_n 0, 1) := by decide +kernel
theorem dX8_countMarks_12 : decode cX8_countMarks 12 = .ok (.getfield 36, 3) := by decide +kernel
theorem dX8_countMarks_15 : decode cX8_countMarks 15 = .ok (.iload_n 2, 1) := by decide +kernel
theorem dX8_countMarks_16 : decode cX8_countMarks 16 = .ok (.iaload, 1) := by decide +kernel
theorem dX8_countMarks_17 : decode cX8_countMarks 17 = .ok (.iconst (-1), 1) := by decide +kernel
theorem dX8_countMarks_18 : decode cX8_countMarks 18 = .ok (.if_icmp .eq 7, 3) := by decide +kernel
theorem dX8_countMarks_21 : decode cX8_countMarks 21 = .ok (.iconst 1, 1) := by decide +kernel
theorem dX8_countMarks_22 : decode cX8_countMarks 22 = .ok (.goto 4, 3) := by decide +kernel
theorem dX8_countMarks_25 : decode cX8_countMarks 25 = .ok (.iconst 0, 1) := by decide +kernel
theorem dX8_countMarks_26 : decode cX8_countMarks 26 = .ok (.iadd, 1) := by decide +kernel
theorem dX8_countMarks_27 : decode cX8_countMarks 27 = .ok (.istore_n 1, 1) := by decide +kernel
theorem dX8_countMarks_28 : decode cX8_countMarks 28 = .ok (.iinc 2 1, 3) := by decide +kernel
theorem dX8_countMarks_31 : decode cX8_countMarks 31 = .ok (.goto (-27), 3) := by decide +kernel
theorem dX8_countMarks_34 : decode cX8_countMarks 34 = .ok (.iload_n 1, 1) := by decide +kernel
theorem dX8_countMarks_35 : decode cX8_countMarks 35 = .ok (.ireturn, 1) := by decide +kernel
theorem dX8_countHidden_0 : decode cX8_countHidden 0 = .ok (.iconst 0, 1) := by decide +kernel
theorem dX8_countHidden_1 : decode cX8_countHidden 1 = .ok (.istore_n 1, 1) := by decide +kernel
theorem dX8_countHidden_2 : decode cX8_countHidden 2 = .ok (.iconst 0, 1) := by decide +kernel
theorem dX8_countHidden_3 : decode cX8_countHidden 3 = .ok (.istore_n 2, 1) := by decide +kernel
theorem dX8_countHidden_4 : decode cX8_countHidden 4 = .ok (.iload_n 2, 1) := by decide +kernel
theorem dX8_countHidden_5 : decode cX8_countHidden 5 = .ok (.aload_n 0, 1) := by decide +kernel
theorem dX8_countHidden_6 : decode cX8_countHidden 6 = .ok (.getfield 27, 3) := by decide +kernel
theorem dX8_countHidden_9 : decode cX8_countHidden 9 = .ok (.if_icmp .ge 26, 3) := by decide +kernel
theorem dX8_countHidden_12 : decode cX8_countHidden 12 = .ok (.iload_n 1, 1) := by decide +kernel
theorem dX8_countHidden_13 : decode cX8_countHidden 13 = .ok (.aload_n 0, 1) := by decide +kernel
theorem dX8_countHidden_14 : decode cX8_countHidden 14 = .ok (.getfield 23, 3) := by decide +kernel
theorem dX8_countHidden_17 : decode cX8_countHidden 17 = .ok (.iload_n 2, 1) := by decide +kernel
theorem dX8_countHidden_18 : decode cX8_countHidden 18 = .ok (.baload, 1) := by decide +kernel
theorem dX8_countHidden_19 : decode cX8_countHidden 19 = .ok (.ifCond .eq 7, 3) := by decide +kernel
theorem dX8_countHidden_22 : decode cX8_countHidden 22 = .ok (.iconst 1, 1) := by decide +kernel
theorem dX8_countHidden_23 : decode cX8_countHidden 23 = .ok (.goto 4, 3) := by decide +kernel
theorem dX8_countHidden_26 : decode cX8_countHidden 26 = .ok (.iconst 0, 1) := by decide +kernel
theorem dX8_countHidden_27 : decode cX8_countHidden 27 = .ok (.iadd, 1) := by decide +kernel
theorem dX8_countHidden_28 : decode cX8_countHidden 28 = .ok (.istore_n 1, 1) := by decide +kernel
theorem dX8_countHidden_29 : decode cX8_countHidden 29 = .ok (.iinc 2 1, 3) := by decide +kernel
theorem dX8_countHidden_32 : decode cX8_countHidden 32 = .ok (.goto (-28), 3) := by decide +kernel
theorem dX8_countHidden_35 : decode cX8_countHidden 35 = .ok (.iload_n 1, 1) := by decide +kernel
theorem dX8_countHidden_36 : decode cX8_countHidden 36 = .ok (.ireturn, 1) := by decide +kernel
theorem dX8_countWords_0 : decode cX8_countWords 0 = .ok (.iconst 0, 1) := by decide +kernel
theorem dX8_countWords_1 : decode cX8_countWords 1 = .ok (.istore_n 1, 1) := by decide +kernel
theorem dX8_countWords_2 : decode cX8_countWords 2 = .ok (.iconst 0, 1) := by decide +kernel
theorem dX8_countWords_3 : decode cX8_countWords 3 = .ok (.istore_n 2, 1) := by decide +kernel
theorem dX8_countWords_4 : decode cX8_countWords 4 = .ok (.iconst 0, 1) := by decide +kernel
theorem dX8_countWords_5 : decode cX8_countWords 5 = .ok (.istore_n 3, 1) := by decide +kernel
theorem dX8_countWords_6 : decode cX8_countWords 6 = .ok (.iload_n 3, 1) := by decide +kernel
theorem dX8_countWords_7 : decode cX8_countWords 7 = .ok (.aload_n 0, 1) := by decide +kernel
theorem dX8_countWords_8 : decode cX8_countWords 8 = .ok (.getfield 15, 3) := by decide +kernel
theorem dX8_countWords_11 : decode cX8_countWords 11 = .ok (.if_icmp .ge 40, 3) := by decide +kernel
theorem dX8_countWords_14 : decode cX8_countWords 14 = .ok (.aload_n 0, 1) := by decide +kernel
theorem dX8_countWords_15 : decode cX8_countWords 15 = .ok (.getfield 9, 3) := by decide +kernel
theorem dX8_countWords_18 : decode cX8_countWords 18 = .ok (.iload_n 3, 1) := by decide +kernel
theorem dX8_countWords_19 : decode cX8_countWords 19 = .ok (.baload, 1) := by decide +kernel
theorem dX8_countWords_20 : decode cX8_countWords 20 = .ok (.invokestatic 73, 3) := by decide +kernel
theorem dX8_countWords_23 : decode cX8_countWords 23 = .ok (.istore 4, 2) := by decide +kernel
theorem dX8_countWords_25 : decode cX8_countWords 25 = .ok (.iload_n 1, 1) := by decide +kernel
theorem dX8_countWords_26 : decode cX8_countWords 26 = .ok (.iload 4, 2) := by decide +kernel
theorem dX8_countWords_28 : decode cX8_countWords 28 = .ok (.ifCond .eq 11, 3) := by decide +kernel
theorem dX8_countWords_31 : decode cX8_countWords 31 = .ok (.iload_n 2, 1) := by decide +kernel
theorem dX8_countWords_32 : decode cX8_countWords 32 = .ok (.ifCond .ne 7, 3) := by decide +kernel
theorem dX8_countWords_35 : decode cX8_countWords 35 = .ok (.iconst 1, 1) := by decide +kernel
theorem dX8_countWords_36 : decode cX8_countWords 36 = .ok (.goto 4, 3) := by decide +kernel
theorem dX8_countWords_39 : decode cX8_countWords 39 = .ok (.iconst 0, 1) := by decide +kernel
theorem dX8_countWords_40 : decode cX8_countWords 40 = .ok (.iadd, 1) := by decide +kernel
theorem dX8_countWords_41 : decode cX8_countWords 41 = .ok (.istore_n 1, 1) := by decide +kernel
theorem dX8_countWords_42 : decode cX8_countWords 42 = .ok (.iload 4, 2) := by decide +kernel
theorem dX8_countWords_44 : decode cX8_countWords 44 = .ok (.istore_n 2, 1) := by decide +kernel
theorem dX8_countWords_45 : decode cX8_countWords 45 = .ok (.iinc 3 1, 3) := by decide +kernel
theorem dX8_countWords_48 : decode cX8_countWords 48 = .ok (.goto (-42), 3) := by decide +kernel
theorem dX8_countWords_51 : decode cX8_countWords 51 = .ok (.iload_n 1, 1) := by decide +kernel
theorem dX8_countWords_52 : decode cX8_countWords 52 = .ok (.ireturn, 1) := by decide +kernel
theorem dX8_sumOf_0 : decode cX8_sumOf 0 = .ok (.iconst 0, 1) := by decide +kernel
theorem dX8_sumOf_1 : decode cX8_sumOf 1 = .ok (.istore_n 3, 1) := by decide +kernel
theorem dX8_sumOf_2 : decode cX8_sumOf 2 = .ok (.iload_n 1, 1) := by decide +kernel
theorem dX8_sumOf_3 : decode cX8_sumOf 3 = .ok (.istore 4, 2) := by decide +kernel
theorem dX8_sumOf_5 : decode cX8_sumOf 5 = .ok (.iload 4, 2) := by decide +kernel
theorem dX8_sumOf_7 : decode cX8_sumOf 7 = .ok (.iload_n 2, 1) := by decide +kernel
theorem dX8_sumOf_8 : decode cX8_sumOf 8 = .ok (.if_icmp .ge 22, 3) := by decide +kernel
theorem dX8_sumOf_11 : decode cX8_sumOf 11 = .ok (.bipush 31, 2) := by decide +kernel
theorem dX8_sumOf_13 : decode cX8_sumOf 13 = .ok (.iload_n 3, 1) := by decide +kernel
theorem dX8_sumOf_14 : decode cX8_sumOf 14 = .ok (.imul, 1) := by decide +kernel
theorem dX8_sumOf_15 : decode cX8_sumOf 15 = .ok (.aload_n 0, 1) := by decide +kernel
theorem dX8_sumOf_16 : decode cX8_sumOf 16 = .ok (.getfield 9, 3) := by decide +kernel
theorem dX8_sumOf_19 : decode cX8_sumOf 19 = .ok (.iload 4, 2) := by decide +kernel
theorem dX8_sumOf_21 : decode cX8_sumOf 21 = .ok (.baload, 1) := by decide +kernel
theorem dX8_sumOf_22 : decode cX8_sumOf 22 = .ok (.iadd, 1) := by decide +kernel
theorem dX8_sumOf_23 : decode cX8_sumOf 23 = .ok (.istore_n 3, 1) := by decide +kernel
theorem dX8_sumOf_24 : decode cX8_sumOf 24 = .ok (.iinc 4 1, 3) := by decide +kernel
theorem dX8_sumOf_27 : decode cX8_sumOf 27 = .ok (.goto (-22), 3) := by decide +kernel
theorem dX8_sumOf_30 : decode cX8_sumOf 30 = .ok (.iload_n 3, 1) := by decide +kernel
theorem dX8_sumOf_31 : decode cX8_sumOf 31 = .ok (.ireturn, 1) := by decide +kernel
theorem dX8_hasTrueBegins_0 : decode cX8_hasTrueBegins 0 = .ok (.iconst 0, 1) := by decide +kernel
theorem dX8_hasTrueBegins_1 : decode cX8_hasTrueBegins 1 = .ok (.istore_n 1, 1) := by decide +kernel
theorem dX8_hasTrueBegins_2 : decode cX8_hasTrueBegins 2 = .ok (.aload_n 0, 1) := by decide +kernel
theorem dX8_hasTrueBegins_3 : decode cX8_hasTrueBegins 3 = .ok (.getfield 19, 3) := by decide +kernel
theorem dX8_hasTrueBegins_6 : decode cX8_hasTrueBegins 6 = .ok (.iconst 0, 1) := by decide +kernel
theorem dX8_hasTrueBegins_7 : decode cX8_hasTrueBegins 7 = .ok (.iaload, 1) := by decide +kernel
theorem dX8_hasTrueBegins_8 : decode cX8_hasTrueBegins 8 = .ok (.ifCond .ne 7, 3) := by decide +kernel
theorem dX8_hasTrueBegins_11 : decode cX8_hasTrueBegins 11 = .ok (.iconst 1, 1) := by decide +kernel
theorem dX8_hasTrueBegins_12 : decode cX8_hasTrueBegins 12 = .ok (.goto 4, 3) := by decide +kernel
theorem dX8_hasTrueBegins_15 : decode cX8_hasTrueBegins 15 = .ok (.iconst 0, 1) := by decide +kernel
theorem dX8_hasTrueBegins_16 : decode cX8_hasTrueBegins 16 = .ok (.istore_n 2, 1) := by decide +kernel
theorem dX8_hasTrueBegins_17 : decode cX8_hasTrueBegins 17 = .ok (.iconst 0, 1) := by decide +kernel
theorem dX8_hasTrueBegins_18 : decode cX8_hasTrueBegins 18 = .ok (.istore_n 3, 1) := by decide +kernel
theorem dX8_hasTrueBegins_19 : decode cX8_hasTrueBegins 19 = .ok (.iload_n 3, 1) := by decide +kernel
theorem dX8_hasTrueBegins_20 : decode cX8_hasTrueBegins 20 = .ok (.aload_n 0, 1) := by decide +kernel
theorem dX8_hasTrueBegins_21 : decode cX8_hasTrueBegins 21 = .ok (.getfield 15, 3) := by decide +kernel
theorem dX8_hasTrueBegins_24 : decode cX8_hasTrueBegins 24 = .ok (.if_icmp .ge 53, 3) := by decide +kernel
theorem dX8_hasTrueBegins_27 : decode cX8_hasTrueBegins 27 = .ok (.aload_n 0, 1) := by decide +kernel
theorem dX8_hasTrueBegins_28 : decode cX8_hasTrueBegins 28 = .ok (.getfield 9, 3) := by decide +kernel
theorem dX8_hasTrueBegins_31 : decode cX8_hasTrueBegins 31 = .ok (.iload_n 3, 1) := by decide +kernel
theorem dX8_hasTrueBegins_32 : decode cX8_hasTrueBegins 32 = .ok (.baload, 1) := by decide +kernel
theorem dX8_hasTrueBegins_33 : decode cX8_hasTrueBegins 33 = .ok (.bipush 10, 2) := by decide +kernel
theorem dX8_hasTrueBegins_35 : decode cX8_hasTrueBegins 35 = .ok (.if_icmp .ne 36, 3) := by decide +kernel
theorem dX8_hasTrueBegins_38 : decode cX8_hasTrueBegins 38 = .ok (.iinc 1 1, 3) := by decide +kernel
theorem dX8_hasTrueBegins_41 : decode cX8_hasTrueBegins 41 = .ok (.iload_n 2, 1) := by decide +kernel
theorem dX8_hasTrueBegins_42 : decode cX8_hasTrueBegins 42 = .ok (.ifCond .eq 27, 3) := by decide +kernel
theorem dX8_hasTrueBegins_45 : decode cX8_hasTrueBegins 45 = .ok (.iload_n 1, 1) := by decide +kernel
theorem dX8_hasTrueBegins_46 : decode cX8_hasTrueBegins 46 = .ok (.aload_n 0, 1) := by decide +kernel
theorem dX8_hasTrueBegins_47 : decode cX8_hasTrueBegins 47 = .ok (.getfield 27, 3) := by decide +kernel
theorem dX8_hasTrueBegins_50 : decode cX8_hasTrueBegins 50 = .ok (.if_icmp .ge 19, 3) := by decide +kernel
theorem dX8_hasTrueBegins_53 : decode cX8_hasTrueBegins 53 = .ok (.aload_n 0, 1) := by decide +kernel
theorem dX8_hasTrueBegins_54 : decode cX8_hasTrueBegins 54 = .ok (.getfield 19, 3) := by decide +kernel
theorem dX8_hasTrueBegins_57 : decode cX8_hasTrueBegins 57 = .ok (.iload_n 1, 1) := by decide +kernel
theorem dX8_hasTrueBegins_58 : decode cX8_hasTrueBegins 58 = .ok (.iaload, 1) := by decide +kernel
theorem dX8_hasTrueBegins_59 : decode cX8_hasTrueBegins 59 = .ok (.iload_n 3, 1) := by decide +kernel
theorem dX8_hasTrueBegins_60 : decode cX8_hasTrueBegins 60 = .ok (.iconst 1, 1) := by decide +kernel
theorem dX8_hasTrueBegins_61 : decode cX8_hasTrueBegins 61 = .ok (.iadd, 1) := by decide +kernel
theorem dX8_hasTrueBegins_62 : decode cX8_hasTrueBegins 62 = .ok (.if_icmp .ne 7, 3) := by decide +kernel
theorem dX8_hasTrueBegins_65 : decode cX8_hasTrueBegins 65 = .ok (.iconst 1, 1) := by decide +kernel
theorem dX8_hasTrueBegins_66 : decode cX8_hasTrueBegins 66 = .ok (.goto 4, 3) := by decide +kernel
theorem dX8_hasTrueBegins_69 : decode cX8_hasTrueBegins 69 = .ok (.iconst 0, 1) := by decide +kernel
theorem dX8_hasTrueBegins_70 : decode cX8_hasTrueBegins 70 = .ok (.istore_n 2, 1) := by decide +kernel
theorem dX8_hasTrueBegins_71 : decode cX8_hasTrueBegins 71 = .ok (.iinc 3 1, 3) := by decide +kernel
theorem dX8_hasTrueBegins_74 : decode cX8_hasTrueBegins 74 = .ok (.goto (-55), 3) := by decide +kernel
theorem dX8_hasTrueBegins_77 : decode cX8_hasTrueBegins 77 = .ok (.iload_n 2, 1) := by decide +kernel
theorem dX8_hasTrueBegins_78 : decode cX8_hasTrueBegins 78 = .ok (.ifCond .eq 17, 3) := by decide +kernel
theorem dX8_hasTrueBegins_81 : decode cX8_hasTrueBegins 81 = .ok (.iload_n 1, 1) := by decide +kernel
theorem dX8_hasTrueBegins_82 : decode cX8_hasTrueBegins 82 = .ok (.iconst 1, 1) := by decide +kernel
theorem dX8_hasTrueBegins_83 : decode cX8_hasTrueBegins 83 = .ok (.iadd, 1) := by decide +kernel
theorem dX8_hasTrueBegins_84 : decode cX8_hasTrueBegins 84 = .ok (.aload_n 0, 1) := by decide +kernel
theorem dX8_hasTrueBegins_85 : decode cX8_hasTrueBegins 85 = .ok (.getfield 27, 3) := by decide +kernel
theorem dX8_hasTrueBegins_88 : decode cX8_hasTrueBegins 88 = .ok (.if_icmp .ne 7, 3) := by decide +kernel
theorem dX8_hasTrueBegins_91 : decode cX8_hasTrueBegins 91 = .ok (.iconst 1, 1) := by decide +kernel
theorem dX8_hasTrueBegins_92 : decode cX8_hasTrueBegins 92 = .ok (.goto 4, 3) := by decide +kernel
theorem dX8_hasTrueBegins_95 : decode cX8_hasTrueBegins 95 = .ok (.iconst 0, 1) := by decide +kernel
theorem dX8_hasTrueBegins_96 : decode cX8_hasTrueBegins 96 = .ok (.ireturn, 1) := by decide +kernel
theorem dX8_countUnlike_0 : decode cX8_countUnlike 0 = .ok (.aload_n 0, 1) := by decide +kernel
theorem dX8_countUnlike_1 : decode cX8_countUnlike 1 = .ok (.aload_n 1, 1) := by decide +kernel
theorem dX8_countUnlike_2 : decode cX8_countUnlike 2 = .ok (.invokevirtual 76, 3) := by decide +kernel
theorem dX8_countUnlike_5 : decode cX8_countUnlike 5 = .ok (.ifCond .eq 7, 3) := by decide +kernel
theorem dX8_countUnlike_8 : decode cX8_countUnlike 8 = .ok (.iconst 0, 1) := by decide +kernel
theorem dX8_countUnlike_9 : decode cX8_countUnlike 9 = .ok (.goto 4, 3) := by decide +kernel
theorem dX8_countUnlike_12 : decode cX8_countUnlike 12 = .ok (.iconst 1, 1) := by decide +kernel
theorem dX8_countUnlike_13 : decode cX8_countUnlike 13 = .ok (.istore_n 2, 1) := by decide +kernel
theorem dX8_countUnlike_14 : decode cX8_countUnlike 14 = .ok (.iload_n 2, 1) := by decide +kernel
theorem dX8_countUnlike_15 : decode cX8_countUnlike 15 = .ok (.aload_n 0, 1) := by decide +kernel
theorem dX8_countUnlike_16 : decode cX8_countUnlike 16 = .ok (.aload_n 1, 1) := by decide +kernel
theorem dX8_countUnlike_17 : decode cX8_countUnlike 17 = .ok (.invokevirtual 80, 3) := by decide +kernel
theorem dX8_countUnlike_20 : decode cX8_countUnlike 20 = .ok (.ifCond .eq 7, 3) := by decide +kernel
theorem dX8_countUnlike_23 : decode cX8_countUnlike 23 = .ok (.iconst 0, 1) := by decide +kernel
theorem dX8_countUnlike_24 : decode cX8_countUnlike 24 = .ok (.goto 4, 3) := by decide +kernel
theorem dX8_countUnlike_27 : decode cX8_countUnlike 27 = .ok (.iconst 1, 1) := by decide +kernel
theorem dX8_countUnlike_28 : decode cX8_countUnlike 28 = .ok (.iadd, 1) := by decide +kernel
theorem dX8_countUnlike_29 : decode cX8_countUnlike 29 = .ok (.istore_n 2, 1) := by decide +kernel
theorem dX8_countUnlike_30 : decode cX8_countUnlike 30 = .ok (.iload_n 2, 1) := by decide +kernel
theorem dX8_countUnlike_31 : decode cX8_countUnlike 31 = .ok (.aload_n 0, 1) := by decide +kernel
theorem dX8_countUnlike_32 : decode cX8_countUnlike 32 = .ok (.aload_n 1, 1) := by decide +kernel
theorem dX8_countUnlike_33 : decode cX8_countUnlike 33 = .ok (.invokevirtual 83, 3) := by decide +kernel
theorem dX8_countUnlike_36 : decode cX8_countUnlike 36 = .ok (.ifCond .eq 7, 3) := by decide +kernel
theorem dX8_countUnlike_39 : decode cX8_countUnlike 39 = .ok (.iconst 0, 1) := by decide +kernel
theorem dX8_countUnlike_40 : decode cX8_countUnlike 40 = .ok (.goto 4, 3) := by decide +kernel
theorem dX8_countUnlike_43 : decode cX8_countUnlike 43 = .ok (.iconst 1, 1) := by decide +kernel
theorem dX8_countUnlike_44 : decode cX8_countUnlike 44 = .ok (.iadd, 1) := by decide +kernel
theorem dX8_countUnlike_45 : decode cX8_countUnlike 45 = .ok (.istore_n 2, 1) := by decide +kernel
theorem dX8_countUnlike_46 : decode cX8_countUnlike 46 = .ok (.iload_n 2, 1) := by decide +kernel
theorem dX8_countUnlike_47 : decode cX8_countUnlike 47 = .ok (.aload_n 0, 1) := by decide +kernel
theorem dX8_countUnlike_48 : decode cX8_countUnlike 48 = .ok (.aload_n 1, 1) := by decide +kernel
theorem dX8_countUnlike_49 : decode cX8_countUnlike 49 = .ok (.invokevirtual 86, 3) := by decide +kernel
theorem dX8_countUnlike_52 : decode cX8_countUnlike 52 = .ok (.ifCond .eq 7, 3) := by decide +kernel
theorem dX8_countUnlike_55 : decode cX8_countUnlike 55 = .ok (.iconst 0, 1) := by decide +kernel
theorem dX8_countUnlike_56 : decode cX8_countUnlike 56 = .ok (.goto 4, 3) := by decide +kernel
theorem dX8_countUnlike_59 : decode cX8_countUnlike 59 = .ok (.iconst 1, 1) := by decide +kernel
theorem dX8_countUnlike_60 : decode cX8_countUnlike 60 = .ok (.iadd, 1) := by decide +kernel
theorem dX8_countUnlike_61 : decode cX8_countUnlike 61 = .ok (.istore_n 2, 1) := by decide +kernel
theorem dX8_countUnlike_62 : decode cX8_countUnlike 62 = .ok (.iload_n 2, 1) := by decide +kernel
theorem dX8_countUnlike_63 : decode cX8_countUnlike 63 = .ok (.ireturn, 1) := by decide +kernel
theorem dX8_hasTextOf_0 : decode cX8_hasTextOf 0 = .ok (.aload_n 0, 1) := by decide +kernel
theorem dX8_hasTextOf_1 : decode cX8_hasTextOf 1 = .ok (.getfield 15, 3) := by decide +kernel
theorem dX8_hasTextOf_4 : decode cX8_hasTextOf 4 = .ok (.aload_n 1, 1) := by decide +kernel
theorem dX8_hasTextOf_5 : decode cX8_hasTextOf 5 = .ok (.getfield 15, 3) := by decide +kernel
theorem dX8_hasTextOf_8 : decode cX8_hasTextOf 8 = .ok (.if_icmp .ne 7, 3) := by decide +kernel
theorem dX8_hasTextOf_11 : decode cX8_hasTextOf 11 = .ok (.iconst 1, 1) := by decide +kernel
theorem dX8_hasTextOf_12 : decode cX8_hasTextOf 12 = .ok (.goto 4, 3) := by decide +kernel
theorem dX8_hasTextOf_15 : decode cX8_hasTextOf 15 = .ok (.iconst 0, 1) := by decide +kernel
theorem dX8_hasTextOf_16 : decode cX8_hasTextOf 16 = .ok (.istore_n 2, 1) := by decide +kernel
theorem dX8_hasTextOf_17 : decode cX8_hasTextOf 17 = .ok (.iconst 0, 1) := by decide +kernel
theorem dX8_hasTextOf_18 : decode cX8_hasTextOf 18 = .ok (.istore_n 3, 1) := by decide +kernel
theorem dX8_hasTextOf_19 : decode cX8_hasTextOf 19 = .ok (.iload_n 2, 1) := by decide +kernel
theorem dX8_hasTextOf_20 : decode cX8_hasTextOf 20 = .ok (.ifCond .eq 38, 3) := by decide +kernel
theorem dX8_hasTextOf_23 : decode cX8_hasTextOf 23 = .ok (.iload_n 3, 1) := by decide +kernel
theorem dX8_hasTextOf_24 : decode cX8_hasTextOf 24 = .ok (.aload_n 0, 1) := by decide +kernel
theorem dX8_hasTextOf_25 : decode cX8_hasTextOf 25 = .ok (.getfield 15, 3) := by decide +kernel
theorem dX8_hasTextOf_28 : decode cX8_hasTextOf 28 = .ok (.if_icmp .ge 30, 3) := by decide +kernel
theorem dX8_hasTextOf_31 : decode cX8_hasTextOf 31 = .ok (.aload_n 0, 1) := by decide +kernel
theorem dX8_hasTextOf_32 : decode cX8_hasTextOf 32 = .ok (.getfield 9, 3) := by decide +kernel
theorem dX8_hasTextOf_35 : decode cX8_hasTextOf 35 = .ok (.iload_n 3, 1) := by decide +kernel
theorem dX8_hasTextOf_36 : decode cX8_hasTextOf 36 = .ok (.baload, 1) := by decide +kernel
theorem dX8_hasTextOf_37 : decode cX8_hasTextOf 37 = .ok (.aload_n 1, 1) := by decide +kernel
theorem dX8_hasTextOf_38 : decode cX8_hasTextOf 38 = .ok (.getfield 9, 3) := by decide +kernel
theorem dX8_hasTextOf_41 : decode cX8_hasTextOf 41 = .ok (.iload_n 3, 1) := by decide +kernel
theorem dX8_hasTextOf_42 : decode cX8_hasTextOf 42 = .ok (.baload, 1) := by decide +kernel
theorem dX8_hasTextOf_43 : decode cX8_hasTextOf 43 = .ok (.if_icmp .ne 7, 3) := by decide +kernel
theorem dX8_hasTextOf_46 : decode cX8_hasTextOf 46 = .ok (.iconst 1, 1) := by decide +kernel
theorem dX8_hasTextOf_47 : decode cX8_hasTextOf 47 = .ok (.goto 4, 3) := by decide +kernel
theorem dX8_hasTextOf_50 : decode cX8_hasTextOf 50 = .ok (.iconst 0, 1) := by decide +kernel
theorem dX8_hasTextOf_51 : decode cX8_hasTextOf 51 = .ok (.istore_n 2, 1) := by decide +kernel
theorem dX8_hasTextOf_52 : decode cX8_hasTextOf 52 = .ok (.iinc 3 1, 3) := by decide +kernel
theorem dX8_hasTextOf_55 : decode cX8_hasTextOf 55 = .ok (.goto (-36), 3) := by decide +kernel
theorem dX8_hasTextOf_58 : decode cX8_hasTextOf 58 = .ok (.iload_n 2, 1) := by decide +kernel
theorem dX8_hasTextOf_59 : decode cX8_hasTextOf 59 = .ok (.ireturn, 1) := by decide +kernel
theorem dX8_hasCursorsOf_0 : decode cX8_hasCursorsOf 0 = .ok (.aload_n 0, 1) := by decide +kernel
theorem dX8_hasCursorsOf_1 : decode cX8_hasCursorsOf 1 = .ok (.getfield 33, 3) := by decide +kernel
theorem dX8_hasCursorsOf_4 : decode cX8_hasCursorsOf 4 = .ok (.aload_n 1, 1) := by decide +kernel
theorem dX8_hasCursorsOf_5 : decode cX8_hasCursorsOf 5 = .ok (.getfield 33, 3) := by decide +kernel
theorem dX8_hasCursorsOf_8 : decode cX8_hasCursorsOf 8 = .ok (.if_icmp .ne 7, 3) := by decide +kernel
theorem dX8_hasCursorsOf_11 : decode cX8_hasCursorsOf 11 = .ok (.iconst 1, 1) := by decide +kernel
theorem dX8_hasCursorsOf_12 : decode cX8_hasCursorsOf 12 = .ok (.goto 4, 3) := by decide +kernel
theorem dX8_hasCursorsOf_15 : decode cX8_hasCursorsOf 15 = .ok (.iconst 0, 1) := by decide +kernel
theorem dX8_hasCursorsOf_16 : decode cX8_hasCursorsOf 16 = .ok (.istore_n 2, 1) := by decide +kernel
theorem dX8_hasCursorsOf_17 : decode cX8_hasCursorsOf 17 = .ok (.iconst 0, 1) := by decide +kernel
theorem dX8_hasCursorsOf_18 : decode cX8_hasCursorsOf 18 = .ok (.istore_n 3, 1) := by decide +kernel
theorem dX8_hasCursorsOf_19 : decode cX8_hasCursorsOf 19 = .ok (.iload_n 2, 1) := by decide +kernel
theorem dX8_hasCursorsOf_20 : decode cX8_hasCursorsOf 20 = .ok (.ifCond .eq 38, 3) := by decide +kernel
theorem dX8_hasCursorsOf_23 : decode cX8_hasCursorsOf 23 = .ok (.iload_n 3, 1) := by decide +kernel
theorem dX8_hasCursorsOf_24 : decode cX8_hasCursorsOf 24 = .ok (.aload_n 0, 1) := by decide +kernel
theorem dX8_hasCursorsOf_25 : decode cX8_hasCursorsOf 25 = .ok (.getfield 33, 3) := by decide +kernel
theorem dX8_hasCursorsOf_28 : decode cX8_hasCursorsOf 28 = .ok (.if_icmp .ge 30, 3) := by decide +kernel
theorem dX8_hasCursorsOf_31 : decode cX8_hasCursorsOf 31 = .ok (.aload_n 0, 1) := by decide +kernel
theorem dX8_hasCursorsOf_32 : decode cX8_hasCursorsOf 32 = .ok (.getfield 30, 3) := by decide +kernel
theorem dX8_hasCursorsOf_35 : decode cX8_hasCursorsOf 35 = .ok (.iload_n 3, 1) := by decide +kernel
theorem dX8_hasCursorsOf_36 : decode cX8_hasCursorsOf 36 = .ok (.iaload, 1) := by decide +kernel
theorem dX8_hasCursorsOf_37 : decode cX8_hasCursorsOf 37 = .ok (.aload_n 1, 1) := by decide +kernel
theorem dX8_hasCursorsOf_38 : decode cX8_hasCursorsOf 38 = .ok (.getfield 30, 3) := by decide +kernel
theorem dX8_hasCursorsOf_41 : decode cX8_hasCursorsOf 41 = .ok (.iload_n 3, 1) := by decide +kernel
theorem dX8_hasCursorsOf_42 : decode cX8_hasCursorsOf 42 = .ok (.iaload, 1) := by decide +kernel
theorem dX8_hasCursorsOf_43 : decode cX8_hasCursorsOf 43 = .ok (.if_icmp .ne 7, 3) := by decide +kernel
theorem dX8_hasCursorsOf_46 : decode cX8_hasCursorsOf 46 = .ok (.iconst 1, 1) := by decide +kernel
theorem dX8_hasCursorsOf_47 : decode cX8_hasCursorsOf 47 = .ok (.goto 4, 3) := by decide +kernel
theorem dX8_hasCursorsOf_50 : decode cX8_hasCursorsOf 50 = .ok (.iconst 0, 1) := by decide +kernel
theorem dX8_hasCursorsOf_51 : decode cX8_hasCursorsOf 51 = .ok (.istore_n 2, 1) := by decide +kernel
theorem dX8_hasCursorsOf_52 : decode cX8_hasCursorsOf 52 = .ok (.iinc 3 1, 3) := by decide +kernel
theorem dX8_hasCursorsOf_55 : decode cX8_hasCursorsOf 55 = .ok (.goto (-36), 3) := by decide +kernel
theorem dX8_hasCursorsOf_58 : decode cX8_hasCursorsOf 58 = .ok (.iload_n 2, 1) := by decide +kernel
theorem dX8_hasCursorsOf_59 : decode cX8_hasCursorsOf 59 = .ok (.ireturn, 1) := by decide +kernel
theorem dX8_hasMarksOf_0 : decode cX8_hasMarksOf 0 = .ok (.iconst 1, 1) := by decide +kernel
theorem dX8_hasMarksOf_1 : decode cX8_hasMarksOf 1 = .ok (.istore_n 2, 1) := by decide +kernel
theorem dX8_hasMarksOf_2 : decode cX8_hasMarksOf 2 = .ok (.iconst 0, 1) := by decide +kernel
theorem dX8_hasMarksOf_3 : decode cX8_hasMarksOf 3 = .ok (.istore_n 3, 1) := by decide +kernel
theorem dX8_hasMarksOf_4 : decode cX8_hasMarksOf 4 = .ok (.iload_n 2, 1) := by decide +kernel
theorem dX8_hasMarksOf_5 : decode cX8_hasMarksOf 5 = .ok (.ifCond .eq 51, 3) := by decide +kernel
theorem dX8_hasMarksOf_8 : decode cX8_hasMarksOf 8 = .ok (.iload_n 3, 1) := by decide +kernel
theorem dX8_hasMarksOf_9 : decode cX8_hasMarksOf 9 = .ok (.bipush 16, 2) := by decide +kernel
theorem dX8_hasMarksOf_11 : decode cX8_hasMarksOf 11 = .ok (.if_icmp .ge 45, 3) := by decide +kernel
theorem dX8_hasMarksOf_14 : decode cX8_hasMarksOf 14 = .ok (.aload_n 0, 1) := by decide +kernel
theorem dX8_hasMarksOf_15 : decode cX8_hasMarksOf 15 = .ok (.getfield 36, 3) := by decide +kernel
theorem dX8_hasMarksOf_18 : decode cX8_hasMarksOf 18 = .ok (.iload_n 3, 1) := by decide +kernel
theorem dX8_hasMarksOf_19 : decode cX8_hasMarksOf 19 = .ok (.iaload, 1) := by decide +kernel
theorem dX8_hasMarksOf_20 : decode cX8_hasMarksOf 20 = .ok (.aload_n 1, 1) := by decide +kernel
theorem dX8_hasMarksOf_21 : decode cX8_hasMarksOf 21 = .ok (.getfield 36, 3) := by decide +kernel
theorem dX8_hasMarksOf_24 : decode cX8_hasMarksOf 24 = .ok (.iload_n 3, 1) := by decide +kernel
theorem dX8_hasMarksOf_25 : decode cX8_hasMarksOf 25 = .ok (.iaload, 1) := by decide +kernel
theorem dX8_hasMarksOf_26 : decode cX8_hasMarksOf 26 = .ok (.if_icmp .ne 22, 3) := by decide +kernel
theorem dX8_hasMarksOf_29 : decode cX8_hasMarksOf 29 = .ok (.aload_n 0, 1) := by decide +kernel
theorem dX8_hasMarksOf_30 : decode cX8_hasMarksOf 30 = .ok (.getfield 39, 3) := by decide +kernel
theorem dX8_hasMarksOf_33 : decode cX8_hasMarksOf 33 = .ok (.iload_n 3, 1) := by decide +kernel
theorem dX8_hasMarksOf_34 : decode cX8_hasMarksOf 34 = .ok (.baload, 1) := by decide +kernel
theorem dX8_hasMarksOf_35 : decode cX8_hasMarksOf 35 = .ok (.aload_n 1, 1) := by decide +kernel
theorem dX8_hasMarksOf_36 : decode cX8_hasMarksOf 36 = .ok (.getfield 39, 3) := by decide +kernel
theorem dX8_hasMarksOf_39 : decode cX8_hasMarksOf 39 = .ok (.iload_n 3, 1) := by decide +kernel
theorem dX8_hasMarksOf_40 : decode cX8_hasMarksOf 40 = .ok (.baload, 1) := by decide +kernel
theorem dX8_hasMarksOf_41 : decode cX8_hasMarksOf 41 = .ok (.if_icmp .ne 7, 3) := by decide +kernel
theorem dX8_hasMarksOf_44 : decode cX8_hasMarksOf 44 = .ok (.iconst 1, 1) := by decide +kernel
theorem dX8_hasMarksOf_45 : decode cX8_hasMarksOf 45 = .ok (.goto 4, 3) := by decide +kernel
theorem dX8_hasMarksOf_48 : decode cX8_hasMarksOf 48 = .ok (.iconst 0, 1) := by decide +kernel
theorem dX8_hasMarksOf_49 : decode cX8_hasMarksOf 49 = .ok (.istore_n 2, 1) := by decide +kernel
theorem dX8_hasMarksOf_50 : decode cX8_hasMarksOf 50 = .ok (.iinc 3 1, 3) := by decide +kernel
theorem dX8_hasMarksOf_53 : decode cX8_hasMarksOf 53 = .ok (.goto (-49), 3) := by decide +kernel
theorem dX8_hasMarksOf_56 : decode cX8_hasMarksOf 56 = .ok (.iload_n 2, 1) := by decide +kernel
theorem dX8_hasMarksOf_57 : decode cX8_hasMarksOf 57 = .ok (.ireturn, 1) := by decide +kernel
theorem dX8_hasHiddenOf_0 : decode cX8_hasHiddenOf 0 = .ok (.aload_n 0, 1) := by decide +kernel
theorem dX8_hasHiddenOf_1 : decode cX8_hasHiddenOf 1 = .ok (.getfield 27, 3) := by decide +kernel
theorem dX8_hasHiddenOf_4 : decode cX8_hasHiddenOf 4 = .ok (.aload_n 1, 1) := by decide +kernel
theorem dX8_hasHiddenOf_5 : decode cX8_hasHiddenOf 5 = .ok (.getfield 27, 3) := by decide +kernel
theorem dX8_hasHiddenOf_8 : decode cX8_hasHiddenOf 8 = .ok (.if_icmp .ne 7, 3) := by decide +kernel
theorem dX8_hasHiddenOf_11 : decode cX8_hasHiddenOf 11 = .ok (.iconst 1, 1) := by decide +kernel
theorem dX8_hasHiddenOf_12 : decode cX8_hasHiddenOf 12 = .ok (.goto 4, 3) := by decide +kernel
theorem dX8_hasHiddenOf_15 : decode cX8_hasHiddenOf 15 = .ok (.iconst 0, 1) := by decide +kernel
theorem dX8_hasHiddenOf_16 : decode cX8_hasHiddenOf 16 = .ok (.istore_n 2, 1) := by decide +kernel
theorem dX8_hasHiddenOf_17 : decode cX8_hasHiddenOf 17 = .ok (.iconst 0, 1) := by decide +kernel
theorem dX8_hasHiddenOf_18 : decode cX8_hasHiddenOf 18 = .ok (.istore_n 3, 1) := by decide +kernel
theorem dX8_hasHiddenOf_19 : decode cX8_hasHiddenOf 19 = .ok (.iload_n 2, 1) := by decide +kernel
theorem dX8_hasHiddenOf_20 : decode cX8_hasHiddenOf 20 = .ok (.ifCond .eq 38, 3) := by decide +kernel
theorem dX8_hasHiddenOf_23 : decode cX8_hasHiddenOf 23 = .ok (.iload_n 3, 1) := by decide +kernel
theorem dX8_hasHiddenOf_24 : decode cX8_hasHiddenOf 24 = .ok (.aload_n 0, 1) := by decide +kernel
theorem dX8_hasHiddenOf_25 : decode cX8_hasHiddenOf 25 = .ok (.getfield 27, 3) := by decide +kernel
theorem dX8_hasHiddenOf_28 : decode cX8_hasHiddenOf 28 = .ok (.if_icmp .ge 30, 3) := by decide +kernel
theorem dX8_hasHiddenOf_31 : decode cX8_hasHiddenOf 31 = .ok (.aload_n 0, 1) := by decide +kernel
theorem dX8_hasHiddenOf_32 : decode cX8_hasHiddenOf 32 = .ok (.getfield 23, 3) := by decide +kernel
theorem dX8_hasHiddenOf_35 : decode cX8_hasHiddenOf 35 = .ok (.iload_n 3, 1) := by decide +kernel
theorem dX8_hasHiddenOf_36 : decode cX8_hasHiddenOf 36 = .ok (.baload, 1) := by decide +kernel
theorem dX8_hasHiddenOf_37 : decode cX8_hasHiddenOf 37 = .ok (.aload_n 1, 1) := by decide +kernel
theorem dX8_hasHiddenOf_38 : decode cX8_hasHiddenOf 38 = .ok (.getfield 23, 3) := by decide +kernel
theorem dX8_hasHiddenOf_41 : decode cX8_hasHiddenOf 41 = .ok (.iload_n 3, 1) := by decide +kernel
theorem dX8_hasHiddenOf_42 : decode cX8_hasHiddenOf 42 = .ok (.baload, 1) := by decide +kernel
theorem dX8_hasHiddenOf_43 : decode cX8_hasHiddenOf 43 = .ok (.if_icmp .ne 7, 3) := by decide +kernel
theorem dX8_hasHiddenOf_46 : decode cX8_hasHiddenOf 46 = .ok (.iconst 1, 1) := by decide +kernel
theorem dX8_hasHiddenOf_47 : decode cX8_hasHiddenOf 47 = .ok (.goto 4, 3) := by decide +kernel
theorem dX8_hasHiddenOf_50 : decode cX8_hasHiddenOf 50 = .ok (.iconst 0, 1) := by decide +kernel
theorem dX8_hasHiddenOf_51 : decode cX8_hasHiddenOf 51 = .ok (.istore_n 2, 1) := by decide +kernel
theorem dX8_hasHiddenOf_52 : decode cX8_hasHiddenOf 52 = .ok (.iinc 3 1, 3) := by decide +kernel
theorem dX8_hasHiddenOf_55 : decode cX8_hasHiddenOf 55 = .ok (.goto (-36), 3) := by decide +kernel
theorem dX8_hasHiddenOf_58 : decode cX8_hasHiddenOf 58 = .ok (.iload_n 2, 1) := by decide +kernel
theorem dX8_hasHiddenOf_59 : decode cX8_hasHiddenOf 59 = .ok (.ireturn, 1) := by decide +kernel
theorem dX9_init_0 : decode cX9_init 0 = .ok (.aload_n 0, 1) := by decide +kernel
theorem dX9_init_1 : decode cX9_init 1 = .ok (.invokespecial 3, 3) := by decide +kernel
theorem dX9_init_4 : decode cX9_init 4 = .ok (.aload_n 0, 1) := by decide +kernel
theorem dX9_init_5 : decode cX9_init 5 = .ok (.bipush 40, 2) := by decide +kernel
theorem dX9_init_7 : decode cX9_init 7 = .ok (.newarray .int, 2) := by decide +kernel
theorem dX9_init_9 : decode cX9_init 9 = .ok (.putfield 9, 3) := by decide +kernel
theorem dX9_init_12 : decode cX9_init 12 = .ok (.aload_n 0, 1) := by decide +kernel
theorem dX9_init_13 : decode cX9_init 13 = .ok (.bipush 40, 2) := by decide +kernel
theorem dX9_init_15 : decode cX9_init 15 = .ok (.newarray .int, 2) := by decide +kernel
theorem dX9_init_17 : decode cX9_init 17 = .ok (.putfield 15, 3) := by decide +kernel
theorem dX9_init_20 : decode cX9_init 20 = .ok (.aload_n 0, 1) := by decide +kernel
theorem dX9_init_21 : decode cX9_init 21 = .ok (.bipush 40, 2) := by decide +kernel
theorem dX9_init_23 : decode cX9_init 23 = .ok (.newarray .int, 2) := by decide +kernel
theorem dX9_init_25 : decode cX9_init 25 = .ok (.putfield 18, 3) := by decide +kernel
theorem dX9_init_28 : decode cX9_init 28 = .ok (.aload_n 0, 1) := by decide +kernel
theorem dX9_init_29 : decode cX9_init 29 = .ok (.sipush 8000, 3) := by decide +kernel
theorem dX9_init_32 : decode cX9_init 32 = .ok (.newarray .byte, 2) := by decide +kernel
theorem dX9_init_34 : decode cX9_init 34 = .ok (.putfield 21, 3) := by decide +kernel
theorem dX9_init_37 : decode cX9_init 37 = .ok (.aload_n 0, 1) := by decide +kernel
theorem dX9_init_38 : decode cX9_init 38 = .ok (.iconst 0, 1) := by decide +kernel
theorem dX9_init_39 : decode cX9_init 39 = .ok (.putfield 25, 3) := by decide +kernel
theorem dX9_init_42 : decode cX9_init 42 = .ok (.aload_n 0, 1) := by decide +kernel
theorem dX9_init_43 : decode cX9_init 43 = .ok (.iconst 0, 1) := by decide +kernel
theorem dX9_init_44 : decode cX9_init 44 = .ok (.putfield 29, 3) := by decide +kernel
theorem dX9_init_47 : decode cX9_init 47 = .ok (.return_, 1) := by decide +kernel
theorem dX9_add_0 : decode cX9_add 0 = .ok (.aload_n 0, 1) := by decide +kernel
theorem dX9_add_1 : decode cX9_add 1 = .ok (.getfield 29, 3) := by decide +kernel
theorem dX9_add_4 : decode cX9_add 4 = .ok (.ifCond .eq 12, 3) := by decide +kernel
theorem dX9_add_7 : decode cX9_add 7 = .ok (.aload_n 0, 1) := by decide +kernel
theorem dX9_add_8 : decode cX9_add 8 = .ok (.getfield 25, 3) := by decide +kernel
theorem dX9_add_11 : decode cX9_add 11 = .ok (.bipush 40, 2) := by decide +kernel
theorem dX9_add_13 : decode cX9_add 13 = .ok (.if_icmp .lt 4, 3) := by decide +kernel
theorem dX9_add_16 : decode cX9_add 16 = .ok (.return_, 1) := by decide +kernel
theorem dX9_add_17 : decode cX9_add 17 = .ok (.aload_n 0, 1) := by decide +kernel
theorem dX9_add_18 : decode cX9_add 18 = .ok (.getfield 9, 3) := by decide +kernel
theorem dX9_add_21 : decode cX9_add 21 = .ok (.aload_n 0, 1) := by decide +kernel
theorem dX9_add_22 : decode cX9_add 22 = .ok (.getfield 25, 3) := by decide +kernel
theorem dX9_add_25 : decode cX9_add 25 = .ok (.iload_n 1, 1) := by decide +kernel
theorem dX9_add_26 : decode cX9_add 26 = .ok (.iastore, 1) := by decide +kernel
theorem dX9_add_27 : decode cX9_add 27 = .ok (.aload_n 0, 1) := by decide +kernel
theorem dX9_add_28 : decode cX9_add 28 = .ok (.getfield 15, 3) := by decide +kernel
theorem dX9_add_31 : decode cX9_add 31 = .ok (.aload_n 0, 1) := by decide +kernel
theorem dX9_add_32 : decode cX9_add 32 = .ok (.getfield 25, 3) := by decide +kernel
theorem dX9_add_35 : decode cX9_add 35 = .ok (.iload_n 2, 1) := by decide +kernel
theorem dX9_add_36 : decode cX9_add 36 = .ok (.iastore, 1) := by decide +kernel
theorem dX9_add_37 : decode cX9_add 37 = .ok (.aload_n 0, 1) := by decide +kernel
theorem dX9_add_38 : decode cX9_add 38 = .ok (.getfield 18, 3) := by decide +kernel
theorem dX9_add_41 : decode cX9_add 41 = .ok (.aload_n 0, 1) := by decide +kernel
theorem dX9_add_42 : decode cX9_add 42 = .ok (.getfield 25, 3) := by decide +kernel
theorem dX9_add_45 : decode cX9_add 45 = .ok (.iload_n 3, 1) := by decide +kernel
theorem dX9_add_46 : decode cX9_add 46 = .ok (.iastore, 1) := by decide +kernel
theorem dX9_add_47 : decode cX9_add 47 = .ok (.aload_n 0, 1) := by decide +kernel
theorem dX9_add_48 : decode cX9_add 48 = .ok (.dup, 1) := by decide +kernel
theorem dX9_add_49 : decode cX9_add 49 = .ok (.getfield 25, 3) := by decide +kernel
theorem dX9_add_52 : decode cX9_add 52 = .ok (.iconst 1, 1) := by decide +kernel
theorem dX9_add_53 : decode cX9_add 53 = .ok (.iadd, 1) := by decide +kernel
theorem dX9_add_54 : decode cX9_add 54 = .ok (.putfield 25, 3) := by decide +kernel
theorem dX9_add_57 : decode cX9_add 57 = .ok (.return_, 1) := by decide +kernel
theorem dX9_addTyped_0 : decode cX9_addTyped 0 = .ok (.aload_n 0, 1) := by decide +kernel
theorem dX9_addTyped_1 : decode cX9_addTyped 1 = .ok (.getfield 29, 3) := by decide +kernel
theorem dX9_addTyped_4 : decode cX9_addTyped 4 = .ok (.ifCond .eq 36, 3) := by decide +kernel
theorem dX9_addTyped_7 : decode cX9_addTyped 7 = .ok (.aload_n 0, 1) := by decide +kernel
theorem dX9_addTyped_8 : decode cX9_addTyped 8 = .ok (.getfield 25, 3) := by decide +kernel
theorem dX9_addTyped_11 : decode cX9_addTyped 11 = .ok (.bipush 40, 2) := by decide +kernel
theorem dX9_addTyped_13 : decode cX9_addTyped 13 = .ok (.if_icmp .ge 27, 3) := by decide +kernel
theorem dX9_addTyped_16 : decode cX9_addTyped 16 = .ok (.aload_n 1, 1) := by decide +kernel
theorem dX9_addTyped_17 : decode cX9_addTyped 17 = .ok (.getfield 33, 3) := by decide +kernel
theorem dX9_addTyped_20 : decode cX9_addTyped 20 = .ok (.iconst 0, 1) := by decide +kernel
theorem dX9_addTyped_21 : decode cX9_addTyped 21 = .ok (.aload_n 0, 1) := by decide +kernel
theorem dX9_addTyped_22 : decode cX9_addTyped 22 = .ok (.getfield 21, 3) := by decide +kernel
theorem dX9_addTyped_25 : decode cX9_addTyped 25 = .ok (.aload_n 0, 1) := by decide +kernel
theorem dX9_addTyped_26 : decode cX9_addTyped 26 = .ok (.getfield 25, 3) := by decide +kernel
theorem dX9_addTyped_29 : decode cX9_addTyped 29 = .ok (.sipush 200, 3) := by decide +kernel
theorem dX9_addTyped_32 : decode cX9_addTyped 32 = .ok (.imul, 1) := by decide +kernel
theorem dX9_addTyped_33 : decode cX9_addTyped 33 = .ok (.aload_n 1, 1) := by decide +kernel
theorem dX9_addTyped_34 : decode cX9_addTyped 34 = .ok (.getfield 36, 3) := by decide +kernel
theorem dX9_addTyped_37 : decode cX9_addTyped 37 = .ok (.invokestatic 39, 3) := by decide +kernel
theorem dX9_addTyped_40 : decode cX9_addTyped 40 = .ok (.aload_n 0, 1) := by decide +kernel
theorem dX9_addTyped_41 : decode cX9_addTyped 41 = .ok (.iconst 0, 1) := by decide +kernel
theorem dX9_addTyped_42 : decode cX9_addTyped 42 = .ok (.iconst 0, 1) := by decide +kernel
theorem dX9_addTyped_43 : decode cX9_addTyped 43 = .ok (.aload_n 1, 1) := by decide +kernel
theorem dX9_addTyped_44 : decode cX9_addTyped 44 = .ok (.getfield 36, 3) := by decide +kernel
theorem dX9_addTyped_47 : decode cX9_addTyped 47 = .ok (.invokevirtual 45, 3) := by decide +kernel
theorem dX9_addTyped_50 : decode cX9_addTyped 50 = .ok (.return_, 1) := by decide +kernel
theorem dX10_overLines_0 : decode cX10_overLines 0 = .ok (.iload_n 2, 1) := by decide +kernel
theorem dX10_overLines_1 : decode cX10_overLines 1 = .ok (.ifCond .ge 7, 3) := by decide +kernel
theorem dX10_overLines_4 : decode cX10_overLines 4 = .ok (.iconst (-1), 1) := by decide +kernel
theorem dX10_overLines_5 : decode cX10_overLines 5 = .ok (.goto 4, 3) := by decide +kernel
theorem dX10_overLines_8 : decode cX10_overLines 8 = .ok (.iconst 1, 1) := by decide +kernel
theorem dX10_overLines_9 : decode cX10_overLines 9 = .ok (.istore 4, 2) := by decide +kernel
theorem dX10_overLines_11 : decode cX10_overLines 11 = .ok (.iload_n 2, 1) := by decide +kernel
theorem dX10_overLines_12 : decode cX10_overLines 12 = .ok (.invokestatic 7, 3) := by decide +kernel
theorem dX10_overLines_15 : decode cX10_overLines 15 = .ok (.istore 5, 2) := by decide +kernel
theorem dX10_overLines_17 : decode cX10_overLines 17 = .ok (.aload_n 0, 1) := by decide +kernel
theorem dX10_overLines_18 : decode cX10_overLines 18 = .ok (.iload_n 1, 1) := by decide +kernel
theorem dX10_overLines_19 : decode cX10_overLines 19 = .ok (.invokevirtual 13, 3) := by decide +kernel
theorem dX10_overLines_22 : decode cX10_overLines 22 = .ok (.istore 6, 2) := by decide +kernel
theorem dX10_overLines_24 : decode cX10_overLines 24 = .ok (.iload 6, 2) := by decide +kernel
theorem dX10_overLines_26 : decode cX10_overLines 26 = .ok (.istore 7, 2) := by decide +kernel
theorem dX10_overLines_28 : decode cX10_overLines 28 = .ok (.iload 6, 2) := by decide +kernel
theorem dX10_overLines_30 : decode cX10_overLines 30 = .ok (.iload 4, 2) := by decide +kernel
theorem dX10_overLines_32 : decode cX10_overLines 32 = .ok (.iadd, 1) := by decide +kernel
theorem dX10_overLines_33 : decode cX10_overLines 33 = .ok (.istore 8, 2) := by decide +kernel
theorem dX10_overLines_35 : decode cX10_overLines 35 = .ok (.iload 5, 2) := by decide +kernel
theorem dX10_overLines_37 : decode cX10_overLines 37 = .ok (.ifCond .le 44, 3) := by decide +kernel
theorem dX10_overLines_40 : decode cX10_overLines 40 = .ok (.iload 8, 2) := by decide +kernel
theorem dX10_overLines_42 : decode cX10_overLines 42 = .ok (.ifCond .lt 39, 3) := by decide +kernel
theorem dX10_overLines_45 : decode cX10_overLines 45 = .ok (.iload 8, 2) := by decide +kernel
theorem dX10_overLines_47 : decode cX10_overLines 47 = .ok (.aload_n 0, 1) := by decide +kernel
theorem dX10_overLines_48 : decode cX10_overLines 48 = .ok (.getfield 18, 3) := by decide +kernel
theorem dX10_overLines_51 : decode cX10_overLines 51 = .ok (.if_icmp .ge 30, 3) := by decide +kernel
theorem dX10_overLines_54 : decode cX10_overLines 54 = .ok (.aload_n 0, 1) := by decide +kernel
theorem dX10_overLines_55 : decode cX10_overLines 55 = .ok (.getfield 22, 3) := by decide +kernel
theorem dX10_overLines_58 : decode cX10_overLines 58 = .ok (.iload 8, 2) := by decide +kernel
theorem dX10_overLines_60 : decode cX10_overLines 60 = .ok (.baload, 1) := by decide +kernel
theorem dX10_overLines_61 : decode cX10_overLines 61 = .ok (.ifCond .ne 10, 3) := by decide +kernel
theorem dX10_overLines_64 : decode cX10_overLines 64 = .ok (.iload 8, 2) := by decide +kernel
theorem dX10_overLines_66 : decode cX10_overLines 66 = .ok (.istore 7, 2) := by decide +kernel
theorem dX10_overLines_68 : decode cX10_overLines 68 = .ok (.iinc 5 (-1), 3) := by decide +kernel
theorem dX10_overLines_71 : decode cX10_overLines 71 = .ok (.iload 8, 2) := by decide +kernel
theorem dX10_overLines_73 : decode cX10_overLines 73 = .ok (.iload 4, 2) := by decide +kernel
theorem dX10_overLines_75 : decode cX10_overLines 75 = .ok (.iadd, 1) := by decide +kernel
theorem dX10_overLines_76 : decode cX10_overLines 76 = .ok (.istore 8, 2) := by decide +kernel
theorem dX10_overLines_78 : decode cX10_overLines 78 = .ok (.goto (-43), 3) := by decide +kernel
theorem dX10_overLines_81 : decode cX10_overLines 81 = .ok (.aload_n 0, 1) := by decide +kernel
theorem dX10_overLines_82 : decode cX10_overLines 82 = .ok (.iload 7, 2) := by decide +kernel
theorem dX10_overLines_84 : decode cX10_overLines 84 = .ok (.aload_n 0, 1) := by decide +kernel
theorem dX10_overLines_85 : decode cX10_overLines 85 = .ok (.iload_n 1, 1) := by decide +kernel
theorem dX10_overLines_86 : decode cX10_overLines 86 = .ok (.iload_n 3, 1) := by decide +kernel
theorem dX10_overLines_87 : decode cX10_overLines 87 = .ok (.invokevirtual 26, 3) := by decide +kernel
theorem dX10_overLines_90 : decode cX10_overLines 90 = .ok (.iload_n 3, 1) := by decide +kernel
theorem dX10_overLines_91 : decode cX10_overLines 91 = .ok (.invokevirtual 30, 3) := by decide +kernel
theorem dX10_overLines_94 : decode cX10_overLines 94 = .ok (.ireturn, 1) := by decide +kernel
theorem dX10_overWords_0 : decode cX10_overWords 0 = .ok (.iload_n 1, 1) := by decide +kernel
theorem dX10_overWords_1 : decode cX10_overWords 1 = .ok (.istore_n 3, 1) := by decide +kernel
theorem dX10_overWords_2 : decode cX10_overWords 2 = .ok (.iconst 0, 1) := by decide +kernel
theorem dX10_overWords_3 : decode cX10_overWords 3 = .ok (.istore 4, 2) := by decide +kernel
theorem dX10_overWords_5 : decode cX10_overWords 5 = .ok (.iload 4, 2) := by decide +kernel
theorem dX10_overWords_7 : decode cX10_overWords 7 = .ok (.iload_n 2, 1) := by decide +kernel
theorem dX10_overWords_8 : decode cX10_overWords 8 = .ok (.if_icmp .ge 15, 3) := by decide +kernel
theorem dX10_overWords_11 : decode cX10_overWords 11 = .ok (.aload_n 0, 1) := by decide +kernel
theorem dX10_overWords_12 : decode cX10_overWords 12 = .ok (.iload_n 3, 1) := by decide +kernel
theorem dX10_overWords_13 : decode cX10_overWords 13 = .ok (.invokestatic 34, 3) := by decide +kernel
theorem dX10_overWords_16 : decode cX10_overWords 16 = .ok (.istore_n 3, 1) := by decide +kernel
theorem dX10_overWords_17 : decode cX10_overWords 17 = .ok (.iinc 4 1, 3) := by decide +kernel
theorem dX10_overWords_20 : decode cX10_overWords 20 = .ok (.goto (-15), 3) := by decide +kernel
theorem dX10_overWords_23 : decode cX10_overWords 23 = .ok (.iconst 0, 1) := by decide +kernel
theorem dX10_overWords_24 : decode cX10_overWords 24 = .ok (.istore 4, 2) := by decide +kernel
theorem dX10_overWords_26 : decode cX10_overWords 26 = .ok (.iload 4, 2) := by decide +kernel
theorem dX10_overWords_28 : decode cX10_overWords 28 = .ok (.iload_n 2, 1) := by decide +kernel
theorem dX10_overWords_29 : decode cX10_overWords 29 = .ok (.if_icmp .le 15, 3) := by decide +kernel
theorem dX10_overWords_32 : decode cX10_overWords 32 = .ok (.aload_n 0, 1) := by decide +kernel
theorem dX10_overWords_33 : decode cX10_overWords 33 = .ok (.iload_n 3, 1) := by decide +kernel
theorem dX10_overWords_34 : decode cX10_overWords 34 = .ok (.invokestatic 40, 3) := by decide +kernel
theorem dX10_overWords_37 : decode cX10_overWords 37 = .ok (.istore_n 3, 1) := by decide +kernel
theorem dX10_overWords_38 : decode cX10_overWords 38 = .ok (.iinc 4 (-1), 3) := by decide +kernel
theorem dX10_overWords_41 : decode cX10_overWords 41 = .ok (.goto (-15), 3) := by decide +kernel
theorem dX10_overWords_44 : decode cX10_overWords 44 = .ok (.iload_n 3, 1) := by decide +kernel
theorem dX10_overWords_45 : decode cX10_overWords 45 = .ok (.ireturn, 1) := by decide +kernel
theorem dX10_wordForward_0 : decode cX10_wordForward 0 = .ok (.iload_n 1, 1) := by decide +kernel
theorem dX10_wordForward_1 : decode cX10_wordForward 1 = .ok (.istore_n 2, 1) := by decide +kernel
theorem dX10_wordForward_2 : decode cX10_wordForward 2 = .ok (.iload_n 2, 1) := by decide +kernel
theorem dX10_wordForward_3 : decode cX10_wordForward 3 = .ok (.aload_n 0, 1) := by decide +kernel
theorem dX10_wordForward_4 : decode cX10_wordForward 4 = .ok (.getfield 43, 3) := by decide +kernel
theorem dX10_wordForward_7 : decode cX10_wordForward 7 = .ok (.if_icmp .ge 21, 3) := by decide +kernel
theorem dX10_wordForward_10 : decode cX10_wordForward 10 = .ok (.aload_n 0, 1) := by decide +kernel
theorem dX10_wordForward_11 : decode cX10_wordForward 11 = .ok (.getfield 46, 3) := by decide +kernel
theorem dX10_wordForward_14 : decode cX10_wordForward 14 = .ok (.iload_n 2, 1) := by decide +kernel
theorem dX10_wordForward_15 : decode cX10_wordForward 15 = .ok (.baload, 1) := by decide +kernel
theorem dX10_wordForward_16 : decode cX10_wordForward 16 = .ok (.invokestatic 50, 3) := by decide +kernel
theorem dX10_wordForward_19 : decode cX10_wordForward 19 = .ok (.ifCond .ne 9, 3) := by decide +kernel
theorem dX10_wordForward_22 : decode cX10_wordForward 22 = .ok (.iinc 2 1, 3) := by decide +kernel
theorem dX10_wordForward_25 : decode cX10_wordForward 25 = .ok (.goto (-23), 3) := by decide +kernel
theorem dX10_wordForward_28 : decode cX10_wordForward 28 = .ok (.iload_n 2, 1) := by decide +kernel
theorem dX10_wordForward_29 : decode cX10_wordForward 29 = .ok (.aload_n 0, 1) := by decide +kernel
theorem dX10_wordForward_30 : decode cX10_wordForward 30 = .ok (.getfield 43, 3) := by decide +kernel
theorem dX10_wordForward_33 : decode cX10_wordForward 33 = .ok (.if_icmp .ge 21, 3) := by decide +kernel
theorem dX10_wordForward_36 : decode cX10_wordForward 36 = .ok (.aload_n 0, 1) := by decide +kernel
theorem dX10_wordForward_37 : decode cX10_wordForward 37 = .ok (.getfield 46, 3) := by decide +kernel
theorem dX10_wordForward_40 : decode cX10_wordForward 40 = .ok (.iload_n 2, 1) := by decide +kernel
theorem dX10_wordForward_41 : decode cX10_wordForward 41 = .ok (.baload, 1) := by decide +kernel
theorem dX10_wordForward_42 : decode cX10_wordForward 42 = .ok (.invokestatic 50, 3) := by decide +kernel
theorem dX10_wordForward_45 : decode cX10_wordForward 45 = .ok (.ifCond .eq 9, 3) := by decide +kernel
theorem dX10_wordForward_48 : decode cX10_wordForward 48 = .ok (.iinc 2 1, 3) := by decide +kernel
theorem dX10_wordForward_51 : decode cX10_wordForward 51 = .ok (.goto (-23), 3) := by decide +kernel
theorem dX10_wordForward_54 : decode cX10_wordForward 54 = .ok (.iload_n 2, 1) := by decide +kernel
theorem dX10_wordForward_55 : decode cX10_wordForward 55 = .ok (.ireturn, 1) := by decide +kernel
theorem dX10_wordBack_0 : decode cX10_wordBack 0 = .ok (.iload_n 1, 1) := by decide +kernel
theorem dX10_wordBack_1 : decode cX10_wordBack 1 = .ok (.istore_n 2, 1) := by decide +kernel
theorem dX10_wordBack_2 : decode cX10_wordBack 2 = .ok (.iload_n 2, 1) := by decide +kernel
theorem dX10_wordBack_3 : decode cX10_wordBack 3 = .ok (.ifCond .le 23, 3) := by decide +kernel
theorem dX10_wordBack_6 : decode cX10_wordBack 6 = .ok (.aload_n 0, 1) := by decide +kernel
theorem dX10_wordBack_7 : decode cX10_wordBack 7 = .ok (.getfield 46, 3) := by decide +kernel
theorem dX10_wordBack_10 : decode cX10_wordBack 10 = .ok (.iload_n 2, 1) := by decide +kernel
theorem dX10_wordBack_11 : decode cX10_wordBack 11 = .ok (.iconst 1, 1) := by decide +kernel
theorem dX10_wordBack_12 : decode cX10_wordBack 12 = .ok (.isub, 1) := by decide +kernel
theorem dX10_wordBack_13 : decode cX10_wordBack 13 = .ok (.baload, 1) := by decide +kernel
theorem dX10_wordBack_14 : decode cX10_wordBack 14 = .ok (.invokestatic 50, 3) := by decide +kernel
theorem dX10_wordBack_17 : decode cX10_wordBack 17 = .ok (.ifCond .ne 9, 3) := by decide +kernel
theorem dX10_wordBack_20 : decode cX10_wordBack 20 = .ok (.iinc 2 (-1), 3) := by decide +kernel
theorem dX10_wordBack_23 : decode cX10_wordBack 23 = .ok (.goto (-21), 3) := by decide +kernel
theorem dX10_wordBack_26 : decode cX10_wordBack 26 = .ok (.iload_n 2, 1) := by decide +kernel
theorem dX10_wordBack_27 : decode cX10_wordBack 27 = .ok (.ifCond .le 23, 3) := by decide +kernel
theorem dX10_wordBack_30 : decode cX10_wordBack 30 = .ok (.aload_n 0, 1) := by decide +kernel
theorem dX10_wordBack_31 : decode cX10_wordBack 31 = .ok (.getfield 46, 3) := by decide +kernel
theorem dX10_wordBack_34 : decode cX10_wordBack 34 = .ok (.iload_n 2, 1) := by decide +kernel
theorem dX10_wordBack_35 : decode cX10_wordBack 35 = .ok (.iconst 1, 1) := by decide +kernel
theorem dX10_wordBack_36 : decode cX10_wordBack 36 = .ok (.isub, 1) := by decide +kernel
theorem dX10_wordBack_37 : decode cX10_wordBack 37 = .ok (.baload, 1) := by decide +kernel
theorem dX10_wordBack_38 : decode cX10_wordBack 38 = .ok (.invokestatic 50, 3) := by decide +kernel
theorem dX10_wordBack_41 : decode cX10_wordBack 41 = .ok (.ifCond .eq 9, 3) := by decide +kernel
theorem dX10_wordBack_44 : decode cX10_wordBack 44 = .ok (.iinc 2 (-1), 3) := by decide +kernel
theorem dX10_wordBack_47 : decode cX10_wordBack 47 = .ok (.goto (-21), 3) := by decide +kernel
theorem dX10_wordBack_50 : decode cX10_wordBack 50 = .ok (.iload_n 2, 1) := by decide +kernel
theorem dX10_wordBack_51 : decode cX10_wordBack 51 = .ok (.ireturn, 1) := by decide +kernel
theorem dX10_paragraphForward_0 : decode cX10_paragraphForward 0 = .ok (.iload_n 2, 1) := by decide +kernel
theorem dX10_paragraphForward_1 : decode cX10_paragraphForward 1 = .ok (.istore_n 3, 1) := by decide +kernel
theorem dX10_paragraphForward_2 : decode cX10_paragraphForward 2 = .ok (.aload_n 0, 1) := by decide +kernel
theorem dX10_paragraphForward_3 : decode cX10_paragraphForward 3 = .ok (.iload_n 1, 1) := by decide +kernel
theorem dX10_paragraphForward_4 : decode cX10_paragraphForward 4 = .ok (.invokevirtual 13, 3) := by decide +kernel
theorem dX10_paragraphForward_7 : decode cX10_paragraphForward 7 = .ok (.iconst 1, 1) := by decide +kernel
theorem dX10_paragraphForward_8 : decode cX10_paragraphForward 8 = .ok (.iadd, 1) := by decide +kernel
theorem dX10_paragraphForward_9 : decode cX10_paragraphForward 9 = .ok (.istore 4, 2) := by decide +kernel
theorem dX10_paragraphForward_11 : decode cX10_paragraphForward 11 = .ok (.iload 4, 2) := by decide +kernel
theorem dX10_paragraphForward_13 : decode cX10_paragraphForward 13 = .ok (.aload_n 0, 1) := by decide +kernel
theorem dX10_paragraphForward_14 : decode cX10_paragraphForward 14 = .ok (.getfield 18, 3) := by decide +kernel
theorem dX10_paragraphForward_17 : decode cX10_paragraphForward 17 = .ok (.if_icmp .ge 38, 3) := by decide +kernel
theorem dX10_paragraphForward_20 : decode cX10_paragraphForward 20 = .ok (.iload_n 3, 1) := by decide +kernel
theorem dX10_paragraphForward_21 : decode cX10_paragraphForward 21 = .ok (.aload_n 0, 1) := by decide +kernel
theorem dX10_paragraphForward_22 : decode cX10_paragraphForward 22 = .ok (.iload 4, 2) := by decide +kernel
theorem dX10_paragraphForward_24 : decode cX10_paragraphForward 24 = .ok (.invokevirtual 56, 3) := by decide +kernel
theorem dX10_paragraphForward_27 : decode cX10_paragraphForward 27 = .ok (.ifCond .eq 7, 3) := by decide +kernel
theorem dX10_paragraphForward_30 : decode cX10_paragraphForward 30 = .ok (.iconst 1, 1) := by decide +kernel
theorem dX10_paragraphForward_31 : decode cX10_paragraphForward 31 = .ok (.goto 4, 3) := by decide +kernel
theorem dX10_paragraphForward_34 : decode cX10_paragraphForward 34 = .ok (.iconst 0, 1) := by decide +kernel
theorem dX10_paragraphForward_35 : decode cX10_paragraphForward 35 = .ok (.isub, 1) := by decide +kernel
theorem dX10_paragraphForward_36 : decode cX10_paragraphForward 36 = .ok (.istore_n 3, 1) := by decide +kernel
theorem dX10_paragraphForward_37 : decode cX10_paragraphForward 37 = .ok (.iload_n 3, 1) := by decide +kernel
theorem dX10_paragraphForward_38 : decode cX10_paragraphForward 38 = .ok (.ifCond .ne 11, 3) := by decide +kernel
theorem dX10_paragraphForward_41 : decode cX10_paragraphForward 41 = .ok (.aload_n 0, 1) := by decide +kernel
theorem dX10_paragraphForward_42 : decode cX10_paragraphForward 42 = .ok (.getfield 59, 3) := by decide +kernel
theorem dX10_paragraphForward_45 : decode cX10_paragraphForward 45 = .ok (.iload 4, 2) := by decide +kernel
theorem dX10_paragraphForward_47 : decode cX10_paragraphForward 47 = .ok (.iaload, 1) := by decide +kernel
theorem dX10_paragraphForward_48 : decode cX10_paragraphForward 48 = .ok (.ireturn, 1) := by decide +kernel
theorem dX10_paragraphForward_49 : decode cX10_paragraphForward 49 = .ok (.iinc 4 1, 3) := by decide +kernel
theorem dX10_paragraphForward_52 : decode cX10_paragraphForward 52 = .ok (.goto (-41), 3) := by decide +kernel
theorem dX10_paragraphForward_55 : decode cX10_paragraphForward 55 = .ok (.aload_n 0, 1) := by decide +kernel
theorem dX10_paragraphForward_56 : decode cX10_paragraphForward 56 = .ok (.getfield 43, 3) := by decide +kernel
theorem dX10_paragraphForward_59 : decode cX10_paragraphForward 59 = .ok (.ireturn, 1) := by decide +kernel
theorem dX10_paragraphBack_0 : decode cX10_paragraphBack 0 = .ok (.iload_n 2, 1) := by decide +kernel
theorem dX10_paragraphBack_1 : decode cX10_paragraphBack 1 = .ok (.istore_n 3, 1) := by decide +kernel
theorem dX10_paragraphBack_2 : decode cX10_paragraphBack 2 = .ok (.aload_n 0, 1) := by decide +kernel
theorem dX10_paragraphBack_3 : decode cX10_paragraphBack 3 = .ok (.iload_n 1, 1) := by decide +kernel
theorem dX10_paragraphBack_4 : decode cX10_paragraphBack 4 = .ok (.invokevirtual 13, 3) := by decide +kernel
theorem dX10_paragraphBack_7 : decode cX10_paragraphBack 7 = .ok (.istore 4, 2) := by decide +kernel
theorem dX10_paragraphBack_9 : decode cX10_paragraphBack 9 = .ok (.iload 4, 2) := by decide +kernel
theorem dX10_paragraphBack_11 : decode cX10_paragraphBack 11 = .ok (.ifCond .lt 49, 3) := by decide +kernel
theorem dX10_paragraphBack_14 : decode cX10_paragraphBack 14 = .ok (.iload_n 3, 1) := by decide +kernel
theorem dX10_paragraphBack_15 : decode cX10_paragraphBack 15 = .ok (.aload_n 0, 1) := by decide +kernel
theorem dX10_paragraphBack_16 : decode cX10_paragraphBack 16 = .ok (.getfield 59, 3) := by decide +kernel
theorem dX10_paragraphBack_19 : decode cX10_paragraphBack 19 = .ok (.iload 4, 2) := by decide +kernel
theorem dX10_paragraphBack_21 : decode cX10_paragraphBack 21 = .ok (.iaload, 1) := by decide +kernel
theorem dX10_paragraphBack_22 : decode cX10_paragraphBack 22 = .ok (.iload_n 1, 1) := by decide +kernel
theorem dX10_paragraphBack_23 : decode cX10_paragraphBack 23 = .ok (.if_icmp .ge 16, 3) := by decide +kernel
theorem dX10_paragraphBack_26 : decode cX10_paragraphBack 26 = .ok (.aload_n 0, 1) := by decide +kernel
theorem dX10_paragraphBack_27 : decode cX10_paragraphBack 27 = .ok (.iload 4, 2) := by decide +kernel
theorem dX10_paragraphBack_29 : decode cX10_paragraphBack 29 = .ok (.invokevirtual 56, 3) := by decide +kernel
theorem dX10_paragraphBack_32 : decode cX10_paragraphBack 32 = .ok (.ifCond .eq 7, 3) := by decide +kernel
theorem dX10_paragraphBack_35 : decode cX10_paragraphBack 35 = .ok (.iconst 1, 1) := by decide +kernel
theorem dX10_paragraphBack_36 : decode cX10_paragraphBack 36 = .ok (.goto 4, 3) := by decide +kernel
theorem dX10_paragraphBack_39 : decode cX10_paragraphBack 39 = .ok (.iconst 0, 1) := by decide +kernel
theorem dX10_paragraphBack_40 : decode cX10_paragraphBack 40 = .ok (.isub, 1) := by decide +kernel
theorem dX10_paragraphBack_41 : decode cX10_paragraphBack 41 = .ok (.istore_n 3, 1) := by decide +kernel
theorem dX10_paragraphBack_42 : decode cX10_paragraphBack 42 = .ok (.iload_n 3, 1) := by decide +kernel
theorem dX10_paragraphBack_43 : decode cX10_paragraphBack 43 = .ok (.ifCond .ne 11, 3) := by decide +kernel
theorem dX10_paragraphBack_46 : decode cX10_paragraphBack 46 = .ok (.aload_n 0, 1) := by decide +kernel
theorem dX10_paragraphBack_47 : decode cX10_paragraphBack 47 = .ok (.getfield 59, 3) := by decide +kernel
theorem dX10_paragraphBack_50 : decode cX10_paragraphBack 50 = .ok (.iload 4, 2) := by decide +kernel
theorem dX10_paragraphBack_52 : decode cX10_paragraphBack 52 = .ok (.iaload, 1) := by decide +kernel
theorem dX10_paragraphBack_53 : decode cX10_paragraphBack 53 = .ok (.ireturn, 1) := by decide +kernel
theorem dX10_paragraphBack_54 : decode cX10_paragraphBack 54 = .ok (.iinc 4 (-1), 3) := by decide +kernel
theorem dX10_paragraphBack_57 : decode cX10_paragraphBack 57 = .ok (.goto (-48), 3) := by decide +kernel
theorem dX10_paragraphBack_60 : decode cX10_paragraphBack 60 = .ok (.iconst 0, 1) := by decide +kernel
theorem dX10_paragraphBack_61 : decode cX10_paragraphBack 61 = .ok (.ireturn, 1) := by decide +kernel
theorem dX11_init_0 : decode cX11_init 0 = .ok (.aload_n 0, 1) := by decide +kernel
theorem dX11_init_1 : decode cX11_init 1 = .ok (.invokespecial 1, 3) := by decide +kernel
theorem dX11_init_4 : decode cX11_init 4 = .ok (.aload_n 0, 1) := by decide +kernel
theorem dX11_init_5 : decode cX11_init 5 = .ok (.new 7, 3) := by decide +kernel
theorem dX11_init_8 : decode cX11_init 8 = .ok (.dup, 1) := by decide +kernel
theorem dX11_init_9 : decode cX11_init 9 = .ok (.invokespecial 9, 3) := by decide +kernel
theorem dX11_init_12 : decode cX11_init 12 = .ok (.putfield 10, 3) := by decide +kernel
theorem dX11_init_15 : decode cX11_init 15 = .ok (.aload_n 0, 1) := by decide +kernel
theorem dX11_init_16 : decode cX11_init 16 = .ok (.new 16, 3) := by decide +kernel
theorem dX11_init_19 : decode cX11_init 19 = .ok (.dup, 1) := by decide +kernel
theorem dX11_init_20 : decode cX11_init 20 = .ok (.sipush 200, 3) := by decide +kernel
theorem dX11_init_23 : decode cX11_init 23 = .ok (.newarray .byte, 2) := by decide +kernel
theorem dX11_init_25 : decode cX11_init 25 = .ok (.invokespecial 18, 3) := by decide +kernel
theorem dX11_init_28 : decode cX11_init 28 = .ok (.putfield 21, 3) := by decide +kernel
theorem dX11_init_31 : decode cX11_init 31 = .ok (.aload_n 0, 1) := by decide +kernel
theorem dX11_init_32 : decode cX11_init 32 = .ok (.new 25, 3) := by decide +kernel
theorem dX11_init_35 : decode cX11_init 35 = .ok (.dup, 1) := by decide +kernel
theorem dX11_init_36 : decode cX11_init 36 = .ok (.invokespecial 27, 3) := by decide +kernel
theorem dX11_init_39 : decode cX11_init 39 = .ok (.putfield 28, 3) := by decide +kernel
theorem dX11_init_42 : decode cX11_init 42 = .ok (.aload_n 0, 1) := by decide +kernel
theorem dX11_init_43 : decode cX11_init 43 = .ok (.new 32, 3) := by decide +kernel
theorem dX11_init_46 : decode cX11_init 46 = .ok (.dup, 1) := by decide +kernel
theorem dX11_init_47 : decode cX11_init 47 = .ok (.invokespecial 34, 3) := by decide +kernel
theorem dX11_init_50 : decode cX11_init 50 = .ok (.putfield 35, 3) := by decide +kernel
theorem dX11_init_53 : decode cX11_init 53 = .ok (.aload_n 0, 1) := by decide +kernel
theorem dX11_init_54 : decode cX11_init 54 = .ok (.new 39, 3) := by decide +kernel
theorem dX11_init_57 : decode cX11_init 57 = .ok (.dup, 1) := by decide +kernel
theorem dX11_init_58 : decode cX11_init 58 = .ok (.invokespecial 41, 3) := by decide +kernel
theorem dX11_init_61 : decode cX11_init 61 = .ok (.putfield 42, 3) := by decide +kernel
theorem dX11_init_64 : decode cX11_init 64 = .ok (.aload_n 0, 1) := by decide +kernel
theorem dX11_init_65 : decode cX11_init 65 = .ok (.new 46, 3) := by decide +kernel
theorem dX11_init_68 : decode cX11_init 68 = .ok (.dup, 1) := by decide +kernel
theorem dX11_init_69 : decode cX11_init 69 = .ok (.invokespecial 48, 3) := by decide +kernel
theorem dX11_init_72 : decode cX11_init 72 = .ok (.putfield 49, 3) := by decide +kernel
theorem dX11_init_75 : decode cX11_init 75 = .ok (.aload_n 0, 1) := by decide +kernel
theorem dX11_init_76 : decode cX11_init 76 = .ok (.new 53, 3) := by decide +kernel
theorem dX11_init_79 : decode cX11_init 79 = .ok (.dup, 1) := by decide +kernel
theorem dX11_init_80 : decode cX11_init 80 = .ok (.invokespecial 55, 3) := by decide +kernel
theorem dX11_init_83 : decode cX11_init 83 = .ok (.putfield 56, 3) := by decide +kernel
theorem dX11_init_86 : decode cX11_init 86 = .ok (.aload_n 0, 1) := by decide +kernel
theorem dX11_init_87 : decode cX11_init 87 = .ok (.new 60, 3) := by decide +kernel
theorem dX11_init_90 : decode cX11_init 90 = .ok (.dup, 1) := by decide +kernel
theorem dX11_init_91 : decode cX11_init 91 = .ok (.invokespecial 62, 3) := by decide +kernel
theorem dX11_init_94 : decode cX11_init 94 = .ok (.putfield 63, 3) := by decide +kernel
theorem dX11_init_97 : decode cX11_init 97 = .ok (.aload_n 0, 1) := by decide +kernel
theorem dX11_init_98 : decode cX11_init 98 = .ok (.iconst 2, 1) := by decide +kernel
theorem dX11_init_99 : decode cX11_init 99 = .ok (.newarray .int, 2) := by decide +kernel
theorem dX11_init_101 : decode cX11_init 101 = .ok (.putfield 67, 3) := by decide +kernel
theorem dX11_init_104 : decode cX11_init 104 = .ok (.aload_n 0, 1) := by decide +kernel
theorem dX11_init_105 : decode cX11_init 105 = .ok (.iconst 2, 1) := by decide +kernel
theorem dX11_init_106 : decode cX11_init 106 = .ok (.newarray .int, 2) := by decide +kernel
theorem dX11_init_108 : decode cX11_init 108 = .ok (.putfield 71, 3) := by decide +kernel
theorem dX11_init_111 : decode cX11_init 111 = .ok (.aload_n 0, 1) := by decide +kernel
theorem dX11_init_112 : decode cX11_init 112 = .ok (.iconst 4, 1) := by decide +kernel
theorem dX11_init_113 : decode cX11_init 113 = .ok (.putfield 74, 3) := by decide +kernel
theorem dX11_init_116 : decode cX11_init 116 = .ok (.iconst 0, 1) := by decide +kernel
theorem dX11_init_117 : decode cX11_init 117 = .ok (.istore_n 1, 1) := by decide +kernel
theorem dX11_init_118 : decode cX11_init 118 = .ok (.iload_n 1, 1) := by decide +kernel
theorem dX11_init_119 : decode cX11_init 119 = .ok (.iconst 2, 1) := by decide +kernel
theorem dX11_init_120 : decode cX11_init 120 = .ok (.if_icmp .ge 17, 3) := by decide +kernel
theorem dX11_init_123 : decode cX11_init 123 = .ok (.aload_n 0, 1) := by decide +kernel
theorem dX11_init_124 : decode cX11_init 124 = .ok (.getfield 71, 3) := by decide +kernel
theorem dX11_init_127 : decode cX11_init 127 = .ok (.iload_n 1, 1) := by decide +kernel
theorem dX11_init_128 : decode cX11_init 128 = .ok (.bipush 10, 2) := by decide +kernel
theorem dX11_init_130 : decode cX11_init 130 = .ok (.iastore, 1) := by decide +kernel
theorem dX11_init_131 : decode cX11_init 131 = .ok (.iinc 1 1, 3) := by decide +kernel
theorem dX11_init_134 : decode cX11_init 134 = .ok (.goto (-16), 3) := by decide +kernel
theorem dX11_init_137 : decode cX11_init 137 = .ok (.return_, 1) := by decide +kernel
theorem dX11_feed_0 : decode cX11_feed 0 = .ok (.iconst 0, 1) := by decide +kernel
theorem dX11_feed_1 : decode cX11_feed 1 = .ok (.istore_n 3, 1) := by decide +kernel
theorem dX11_feed_2 : decode cX11_feed 2 = .ok (.iconst 1, 1) := by decide +kernel
theorem dX11_feed_3 : decode cX11_feed 3 = .ok (.istore 4, 2) := by decide +kernel
theorem dX11_feed_5 : decode cX11_feed 5 = .ok (.bipush 56, 2) := by decide +kernel
theorem dX11_feed_7 : decode cX11_feed 7 = .ok (.istore 5, 2) := by decide +kernel
theorem dX11_feed_9 : decode cX11_feed 9 = .ok (.iload 5, 2) := by decide +kernel
theorem dX11_feed_11 : decode cX11_feed 11 = .ok (.ifCond .lt 58, 3) := by decide +kernel
theorem dX11_feed_14 : decode cX11_feed 14 = .ok (.lload_n 1, 1) := by decide +kernel
theorem dX11_feed_15 : decode cX11_feed 15 = .ok (.iload 5, 2) := by decide +kernel
theorem dX11_feed_17 : decode cX11_feed 17 = .ok (.lushr, 1) := by decide +kernel
theorem dX11_feed_18 : decode cX11_feed 18 = .ok (.l2i, 1) := by decide +kernel
theorem dX11_feed_19 : decode cX11_feed 19 = .ok (.sipush 255, 3) := by decide +kernel
theorem dX11_feed_22 : decode cX11_feed 22 = .ok (.iand, 1) := by decide +kernel
theorem dX11_feed_23 : decode cX11_feed 23 = .ok (.istore 6, 2) := by decide +kernel
theorem dX11_feed_25 : decode cX11_feed 25 = .ok (.iload_n 3, 1) := by decide +kernel
theorem dX11_feed_26 : decode cX11_feed 26 = .ok (.iload 6, 2) := by decide +kernel
theorem dX11_feed_28 : decode cX11_feed 28 = .ok (.ifCond .eq 7, 3) := by decide +kernel
theorem dX11_feed_31 : decode cX11_feed 31 = .ok (.iconst 1, 1) := by decide +kernel
theorem dX11_feed_32 : decode cX11_feed 32 = .ok (.goto 4, 3) := by decide +kernel
theorem dX11_feed_35 : decode cX11_feed 35 = .ok (.iconst 0, 1) := by decide +kernel
theorem dX11_feed_36 : decode cX11_feed 36 = .ok (.iadd, 1) := by decide +kernel
theorem dX11_feed_37 : decode cX11_feed 37 = .ok (.istore_n 3, 1) := by decide +kernel
theorem dX11_feed_38 : decode cX11_feed 38 = .ok (.iload 4, 2) := by decide +kernel
theorem dX11_feed_40 : decode cX11_feed 40 = .ok (.ifCond .eq 20, 3) := by decide +kernel
theorem dX11_feed_43 : decode cX11_feed 43 = .ok (.iload 6, 2) := by decide +kernel
theorem dX11_feed_45 : decode cX11_feed 45 = .ok (.ifCond .eq 11, 3) := by decide +kernel
theorem dX11_feed_48 : decode cX11_feed 48 = .ok (.iload 6, 2) := by decide +kernel
theorem dX11_feed_50 : decode cX11_feed 50 = .ok (.invokestatic 78, 3) := by decide +kernel
theorem dX11_feed_53 : decode cX11_feed 53 = .ok (.ifCond .eq 7, 3) := by decide +kernel
theorem dX11_feed_56 : decode cX11_feed 56 = .ok (.iconst 1, 1) := by decide +kernel
theorem dX11_feed_57 : decode cX11_feed 57 = .ok (.goto 4, 3) := by decide +kernel
theorem dX11_feed_60 : decode cX11_feed 60 = .ok (.iconst 0, 1) := by decide +kernel
theorem dX11_feed_61 : decode cX11_feed 61 = .ok (.istore 4, 2) := by decide +kernel
theorem dX11_feed_63 : decode cX11_feed 63 = .ok (.iinc 5 (-8), 3) := by decide +kernel
theorem dX11_feed_66 : decode cX11_feed 66 = .ok (.goto (-57), 3) := by decide +kernel
theorem dX11_feed_69 : decode cX11_feed 69 = .ok (.iload 4, 2) := by decide +kernel
theorem dX11_feed_71 : decode cX11_feed 71 = .ok (.ifCond .ne 13, 3) := by decide +kernel
theorem dX11_feed_74 : decode cX11_feed 74 = .ok (.new 82, 3) := by decide +kernel
theorem dX11_feed_77 : decode cX11_feed 77 = .ok (.dup, 1) := by decide +kernel
theorem dX11_feed_78 : decode cX11_feed 78 = .ok (.ldc 84, 2) := by decide +kernel
theorem dX11_feed_80 : decode cX11_feed 80 = .ok (.invokespecial 86, 3) := by decide +kernel
theorem dX11_feed_83 : decode cX11_feed 83 = .ok (.athrow, 1) := by decide +kernel
theorem dX11_feed_84 : decode cX11_feed 84 = .ok (.aload_n 0, 1) := by decide +kernel
theorem dX11_feed_85 : decode cX11_feed 85 = .ok (.getfield 21, 3) := by decide +kernel
theorem dX11_feed_88 : decode cX11_feed 88 = .ok (.getfield 89, 3) := by decide +kernel
theorem dX11_feed_91 : decode cX11_feed 91 = .ok (.iload_n 3, 1) := by decide +kernel
theorem dX11_feed_92 : decode cX11_feed 92 = .ok (.iadd, 1) := by decide +kernel
theorem dX11_feed_93 : decode cX11_feed 93 = .ok (.sipush 200, 3) := by decide +kernel
theorem dX11_feed_96 : decode cX11_feed 96 = .ok (.if_icmp .le 13, 3) := by decide +kernel
theorem dX11_feed_99 : decode cX11_feed 99 = .ok (.new 92, 3) := by decide +kernel
theorem dX11_feed_102 : decode cX11_feed 102 = .ok (.dup, 1) := by decide +kernel
theorem dX11_feed_103 : decode cX11_feed 103 = .ok (.ldc 94, 2) := by decide +kernel
theorem dX11_feed_105 : decode cX11_feed 105 = .ok (.invokespecial 96, 3) := by decide +kernel
theorem dX11_feed_108 : decode cX11_feed 108 = .ok (.athrow, 1) := by decide +kernel
theorem dX11_feed_109 : decode cX11_feed 109 = .ok (.bipush 56, 2) := by decide +kernel
theorem dX11_feed_111 : decode cX11_feed 111 = .ok (.istore 5, 2) := by decide +kernel
theorem dX11_feed_113 : decode cX11_feed 113 = .ok (.iload 5, 2) := by decide +kernel
theorem dX11_feed_115 : decode cX11_feed 115 = .ok (.ifCond .lt 35, 3) := by decide +kernel
theorem dX11_feed_118 : decode cX11_feed 118 = .ok (.lload_n 1, 1) := by decide +kernel
theorem dX11_feed_119 : decode cX11_feed 119 = .ok (.iload 5, 2) := by decide +kernel
theorem dX11_feed_121 : decode cX11_feed 121 = .ok (.lushr, 1) := by decide +kernel
theorem dX11_feed_122 : decode cX11_feed 122 = .ok (.l2i, 1) := by decide +kernel
theorem dX11_feed_123 : decode cX11_feed 123 = .ok (.sipush 255, 3) := by decide +kernel
theorem dX11_feed_126 : decode cX11_feed 126 = .ok (.iand, 1) := by decide +kernel
theorem dX11_feed_127 : decode cX11_feed 127 = .ok (.istore 6, 2) := by decide +kernel
theorem dX11_feed_129 : decode cX11_feed 129 = .ok (.iload 6, 2) := by decide +kernel
theorem dX11_feed_131 : decode cX11_feed 131 = .ok (.ifCond .eq 13, 3) := by decide +kernel
theorem dX11_feed_134 : decode cX11_feed 134 = .ok (.aload_n 0, 1) := by decide +kernel
theorem dX11_feed_135 : decode cX11_feed 135 = .ok (.getfield 21, 3) := by decide +kernel
theorem dX11_feed_138 : decode cX11_feed 138 = .ok (.iload 6, 2) := by decide +kernel
theorem dX11_feed_140 : decode cX11_feed 140 = .ok (.invokevirtual 97, 3) := by decide +kernel
theorem dX11_feed_143 : decode cX11_feed 143 = .ok (.pop, 1) := by decide +kernel
theorem dX11_feed_144 : decode cX11_feed 144 = .ok (.iinc 5 (-8), 3) := by decide +kernel
theorem dX11_feed_147 : decode cX11_feed 147 = .ok (.goto (-34), 3) := by decide +kernel
theorem dX11_feed_150 : decode cX11_feed 150 = .ok (.aload_n 0, 1) := by decide +kernel
theorem dX11_feed_151 : decode cX11_feed 151 = .ok (.getfield 21, 3) := by decide +kernel
theorem dX11_feed_154 : decode cX11_feed 154 = .ok (.getfield 89, 3) := by decide +kernel
theorem dX11_feed_157 : decode cX11_feed 157 = .ok (.ireturn, 1) := by decide +kernel
theorem dX11_clearTape_0 : decode cX11_clearTape 0 = .ok (.aload_n 0, 1) := by decide +kernel
theorem dX11_clearTape_1 : decode cX11_clearTape 1 = .ok (.getfield 21, 3) := by decide +kernel
theorem dX11_clearTape_4 : decode cX11_clearTape 4 = .ok (.getfield 89, 3) := by decide +kernel
theorem dX11_clearTape_7 : decode cX11_clearTape 7 = .ok (.istore_n 1, 1) := by decide +kernel
theorem dX11_clearTape_8 : decode cX11_clearTape 8 = .ok (.aload_n 0, 1) := by decide +kernel
theorem dX11_clearTape_9 : decode cX11_clearTape 9 = .ok (.getfield 21, 3) := by decide +kernel
theorem dX11_clearTape_12 : decode cX11_clearTape 12 = .ok (.iconst 0, 1) := by decide +kernel
theorem dX11_clearTape_13 : decode cX11_clearTape 13 = .ok (.putfield 89, 3) := by decide +kernel
theorem dX11_clearTape_16 : decode cX11_clearTape 16 = .ok (.iload_n 1, 1) := by decide +kernel
theorem dX11_clearTape_17 : decode cX11_clearTape 17 = .ok (.ireturn, 1) := by decide +kernel
theorem dX11_copy_0 : decode cX11_copy 0 = .ok (.aload_n 0, 1) := by decide +kernel
theorem dX11_copy_1 : decode cX11_copy 1 = .ok (.iload_n 1, 1) := by decide +kernel
theorem dX11_copy_2 : decode cX11_copy 2 = .ok (.iload_n 2, 1) := by decide +kernel
theorem dX11_copy_3 : decode cX11_copy 3 = .ok (.invokevirtual 100, 3) := by decide +kernel
theorem dX11_copy_6 : decode cX11_copy 6 = .ok (.aload_n 0, 1) := by decide +kernel
theorem dX11_copy_7 : decode cX11_copy 7 = .ok (.getfield 28, 3) := by decide +kernel
theorem dX11_copy_10 : decode cX11_copy 10 = .ok (.aload_n 0, 1) := by decide +kernel
theorem dX11_copy_11 : decode cX11_copy 11 = .ok (.getfield 10, 3) := by decide +kernel
theorem dX11_copy_14 : decode cX11_copy 14 = .ok (.getfield 104, 3) := by decide +kernel
theorem dX11_copy_17 : decode cX11_copy 17 = .ok (.iload_n 1, 1) := by decide +kernel
theorem dX11_copy_18 : decode cX11_copy 18 = .ok (.iload_n 2, 1) := by decide +kernel
theorem dX11_copy_19 : decode cX11_copy 19 = .ok (.iload_n 1, 1) := by decide +kernel
theorem dX11_copy_20 : decode cX11_copy 20 = .ok (.isub, 1) := by decide +kernel
theorem dX11_copy_21 : decode cX11_copy 21 = .ok (.invokevirtual 108, 3) := by decide +kernel
theorem dX11_copy_24 : decode cX11_copy 24 = .ok (.iload_n 2, 1) := by decide +kernel
theorem dX11_copy_25 : decode cX11_copy 25 = .ok (.iload_n 1, 1) := by decide +kernel
theorem dX11_copy_26 : decode cX11_copy 26 = .ok (.isub, 1) := by decide +kernel
theorem dX11_copy_27 : decode cX11_copy 27 = .ok (.ireturn, 1) := by decide +kernel
theorem dX11_copyBlock_0 : decode cX11_copyBlock 0 = .ok (.aload_n 0, 1) := by decide +kernel
theorem dX11_copyBlock_1 : decode cX11_copyBlock 1 = .ok (.iload_n 1, 1) := by decide +kernel
theorem dX11_copyBlock_2 : decode cX11_copyBlock 2 = .ok (.invokevirtual 112, 3) := by decide +kernel
theorem dX11_copyBlock_5 : decode cX11_copyBlock 5 = .ok (.iload_n 2, 1) := by decide +kernel
theorem dX11_copyBlock_6 : decode cX11_copyBlock 6 = .ok (.aload_n 0, 1) := by decide +kernel
theorem dX11_copyBlock_7 : decode cX11_copyBlock 7 = .ok (.getfield 10, 3) := by decide +kernel
theorem dX11_copyBlock_10 : decode cX11_copyBlock 10 = .ok (.getfield 116, 3) := by decide +kernel
theorem dX11_copyBlock_13 : decode cX11_copyBlock 13 = .ok (.iload_n 1, 1) := by decide +kernel
theorem dX11_copyBlock_14 : decode cX11_copyBlock 14 = .ok (.isub, 1) := by decide +kernel
theorem dX11_copyBlock_15 : decode cX11_copyBlock 15 = .ok (.if_icmp .le 13, 3) := by decide +kernel
theorem dX11_copyBlock_18 : decode cX11_copyBlock 18 = .ok (.new 119, 3) := by decide +kernel
theorem dX11_copyBlock_21 : decode cX11_copyBlock 21 = .ok (.dup, 1) := by decide +kernel
theorem dX11_copyBlock_22 : decode cX11_copyBlock 22 = .ok (.ldc 121, 2) := by decide +kernel
theorem dX11_copyBlock_24 : decode cX11_copyBlock 24 = .ok (.invokespecial 123, 3) := by decide +kernel
theorem dX11_copyBlock_27 : decode cX11_copyBlock 27 = .ok (.athrow, 1) := by decide +kernel
theorem dX11_copyBlock_28 : decode cX11_copyBlock 28 = .ok (.iload_n 2, 1) := by decide +kernel
theorem dX11_copyBlock_29 : decode cX11_copyBlock 29 = .ok (.iconst 1, 1) := by decide +kernel
theorem dX11_copyBlock_30 : decode cX11_copyBlock 30 = .ok (.if_icmp .lt 27, 3) := by decide +kernel
theorem dX11_copyBlock_33 : decode cX11_copyBlock 33 = .ok (.iload_n 3, 1) := by decide +kernel
theorem dX11_copyBlock_34 : decode cX11_copyBlock 34 = .ok (.ifCond .lt 23, 3) := by decide +kernel
theorem dX11_copyBlock_37 : decode cX11_copyBlock 37 = .ok (.iload_n 3, 1) := by decide +kernel
theorem dX11_copyBlock_38 : decode cX11_copyBlock 38 = .ok (.sipush 200, 3) := by decide +kernel
theorem dX11_copyBlock_41 : decode cX11_copyBlock 41 = .ok (.if_icmp .gt 16, 3) := by decide +kernel
theorem dX11_copyBlock_44 : decode cX11_copyBlock 44 = .ok (.iload 4, 2) := by decide +kernel
theorem dX11_copyBlock_46 : decode cX11_copyBlock 46 = .ok (.iconst 1, 1) := by decide +kernel
theorem dX11_copyBlock_47 : decode cX11_copyBlock 47 = .ok (.if_icmp .lt 10, 3) := by decide +kernel
theorem dX11_copyBlock_50 : decode cX11_copyBlock 50 = .ok (.iload 4, 2) := by decide +kernel
theorem dX11_copyBlock_52 : decode cX11_copyBlock 52 = .ok (.bipush 40, 2) := by decide +kernel
theorem dX11_copyBlock_54 : decode cX11_copyBlock 54 = .ok (.if_icmp .le 13, 3) := by decide +kernel
theorem dX11_copyBlock_57 : decode cX11_copyBlock 57 = .ok (.new 82, 3) := by decide +kernel
theorem dX11_copyBlock_60 : decode cX11_copyBlock 60 = .ok (.dup, 1) := by decide +kernel
theorem dX11_copyBlock_61 : decode cX11_copyBlock 61 = .ok (.ldc 124, 2) := by decide +kernel
theorem dX11_copyBlock_63 : decode cX11_copyBlock 63 = .ok (.invokespecial 86, 3) := by decide +kernel
theorem dX11_copyBlock_66 : decode cX11_copyBlock 66 = .ok (.athrow, 1) := by decide +kernel
theorem dX11_copyBlock_67 : decode cX11_copyBlock 67 = .ok (.aload_n 0, 1) := by decide +kernel
theorem dX11_copyBlock_68 : decode cX11_copyBlock 68 = .ok (.getfield 28, 3) := by decide +kernel
theorem dX11_copyBlock_71 : decode cX11_copyBlock 71 = .ok (.aload_n 0, 1) := by decide +kernel
theorem dX11_copyBlock_72 : decode cX11_copyBlock 72 = .ok (.getfield 10, 3) := by decide +kernel
theorem dX11_copyBlock_75 : decode cX11_copyBlock 75 = .ok (.iload_n 1, 1) := by decide +kernel
theorem dX11_copyBlock_76 : decode cX11_copyBlock 76 = .ok (.iload_n 2, 1) := by decide +kernel
theorem dX11_copyBlock_77 : decode cX11_copyBlock 77 = .ok (.iload_n 3, 1) := by decide +kernel
theorem dX11_copyBlock_78 : decode cX11_copyBlock 78 = .ok (.iload 4, 2) := by decide +kernel
theorem dX11_copyBlock_80 : decode cX11_copyBlock 80 = .ok (.invokevirtual 126, 3) := by decide +kernel
theorem dX11_copyBlock_83 : decode cX11_copyBlock 83 = .ok (.ireturn, 1) := by decide +kernel
theorem dX11_type_0 : decode cX11_type 0 = .ok (.aload_n 0, 1) := by decide +kernel
theorem dX11_type_1 : decode cX11_type 1 = .ok (.aload_n 0, 1) := by decide +kernel
theorem dX11_type_2 : decode cX11_type 2 = .ok (.getfield 21, 3) := by decide +kernel
theorem dX11_type_5 : decode cX11_type 5 = .ok (.getfield 130, 3) := by decide +kernel
theorem dX11_type_8 : decode cX11_type 8 = .ok (.iconst 0, 1) := by decide +kernel
theorem dX11_type_9 : decode cX11_type 9 = .ok (.aload_n 0, 1) := by decide +kernel
theorem dX11_type_10 : decode cX11_type 10 = .ok (.getfield 21, 3) := by decide +kernel
theorem dX11_type_13 : decode cX11_type 13 = .ok (.getfield 89, 3) := by decide +kernel
theorem dX11_type_16 : decode cX11_type 16 = .ok (.invokevirtual 131, 3) := by decide +kernel
theorem dX11_type_19 : decode cX11_type 19 = .ok (.aload_n 0, 1) := by decide +kernel
theorem dX11_type_20 : decode cX11_type 20 = .ok (.invokevirtual 134, 3) := by decide +kernel
theorem dX11_type_23 : decode cX11_type 23 = .ok (.ifCond .ne 13, 3) := by decide +kernel
theorem dX11_type_26 : decode cX11_type 26 = .ok (.new 92, 3) := by decide +kernel
theorem dX11_type_29 : decode cX11_type 29 = .ok (.dup, 1) := by decide +kernel
theorem dX11_type_30 : decode cX11_type 30 = .ok (.ldc 138, 2) := by decide +kernel
theorem dX11_type_32 : decode cX11_type 32 = .ok (.invokespecial 96, 3) := by decide +kernel
theorem dX11_type_35 : decode cX11_type 35 = .ok (.athrow, 1) := by decide +kernel
theorem dX11_type_36 : decode cX11_type 36 = .ok (.aload_n 0, 1) := by decide +kernel
theorem dX11_type_37 : decode cX11_type 37 = .ok (.getfield 56, 3) := by decide +kernel
theorem dX11_type_40 : decode cX11_type 40 = .ok (.aload_n 0, 1) := by decide +kernel
theorem dX11_type_41 : decode cX11_type 41 = .ok (.getfield 21, 3) := by decide +kernel
theorem dX11_type_44 : decode cX11_type 44 = .ok (.invokevirtual 140, 3) := by decide +kernel
theorem dX11_type_47 : decode cX11_type 47 = .ok (.aload_n 0, 1) := by decide +kernel
theorem dX11_type_48 : decode cX11_type 48 = .ok (.getfield 10, 3) := by decide +kernel
theorem dX11_type_51 : decode cX11_type 51 = .ok (.getfield 144, 3) := by decide +kernel
theorem dX11_type_54 : decode cX11_type 54 = .ok (.ireturn, 1) := by decide +kernel
theorem dX11_erase_0 : decode cX11_erase 0 = .ok (.iload_n 1, 1) := by decide +kernel
theorem dX11_erase_1 : decode cX11_erase 1 = .ok (.bipush (-100), 2) := by decide +kernel
theorem dX11_erase_3 : decode cX11_erase 3 = .ok (.if_icmp .lt 9, 3) := by decide +kernel
theorem dX11_erase_6 : decode cX11_erase 6 = .ok (.iload_n 1, 1) := by decide +kernel
theorem dX11_erase_7 : decode cX11_erase 7 = .ok (.bipush 100, 2) := by decide +kernel
theorem dX11_erase_9 : decode cX11_erase 9 = .ok (.if_icmp .le 13, 3) := by decide +kernel
theorem dX11_erase_12 : decode cX11_erase 12 = .ok (.new 82, 3) := by decide +kernel
theorem dX11_erase_15 : decode cX11_erase 15 = .ok (.dup, 1) := by decide +kernel
theorem dX11_erase_16 : decode cX11_erase 16 = .ok (.ldc 145, 2) := by decide +kernel
theorem dX11_erase_18 : decode cX11_erase 18 = .ok (.invokespecial 86, 3) := by decide +kernel
theorem dX11_erase_21 : decode cX11_erase 21 = .ok (.athrow, 1) := by decide +kernel
theorem dX11_erase_22 : decode cX11_erase 22 = .ok (.aload_n 0, 1) := by decide +kernel
theorem dX11_erase_23 : decode cX11_erase 23 = .ok (.getfield 10, 3) := by decide +kernel
theorem dX11_erase_26 : decode cX11_erase 26 = .ok (.getfield 144, 3) := by decide +kernel
theorem dX11_erase_29 : decode cX11_erase 29 = .ok (.istore_n 2, 1) := by decide +kernel
theorem dX11_erase_30 : decode cX11_erase 30 = .ok (.aload_n 0, 1) := by decide +kernel
theorem dX11_erase_31 : decode cX11_erase 31 = .ok (.iload_n 1, 1) := by decide +kernel
theorem dX11_erase_32 : decode cX11_erase 32 = .ok (.invokevirtual 147, 3) := by decide +kernel
theorem dX11_erase_35 : decode cX11_erase 35 = .ok (.aload_n 0, 1) := by decide +kernel
theorem dX11_erase_36 : decode cX11_erase 36 = .ok (.invokevirtual 134, 3) := by decide +kernel
theorem dX11_erase_39 : decode cX11_erase 39 = .ok (.ifCond .ne 13, 3) := by decide +kernel
theorem dX11_erase_42 : decode cX11_erase 42 = .ok (.new 92, 3) := by decide +kernel
theorem dX11_erase_45 : decode cX11_erase 45 = .ok (.dup, 1) := by decide +kernel
theorem dX11_erase_46 : decode cX11_erase 46 = .ok (.ldc 138, 2) := by decide +kernel
theorem dX11_erase_48 : decode cX11_erase 48 = .ok (.invokespecial 96, 3) := by decide +kernel
theorem dX11_erase_51 : decode cX11_erase 51 = .ok (.athrow, 1) := by decide +kernel
theorem dX11_erase_52 : decode cX11_erase 52 = .ok (.aload_n 0, 1) := by decide +kernel
theorem dX11_erase_53 : decode cX11_erase 53 = .ok (.getfield 56, 3) := by decide +kernel
theorem dX11_erase_56 : decode cX11_erase 56 = .ok (.iconst 1, 1) := by decide +kernel
theorem dX11_erase_57 : decode cX11_erase 57 = .ok (.iconst 0, 1) := by decide +kernel
theorem dX11_erase_58 : decode cX11_erase 58 = .ok (.iload_n 1, 1) := by decide +kernel
theorem dX11_erase_59 : decode cX11_erase 59 = .ok (.invokevirtual 150, 3) := by decide +kernel
theorem dX11_erase_62 : decode cX11_erase 62 = .ok (.iload_n 2, 1) := by decide +kernel
theorem dX11_erase_63 : decode cX11_erase 63 = .ok (.aload_n 0, 1) := by decide +kernel
theorem dX11_erase_64 : decode cX11_erase 64 = .ok (.getfield 10, 3) := by decide +kernel
theorem dX11_erase_67 : decode cX11_erase 67 = .ok (.getfield 144, 3) := by decide +kernel
theorem dX11_erase_70 : decode cX11_erase 70 = .ok (.isub, 1) := by decide +kernel
theorem dX11_erase_71 : decode cX11_erase 71 = .ok (.ireturn, 1) := by decide +kernel
theorem dX11_replace_0 : decode cX11_replace 0 = .ok (.aload_n 0, 1) := by decide +kernel
theorem dX11_replace_1 : decode cX11_replace 1 = .ok (.iload_n 1, 1) := by decide +kernel
theorem dX11_replace_2 : decode cX11_replace 2 = .ok (.iload_n 2, 1) := by decide +kernel
theorem dX11_replace_3 : decode cX11_replace 3 = .ok (.invokevirtual 100, 3) := by decide +kernel
theorem dX11_replace_6 : decode cX11_replace 6 = .ok (.aload_n 0, 1) := by decide +kernel
theorem dX11_replace_7 : decode cX11_replace 7 = .ok (.getfield 35, 3) := by decide +kernel
theorem dX11_replace_10 : decode cX11_replace 10 = .ok (.aload_n 0, 1) := by decide +kernel
theorem dX11_replace_11 : decode cX11_replace 11 = .ok (.getfield 21, 3) := by decide +kernel
theorem dX11_replace_14 : decode cX11_replace 14 = .ok (.getfield 130, 3) := by decide +kernel
theorem dX11_replace_17 : decode cX11_replace 17 = .ok (.iconst 0, 1) := by decide +kernel
theorem dX11_replace_18 : decode cX11_replace 18 = .ok (.aload_n 0, 1) := by decide +kernel
theorem dX11_replace_19 : decode cX11_replace 19 = .ok (.getfield 21, 3) := by decide +kernel
theorem dX11_replace_22 : decode cX11_replace 22 = .ok (.getfield 89, 3) := by decide +kernel
theorem dX11_replace_25 : decode cX11_replace 25 = .ok (.invokevirtual 153, 3) := by decide +kernel
theorem dX11_replace_28 : decode cX11_replace 28 = .ok (.aload_n 0, 1) := by decide +kernel
theorem dX11_replace_29 : decode cX11_replace 29 = .ok (.getfield 35, 3) := by decide +kernel
theorem dX11_replace_32 : decode cX11_replace 32 = .ok (.iload_n 1, 1) := by decide +kernel
theorem dX11_replace_33 : decode cX11_replace 33 = .ok (.iload_n 2, 1) := by decide +kernel
theorem dX11_replace_34 : decode cX11_replace 34 = .ok (.aload_n 0, 1) := by decide +kernel
theorem dX11_replace_35 : decode cX11_replace 35 = .ok (.getfield 21, 3) := by decide +kernel
theorem dX11_replace_38 : decode cX11_replace 38 = .ok (.getfield 89, 3) := by decide +kernel
theorem dX11_replace_41 : decode cX11_replace 41 = .ok (.invokevirtual 156, 3) := by decide +kernel
theorem dX11_replace_44 : decode cX11_replace 44 = .ok (.aload_n 0, 1) := by decide +kernel
theorem dX11_replace_45 : decode cX11_replace 45 = .ok (.invokevirtual 134, 3) := by decide +kernel
theorem dX11_replace_48 : decode cX11_replace 48 = .ok (.ifCond .ne 13, 3) := by decide +kernel
theorem dX11_replace_51 : decode cX11_replace 51 = .ok (.new 92, 3) := by decide +kernel
theorem dX11_replace_54 : decode cX11_replace 54 = .ok (.dup, 1) := by decide +kernel
theorem dX11_replace_55 : decode cX11_replace 55 = .ok (.ldc 138, 2) := by decide +kernel
theorem dX11_replace_57 : decode cX11_replace 57 = .ok (.invokespecial 96, 3) := by decide +kernel
theorem dX11_replace_60 : decode cX11_replace 60 = .ok (.athrow, 1) := by decide +kernel
theorem dX11_replace_61 : decode cX11_replace 61 = .ok (.aload_n 0, 1) := by decide +kernel
theorem dX11_replace_62 : decode cX11_replace 62 = .ok (.getfield 10, 3) := by decide +kernel
theorem dX11_replace_65 : decode cX11_replace 65 = .ok (.getfield 144, 3) := by decide +kernel
theorem dX11_replace_68 : decode cX11_replace 68 = .ok (.ireturn, 1) := by decide +kernel
theorem dX11_cut_0 : decode cX11_cut 0 = .ok (.aload_n 0, 1) := by decide +kernel
theorem dX11_cut_1 : decode cX11_cut 1 = .ok (.iload_n 1, 1) := by decide +kernel
theorem dX11_cut_2 : decode cX11_cut 2 = .ok (.iload_n 2, 1) := by decide +kernel
theorem dX11_cut_3 : decode cX11_cut 3 = .ok (.invokevirtual 100, 3) := by decide +kernel
theorem dX11_cut_6 : decode cX11_cut 6 = .ok (.aload_n 0, 1) := by decide +kernel
theorem dX11_cut_7 : decode cX11_cut 7 = .ok (.getfield 35, 3) := by decide +kernel
theorem dX11_cut_10 : decode cX11_cut 10 = .ok (.aload_n 0, 1) := by decide +kernel
theorem dX11_cut_11 : decode cX11_cut 11 = .ok (.getfield 10, 3) := by decide +kernel
theorem dX11_cut_14 : decode cX11_cut 14 = .ok (.getfield 104, 3) := by decide +kernel
theorem dX11_cut_17 : decode cX11_cut 17 = .ok (.iload_n 1, 1) := by decide +kernel
theorem dX11_cut_18 : decode cX11_cut 18 = .ok (.iload_n 2, 1) := by decide +kernel
theorem dX11_cut_19 : decode cX11_cut 19 = .ok (.iload_n 1, 1) := by decide +kernel
theorem dX11_cut_20 : decode cX11_cut 20 = .ok (.isub, 1) := by decide +kernel
theorem dX11_cut_21 : decode cX11_cut 21 = .ok (.invokevirtual 153, 3) := by decide +kernel
theorem dX11_cut_24 : decode cX11_cut 24 = .ok (.aload_n 0, 1) := by decide +kernel
theorem dX11_cut_25 : decode cX11_cut 25 = .ok (.getfield 35, 3) := by decide +kernel
theorem dX11_cut_28 : decode cX11_cut 28 = .ok (.iload_n 1, 1) := by decide +kernel
theorem dX11_cut_29 : decode cX11_cut 29 = .ok (.iload_n 2, 1) := by decide +kernel
theorem dX11_cut_30 : decode cX11_cut 30 = .ok (.iconst 0, 1) := by decide +kernel
theorem dX11_cut_31 : decode cX11_cut 31 = .ok (.invokevirtual 156, 3) := by decide +kernel
theorem dX11_cut_34 : decode cX11_cut 34 = .ok (.aload_n 0, 1) := by decide +kernel
theorem dX11_cut_35 : decode cX11_cut 35 = .ok (.invokevirtual 134, 3) := by decide +kernel
theorem dX11_cut_38 : decode cX11_cut 38 = .ok (.ifCond .ne 13, 3) := by decide +kernel
theorem dX11_cut_41 : decode cX11_cut 41 = .ok (.new 92, 3) := by decide +kernel
theorem dX11_cut_44 : decode cX11_cut 44 = .ok (.dup, 1) := by decide +kernel
theorem dX11_cut_45 : decode cX11_cut 45 = .ok (.ldc 138, 2) := by decide +kernel
theorem dX11_cut_47 : decode cX11_cut 47 = .ok (.invokespecial 96, 3) := by decide +kernel
theorem dX11_cut_50 : decode cX11_cut 50 = .ok (.athrow, 1) := by decide +kernel
theorem dX11_cut_51 : decode cX11_cut 51 = .ok (.aload_n 0, 1) := by decide +kernel
theorem dX11_cut_52 : decode cX11_cut 52 = .ok (.getfield 28, 3) := by decide +kernel
theorem dX11_cut_55 : decode cX11_cut 55 = .ok (.aload_n 0, 1) := by decide +kernel
theorem dX11_cut_56 : decode cX11_cut 56 = .ok (.getfield 35, 3) := by decide +kernel
theorem dX11_cut_59 : decode cX11_cut 59 = .ok (.getfield 159, 3) := by decide +kernel
theorem dX11_cut_62 : decode cX11_cut 62 = .ok (.getfield 130, 3) := by decide +kernel
theorem dX11_cut_65 : decode cX11_cut 65 = .ok (.iconst 0, 1) := by decide +kernel
theorem dX11_cut_66 : decode cX11_cut 66 = .ok (.aload_n 0, 1) := by decide +kernel
theorem dX11_cut_67 : decode cX11_cut 67 = .ok (.getfield 35, 3) := by decide +kernel
theorem dX11_cut_70 : decode cX11_cut 70 = .ok (.getfield 159, 3) := by decide +kernel
theorem dX11_cut_73 : decode cX11_cut 73 = .ok (.getfield 89, 3) := by decide +kernel
theorem dX11_cut_76 : decode cX11_cut 76 = .ok (.invokevirtual 108, 3) := by decide +kernel
theorem dX11_cut_79 : decode cX11_cut 79 = .ok (.iload_n 2, 1) := by decide +kernel
theorem dX11_cut_80 : decode cX11_cut 80 = .ok (.iload_n 1, 1) := by decide +kernel
theorem dX11_cut_81 : decode cX11_cut 81 = .ok (.isub, 1) := by decide +kernel
theorem dX11_cut_82 : decode cX11_cut 82 = .ok (.ireturn, 1) := by decide +kernel
theorem dX11_paste_0 : decode cX11_paste 0 = .ok (.aload_n 0, 1) := by decide +kernel
theorem dX11_paste_1 : decode cX11_paste 1 = .ok (.invokevirtual 162, 3) := by decide +kernel
theorem dX11_paste_4 : decode cX11_paste 4 = .ok (.aload_n 0, 1) := by decide +kernel
theorem dX11_paste_5 : decode cX11_paste 5 = .ok (.invokevirtual 134, 3) := by decide +kernel
theorem dX11_paste_8 : decode cX11_paste 8 = .ok (.ifCond .ne 13, 3) := by decide +kernel
theorem dX11_paste_11 : decode cX11_paste 11 = .ok (.new 92, 3) := by decide +kernel
theorem dX11_paste_14 : decode cX11_paste 14 = .ok (.dup, 1) := by decide +kernel
theorem dX11_paste_15 : decode cX11_paste 15 = .ok (.ldc 138, 2) := by decide +kernel
theorem dX11_paste_17 : decode cX11_paste 17 = .ok (.invokespecial 96, 3) := by decide +kernel
theorem dX11_paste_20 : decode cX11_paste 20 = .ok (.athrow, 1) := by decide +kernel
theorem dX11_paste_21 : decode cX11_paste 21 = .ok (.aload_n 0, 1) := by decide +kernel
theorem dX11_paste_22 : decode cX11_paste 22 = .ok (.getfield 56, 3) := by decide +kernel
theorem dX11_paste_25 : decode cX11_paste 25 = .ok (.iconst 3, 1) := by decide +kernel
theorem dX11_paste_26 : decode cX11_paste 26 = .ok (.iconst 0, 1) := by decide +kernel
theorem dX11_paste_27 : decode cX11_paste 27 = .ok (.iconst 0, 1) := by decide +kernel
theorem dX11_paste_28 : decode cX11_paste 28 = .ok (.invokevirtual 150, 3) := by decide +kernel
theorem dX11_paste_31 : decode cX11_paste 31 = .ok (.aload_n 0, 1) := by decide +kernel
theorem dX11_paste_32 : decode cX11_paste 32 = .ok (.getfield 10, 3) := by decide +kernel
theorem dX11_paste_35 : decode cX11_paste 35 = .ok (.getfield 144, 3) := by decide +kernel
theorem dX11_paste_38 : decode cX11_paste 38 = .ok (.ireturn, 1) := by decide +kernel
theorem dX11_indent_0 : decode cX11_indent 0 = .ok (.aload_n 0, 1) := by decide +kernel
theorem dX11_indent_1 : decode cX11_indent 1 = .ok (.iload_n 1, 1) := by decide +kernel
theorem dX11_indent_2 : decode cX11_indent 2 = .ok (.invokevirtual 112, 3) := by decide +kernel
theorem dX11_indent_5 : decode cX11_indent 5 = .ok (.aload_n 0, 1) := by decide +kernel
theorem dX11_indent_6 : decode cX11_indent 6 = .ok (.iload_n 2, 1) := by decide +kernel
theorem dX11_indent_7 : decode cX11_indent 7 = .ok (.invokevirtual 112, 3) := by decide +kernel
theorem dX11_indent_10 : decode cX11_indent 10 = .ok (.iload_n 1, 1) := by decide +kernel
theorem dX11_indent_11 : decode cX11_indent 11 = .ok (.iload_n 2, 1) := by decide +kernel
theorem dX11_indent_12 : decode cX11_indent 12 = .ok (.if_icmp .gt 19, 3) := by decide +kernel
theorem dX11_indent_15 : decode cX11_indent 15 = .ok (.iload_n 3, 1) := by decide +kernel
theorem dX11_indent_16 : decode cX11_indent 16 = .ok (.ifCond .eq 15, 3) := by decide +kernel
theorem dX11_indent_19 : decode cX11_indent 19 = .ok (.iload_n 3, 1) := by decide +kernel
theorem dX11_indent_20 : decode cX11_indent 20 = .ok (.bipush (-8), 2) := by decide +kernel
theorem dX11_indent_22 : decode cX11_indent 22 = .ok (.if_icmp .lt 9, 3) := by decide +kernel
theorem dX11_indent_25 : decode cX11_indent 25 = .ok (.iload_n 3, 1) := by decide +kernel
theorem dX11_indent_26 : decode cX11_indent 26 = .ok (.bipush 8, 2) := by decide +kernel
theorem dX11_indent_28 : decode cX11_indent 28 = .ok (.if_icmp .le 13, 3) := by decide +kernel
theorem dX11_indent_31 : decode cX11_indent 31 = .ok (.new 82, 3) := by decide +kernel
theorem dX11_indent_34 : decode cX11_indent 34 = .ok (.dup, 1) := by decide +kernel
theorem dX11_indent_35 : decode cX11_indent 35 = .ok (.ldc 165, 2) := by decide +kernel
theorem dX11_indent_37 : decode cX11_indent 37 = .ok (.invokespecial 86, 3) := by decide +kernel
theorem dX11_indent_40 : decode cX11_indent 40 = .ok (.athrow, 1) := by decide +kernel
theorem dX11_indent_41 : decode cX11_indent 41 = .ok (.aload_n 0, 1) := by decide +kernel
theorem dX11_indent_42 : decode cX11_indent 42 = .ok (.getfield 35, 3) := by decide +kernel
theorem dX11_indent_45 : decode cX11_indent 45 = .ok (.bipush 32, 2) := by decide +kernel
theorem dX11_indent_47 : decode cX11_indent 47 = .ok (.iload_n 3, 1) := by decide +kernel
theorem dX11_indent_48 : decode cX11_indent 48 = .ok (.iconst 0, 1) := by decide +kernel
theorem dX11_indent_49 : decode cX11_indent 49 = .ok (.invokestatic 167, 3) := by decide +kernel
theorem dX11_indent_52 : decode cX11_indent 52 = .ok (.invokevirtual 173, 3) := by decide +kernel
theorem dX11_indent_55 : decode cX11_indent 55 = .ok (.iload_n 1, 1) := by decide +kernel
theorem dX11_indent_56 : decode cX11_indent 56 = .ok (.istore 4, 2) := by decide +kernel
theorem dX11_indent_58 : decode cX11_indent 58 = .ok (.iload 4, 2) := by decide +kernel
theorem dX11_indent_60 : decode cX11_indent 60 = .ok (.iload_n 2, 1) := by decide +kernel
theorem dX11_indent_61 : decode cX11_indent 61 = .ok (.if_icmp .gt 16, 3) := by decide +kernel
theorem dX11_indent_64 : decode cX11_indent 64 = .ok (.aload_n 0, 1) := by decide +kernel
theorem dX11_indent_65 : decode cX11_indent 65 = .ok (.iload 4, 2) := by decide +kernel
theorem dX11_indent_67 : decode cX11_indent 67 = .ok (.iload_n 3, 1) := by decide +kernel
theorem dX11_indent_68 : decode cX11_indent 68 = .ok (.invokevirtual 176, 3) := by decide +kernel
theorem dX11_indent_71 : decode cX11_indent 71 = .ok (.iinc 4 1, 3) := by decide +kernel
theorem dX11_indent_74 : decode cX11_indent 74 = .ok (.goto (-16), 3) := by decide +kernel
theorem dX11_indent_77 : decode cX11_indent 77 = .ok (.aload_n 0, 1) := by decide +kernel
theorem dX11_indent_78 : decode cX11_indent 78 = .ok (.getfield 35, 3) := by decide +kernel
theorem dX11_indent_81 : decode cX11_indent 81 = .ok (.getfield 179, 3) := by decide +kernel
theorem dX11_indent_84 : decode cX11_indent 84 = .ok (.istore 4, 2) := by decide +kernel
theorem dX11_indent_86 : decode cX11_indent 86 = .ok (.aload_n 0, 1) := by decide +kernel
theorem dX11_indent_87 : decode cX11_indent 87 = .ok (.invokevirtual 134, 3) := by decide +kernel
theorem dX11_indent_90 : decode cX11_indent 90 = .ok (.ifCond .ne 13, 3) := by decide +kernel
theorem dX11_indent_93 : decode cX11_indent 93 = .ok (.new 92, 3) := by decide +kernel
theorem dX11_indent_96 : decode cX11_indent 96 = .ok (.dup, 1) := by decide +kernel
theorem dX11_indent_97 : decode cX11_indent 97 = .ok (.ldc 138, 2) := by decide +kernel
theorem dX11_indent_99 : decode cX11_indent 99 = .ok (.invokespecial 96, 3) := by decide +kernel
theorem dX11_indent_102 : decode cX11_indent 102 = .ok (.athrow, 1) := by decide +kernel
theorem dX11_indent_103 : decode cX11_indent 103 = .ok (.iload 4, 2) := by decide +kernel
theorem dX11_indent_105 : decode cX11_indent 105 = .ok (.ireturn, 1) := by decide +kernel
theorem dX11_wrap_0 : decode cX11_wrap 0 = .ok (.aload_n 0, 1) := by decide +kernel
theorem dX11_wrap_1 : decode cX11_wrap 1 = .ok (.iload_n 1, 1) := by decide +kernel
theorem dX11_wrap_2 : decode cX11_wrap 2 = .ok (.invokevirtual 112, 3) := by decide +kernel
theorem dX11_wrap_5 : decode cX11_wrap 5 = .ok (.iload_n 2, 1) := by decide +kernel
theorem dX11_wrap_6 : decode cX11_wrap 6 = .ok (.iconst 1, 1) := by decide +kernel
theorem dX11_wrap_7 : decode cX11_wrap 7 = .ok (.if_icmp .lt 9, 3) := by decide +kernel
theorem dX11_wrap_10 : decode cX11_wrap 10 = .ok (.iload_n 2, 1) := by decide +kernel
theorem dX11_wrap_11 : decode cX11_wrap 11 = .ok (.bipush 100, 2) := by decide +kernel
theorem dX11_wrap_13 : decode cX11_wrap 13 = .ok (.if_icmp .le 13, 3) := by decide +kernel
theorem dX11_wrap_16 : decode cX11_wrap 16 = .ok (.new 82, 3) := by decide +kernel
theorem dX11_wrap_19 : decode cX11_wrap 19 = .ok (.dup, 1) := by decide +kernel
theorem dX11_wrap_20 : decode cX11_wrap 20 = .ok (.ldc 182, 2) := by decide +kernel
theorem dX11_wrap_22 : decode cX11_wrap 22 = .ok (.invokespecial 86, 3) := by decide +kernel
theorem dX11_wrap_25 : decode cX11_wrap 25 = .ok (.athrow, 1) := by decide +kernel
theorem dX11_wrap_26 : decode cX11_wrap 26 = .ok (.aload_n 0, 1) := by decide +kernel
theorem dX11_wrap_27 : decode cX11_wrap 27 = .ok (.getfield 35, 3) := by decide +kernel
theorem dX11_wrap_30 : decode cX11_wrap 30 = .ok (.bipush 10, 2) := by decide +kernel
theorem dX11_wrap_32 : decode cX11_wrap 32 = .ok (.iconst 1, 1) := by decide +kernel
theorem dX11_wrap_33 : decode cX11_wrap 33 = .ok (.invokevirtual 173, 3) := by decide +kernel
theorem dX11_wrap_36 : decode cX11_wrap 36 = .ok (.aload_n 0, 1) := by decide +kernel
theorem dX11_wrap_37 : decode cX11_wrap 37 = .ok (.getfield 10, 3) := by decide +kernel
theorem dX11_wrap_40 : decode cX11_wrap 40 = .ok (.iload_n 1, 1) := by decide +kernel
theorem dX11_wrap_41 : decode cX11_wrap 41 = .ok (.invokevirtual 184, 3) := by decide +kernel
theorem dX11_wrap_44 : decode cX11_wrap 44 = .ok (.istore_n 3, 1) := by decide +kernel
theorem dX11_wrap_45 : decode cX11_wrap 45 = .ok (.aload_n 0, 1) := by decide +kernel
theorem dX11_wrap_46 : decode cX11_wrap 46 = .ok (.aload_n 0, 1) := by decide +kernel
theorem dX11_wrap_47 : decode cX11_wrap 47 = .ok (.getfield 10, 3) := by decide +kernel
theorem dX11_wrap_50 : decode cX11_wrap 50 = .ok (.getfield 188, 3) := by decide +kernel
theorem dX11_wrap_53 : decode cX11_wrap 53 = .ok (.iload_n 1, 1) := by decide +kernel
theorem dX11_wrap_54 : decode cX11_wrap 54 = .ok (.iaload, 1) := by decide +kernel
theorem dX11_wrap_55 : decode cX11_wrap 55 = .ok (.iload_n 3, 1) := by decide +kernel
theorem dX11_wrap_56 : decode cX11_wrap 56 = .ok (.iload_n 2, 1) := by decide +kernel
theorem dX11_wrap_57 : decode cX11_wrap 57 = .ok (.invokevirtual 191, 3) := by decide +kernel
theorem dX11_wrap_60 : decode cX11_wrap 60 = .ok (.istore 4, 2) := by decide +kernel
theorem dX11_wrap_62 : decode cX11_wrap 62 = .ok (.iconst 0, 1) := by decide +kernel
theorem dX11_wrap_63 : decode cX11_wrap 63 = .ok (.istore 5, 2) := by decide +kernel
theorem dX11_wrap_65 : decode cX11_wrap 65 = .ok (.iload 5, 2) := by decide +kernel
theorem dX11_wrap_67 : decode cX11_wrap 67 = .ok (.sipush 3000, 3) := by decide +kernel
theorem dX11_wrap_70 : decode cX11_wrap 70 = .ok (.if_icmp .ge 41, 3) := by decide +kernel
theorem dX11_wrap_73 : decode cX11_wrap 73 = .ok (.iload 4, 2) := by decide +kernel
theorem dX11_wrap_75 : decode cX11_wrap 75 = .ok (.iconst (-1), 1) := by decide +kernel
theorem dX11_wrap_76 : decode cX11_wrap 76 = .ok (.if_icmp .eq 35, 3) := by decide +kernel
theorem dX11_wrap_79 : decode cX11_wrap 79 = .ok (.aload_n 0, 1) := by decide +kernel
theorem dX11_wrap_80 : decode cX11_wrap 80 = .ok (.getfield 35, 3) := by decide +kernel
theorem dX11_wrap_83 : decode cX11_wrap 83 = .ok (.iload 4, 2) := by decide +kernel
theorem dX11_wrap_85 : decode cX11_wrap 85 = .ok (.iload 4, 2) := by decide +kernel
theorem dX11_wrap_87 : decode cX11_wrap 87 = .ok (.iconst 1, 1) := by decide +kernel
theorem dX11_wrap_88 : decode cX11_wrap 88 = .ok (.iadd, 1) := by decide +kernel
theorem dX11_wrap_89 : decode cX11_wrap 89 = .ok (.iconst 1, 1) := by decide +kernel
theorem dX11_wrap_90 : decode cX11_wrap 90 = .ok (.invokevirtual 156, 3) := by decide +kernel
theorem dX11_wrap_93 : decode cX11_wrap 93 = .ok (.aload_n 0, 1) := by decide +kernel
theorem dX11_wrap_94 : decode cX11_wrap 94 = .ok (.iload 4, 2) := by decide +kernel
theorem dX11_wrap_96 : decode cX11_wrap 96 = .ok (.iconst 1, 1) := by decide +kernel
theorem dX11_wrap_97 : decode cX11_wrap 97 = .ok (.iadd, 1) := by decide +kernel
theorem dX11_wrap_98 : decode cX11_wrap 98 = .ok (.iload_n 3, 1) := by decide +kernel
theorem dX11_wrap_99 : decode cX11_wrap 99 = .ok (.iload_n 2, 1) := by decide +kernel
theorem dX11_wrap_100 : decode cX11_wrap 100 = .ok (.invokevirtual 191, 3) := by decide +kernel
theorem dX11_wrap_103 : decode cX11_wrap 103 = .ok (.istore 4, 2) := by decide +kernel
theorem dX11_wrap_105 : decode cX11_wrap 105 = .ok (.iinc 5 1, 3) := by decide +kernel
theorem dX11_wrap_108 : decode cX11_wrap 108 = .ok (.goto (-43), 3) := by decide +kernel
theorem dX11_wrap_111 : decode cX11_wrap 111 = .ok (.aload_n 0, 1) := by decide +kernel
theorem dX11_wrap_112 : decode cX11_wrap 112 = .ok (.getfield 35, 3) := by decide +kernel
theorem dX11_wrap_115 : decode cX11_wrap 115 = .ok (.getfield 179, 3) := by decide +kernel
theorem dX11_wrap_118 : decode cX11_wrap 118 = .ok (.istore 5, 2) := by decide +kernel
theorem dX11_wrap_120 : decode cX11_wrap 120 = .ok (.aload_n 0, 1) := by decide +kernel
theorem dX11_wrap_121 : decode cX11_wrap 121 = .ok (.invokevirtual 134, 3) := by decide +kernel
theorem dX11_wrap_124 : decode cX11_wrap 124 = .ok (.ifCond .ne 13, 3) := by decide +kernel
theorem dX11_wrap_127 : decode cX11_wrap 127 = .ok (.new 92, 3) := by decide +kernel
theorem dX11_wrap_130 : decode cX11_wrap 130 = .ok (.dup, 1) := by decide +kernel
theorem dX11_wrap_131 : decode cX11_wrap 131 = .ok (.ldc 138, 2) := by decide +kernel
theorem dX11_wrap_133 : decode cX11_wrap 133 = .ok (.invokespecial 96, 3) := by decide +kernel
theorem dX11_wrap_136 : decode cX11_wrap 136 = .ok (.athrow, 1) := by decide +kernel
theorem dX11_wrap_137 : decode cX11_wrap 137 = .ok (.iload 5, 2) := by decide +kernel
theorem dX11_wrap_139 : decode cX11_wrap 139 = .ok (.ireturn, 1) := by decide +kernel
theorem dX11_joinLines_0 : decode cX11_joinLines 0 = .ok (.aload_n 0, 1) := by decide +kernel
theorem dX11_joinLines_1 : decode cX11_joinLines 1 = .ok (.iload_n 1, 1) := by decide +kernel
theorem dX11_joinLines_2 : decode cX11_joinLines 2 = .ok (.invokevirtual 112, 3) := by decide +kernel
theorem dX11_joinLines_5 : decode cX11_joinLines 5 = .ok (.aload_n 0, 1) := by decide +kernel
theorem dX11_joinLines_6 : decode cX11_joinLines 6 = .ok (.iload_n 2, 1) := by decide +kernel
theorem dX11_joinLines_7 : decode cX11_joinLines 7 = .ok (.invokevirtual 112, 3) := by decide +kernel
theorem dX11_joinLines_10 : decode cX11_joinLines 10 = .ok (.iload_n 1, 1) := by decide +kernel
theorem dX11_joinLines_11 : decode cX11_joinLines 11 = .ok (.iload_n 2, 1) := by decide +kernel
theorem dX11_joinLines_12 : decode cX11_joinLines 12 = .ok (.if_icmp .le 13, 3) := by decide +kernel
theorem dX11_joinLines_15 : decode cX11_joinLines 15 = .ok (.new 82, 3) := by decide +kernel
theorem dX11_joinLines_18 : decode cX11_joinLines 18 = .ok (.dup, 1) := by decide +kernel
theorem dX11_joinLines_19 : decode cX11_joinLines 19 = .ok (.ldc 195, 2) := by decide +kernel
theorem dX11_joinLines_21 : decode cX11_joinLines 21 = .ok (.invokespecial 86, 3) := by decide +kernel
theorem dX11_joinLines_24 : decode cX11_joinLines 24 = .ok (.athrow, 1) := by decide +kernel
theorem dX11_joinLines_25 : decode cX11_joinLines 25 = .ok (.aload_n 0, 1) := by decide +kernel
theorem dX11_joinLines_26 : decode cX11_joinLines 26 = .ok (.getfield 35, 3) := by decide +kernel
theorem dX11_joinLines_29 : decode cX11_joinLines 29 = .ok (.bipush 32, 2) := by decide +kernel
theorem dX11_joinLines_31 : decode cX11_joinLines 31 = .ok (.iconst 1, 1) := by decide +kernel
theorem dX11_joinLines_32 : decode cX11_joinLines 32 = .ok (.invokevirtual 173, 3) := by decide +kernel
theorem dX11_joinLines_35 : decode cX11_joinLines 35 = .ok (.iload_n 1, 1) := by decide +kernel
theorem dX11_joinLines_36 : decode cX11_joinLines 36 = .ok (.iconst 1, 1) := by decide +kernel
theorem dX11_joinLines_37 : decode cX11_joinLines 37 = .ok (.iadd, 1) := by decide +kernel
theorem dX11_joinLines_38 : decode cX11_joinLines 38 = .ok (.istore_n 3, 1) := by decide +kernel
theorem dX11_joinLines_39 : decode cX11_joinLines 39 = .ok (.iload_n 3, 1) := by decide +kernel
theorem dX11_joinLines_40 : decode cX11_joinLines 40 = .ok (.iload_n 2, 1) := by decide +kernel
theorem dX11_joinLines_41 : decode cX11_joinLines 41 = .ok (.if_icmp .gt 47, 3) := by decide +kernel
theorem dX11_joinLines_44 : decode cX11_joinLines 44 = .ok (.aload_n 0, 1) := by decide +kernel
theorem dX11_joinLines_45 : decode cX11_joinLines 45 = .ok (.getfield 10, 3) := by decide +kernel
theorem dX11_joinLines_48 : decode cX11_joinLines 48 = .ok (.getfield 188, 3) := by decide +kernel
theorem dX11_joinLines_51 : decode cX11_joinLines 51 = .ok (.iload_n 3, 1) := by decide +kernel
theorem dX11_joinLines_52 : decode cX11_joinLines 52 = .ok (.iaload, 1) := by decide +kernel
theorem dX11_joinLines_53 : decode cX11_joinLines 53 = .ok (.istore 4, 2) := by decide +kernel
theorem dX11_joinLines_55 : decode cX11_joinLines 55 = .ok (.aload_n 0, 1) := by decide +kernel
theorem dX11_joinLines_56 : decode cX11_joinLines 56 = .ok (.getfield 35, 3) := by decide +kernel
theorem dX11_joinLines_59 : decode cX11_joinLines 59 = .ok (.iload 4, 2) := by decide +kernel
theorem dX11_joinLines_61 : decode cX11_joinLines 61 = .ok (.iconst 1, 1) := by decide +kernel
theorem dX11_joinLines_62 : decode cX11_joinLines 62 = .ok (.isub, 1) := by decide +kernel
theorem dX11_joinLines_63 : decode cX11_joinLines 63 = .ok (.iload 4, 2) := by decide +kernel
theorem dX11_joinLines_65 : decode cX11_joinLines 65 = .ok (.aload_n 0, 1) := by decide +kernel
theorem dX11_joinLines_66 : decode cX11_joinLines 66 = .ok (.getfield 10, 3) := by decide +kernel
theorem dX11_joinLines_69 : decode cX11_joinLines 69 = .ok (.iload 4, 2) := by decide +kernel
theorem dX11_joinLines_71 : decode cX11_joinLines 71 = .ok (.sipush 3000, 3) := by decide +kernel
theorem dX11_joinLines_74 : decode cX11_joinLines 74 = .ok (.invokevirtual 197, 3) := by decide +kernel
theorem dX11_joinLines_77 : decode cX11_joinLines 77 = .ok (.iadd, 1) := by decide +kernel
theorem dX11_joinLines_78 : decode cX11_joinLines 78 = .ok (.iconst 1, 1) := by decide +kernel
theorem dX11_joinLines_79 : decode cX11_joinLines 79 = .ok (.invokevirtual 156, 3) := by decide +kernel
theorem dX11_joinLines_82 : decode cX11_joinLines 82 = .ok (.iinc 3 1, 3) := by decide +kernel
theorem dX11_joinLines_85 : decode cX11_joinLines 85 = .ok (.goto (-46), 3) := by decide +kernel
theorem dX11_joinLines_88 : decode cX11_joinLines 88 = .ok (.aload_n 0, 1) := by decide +kernel
theorem dX11_joinLines_89 : decode cX11_joinLines 89 = .ok (.invokevirtual 134, 3) := by decide +kernel
theorem dX11_joinLines_92 : decode cX11_joinLines 92 = .ok (.ifCond .ne 13, 3) := by decide +kernel
theorem dX11_joinLines_95 : decode cX11_joinLines 95 = .ok (.new 92, 3) := by decide +kernel
theorem dX11_joinLines_98 : decode cX11_joinLines 98 = .ok (.dup, 1) := by decide +kernel
theorem dX11_joinLines_99 : decode cX11_joinLines 99 = .ok (.ldc 138, 2) := by decide +kernel
theorem dX11_joinLines_101 : decode cX11_joinLines 101 = .ok (.invokespecial 96, 3) := by decide +kernel
theorem dX11_joinLines_104 : decode cX11_joinLines 104 = .ok (.athrow, 1) := by decide +kernel
theorem dX11_joinLines_105 : decode cX11_joinLines 105 = .ok (.aload_n 0, 1) := by decide +kernel
theorem dX11_joinLines_106 : decode cX11_joinLines 106 = .ok (.getfield 10, 3) := by decide +kernel
theorem dX11_joinLines_109 : decode cX11_joinLines 109 = .ok (.getfield 116, 3) := by decide +kernel
theorem dX11_joinLines_112 : decode cX11_joinLines 112 = .ok (.ireturn, 1) := by decide +kernel
theorem dX11_replaceNext_0 : decode cX11_replaceNext 0 = .ok (.aload_n 0, 1) := by decide +kernel
theorem dX11_replaceNext_1 : decode cX11_replaceNext 1 = .ok (.getfield 49, 3) := by decide +kernel
theorem dX11_replaceNext_4 : decode cX11_replaceNext 4 = .ok (.invokevirtual 200, 3) := by decide +kernel
theorem dX11_replaceNext_7 : decode cX11_replaceNext 7 = .ok (.ifCond .ne 13, 3) := by decide +kernel
theorem dX11_replaceNext_10 : decode cX11_replaceNext 10 = .ok (.new 92, 3) := by decide +kernel
theorem dX11_replaceNext_13 : decode cX11_replaceNext 13 = .ok (.dup, 1) := by decide +kernel
theorem dX11_replaceNext_14 : decode cX11_replaceNext 14 = .ok (.ldc 203, 2) := by decide +kernel
theorem dX11_replaceNext_16 : decode cX11_replaceNext 16 = .ok (.invokespecial 96, 3) := by decide +kernel
theorem dX11_replaceNext_19 : decode cX11_replaceNext 19 = .ok (.athrow, 1) := by decide +kernel
theorem dX11_replaceNext_20 : decode cX11_replaceNext 20 = .ok (.aload_n 0, 1) := by decide +kernel
theorem dX11_replaceNext_21 : decode cX11_replaceNext 21 = .ok (.getfield 49, 3) := by decide +kernel
theorem dX11_replaceNext_24 : decode cX11_replaceNext 24 = .ok (.aload_n 0, 1) := by decide +kernel
theorem dX11_replaceNext_25 : decode cX11_replaceNext 25 = .ok (.getfield 10, 3) := by decide +kernel
theorem dX11_replaceNext_28 : decode cX11_replaceNext 28 = .ok (.aload_n 0, 1) := by decide +kernel
theorem dX11_replaceNext_29 : decode cX11_replaceNext 29 = .ok (.getfield 10, 3) := by decide +kernel
theorem dX11_replaceNext_32 : decode cX11_replaceNext 32 = .ok (.getfield 205, 3) := by decide +kernel
theorem dX11_replaceNext_35 : decode cX11_replaceNext 35 = .ok (.iconst 0, 1) := by decide +kernel
theorem dX11_replaceNext_36 : decode cX11_replaceNext 36 = .ok (.iaload, 1) := by decide +kernel
theorem dX11_replaceNext_37 : decode cX11_replaceNext 37 = .ok (.invokevirtual 208, 3) := by decide +kernel
theorem dX11_replaceNext_40 : decode cX11_replaceNext 40 = .ok (.istore_n 1, 1) := by decide +kernel
theorem dX11_replaceNext_41 : decode cX11_replaceNext 41 = .ok (.iload_n 1, 1) := by decide +kernel
theorem dX11_replaceNext_42 : decode cX11_replaceNext 42 = .ok (.iconst (-1), 1) := by decide +kernel
theorem dX11_replaceNext_43 : decode cX11_replaceNext 43 = .ok (.if_icmp .ne 16, 3) := by decide +kernel
theorem dX11_replaceNext_46 : decode cX11_replaceNext 46 = .ok (.aload_n 0, 1) := by decide +kernel
theorem dX11_replaceNext_47 : decode cX11_replaceNext 47 = .ok (.getfield 49, 3) := by decide +kernel
theorem dX11_replaceNext_50 : decode cX11_replaceNext 50 = .ok (.aload_n 0, 1) := by decide +kernel
theorem dX11_replaceNext_51 : decode cX11_replaceNext 51 = .ok (.getfield 10, 3) := by decide +kernel
theorem dX11_replaceNext_54 : decode cX11_replaceNext 54 = .ok (.iconst 0, 1) := by decide +kernel
theorem dX11_replaceNext_55 : decode cX11_replaceNext 55 = .ok (.invokevirtual 208, 3) := by decide +kernel
theorem dX11_replaceNext_58 : decode cX11_replaceNext 58 = .ok (.istore_n 1, 1) := by decide +kernel
theorem dX11_replaceNext_59 : decode cX11_replaceNext 59 = .ok (.iload_n 1, 1) := by decide +kernel
theorem dX11_replaceNext_60 : decode cX11_replaceNext 60 = .ok (.iconst (-1), 1) := by decide +kernel
theorem dX11_replaceNext_61 : decode cX11_replaceNext 61 = .ok (.if_icmp .ne 5, 3) := by decide +kernel
theorem dX11_replaceNext_64 : decode cX11_replaceNext 64 = .ok (.iconst (-1), 1) := by decide +kernel
theorem dX11_replaceNext_65 : decode cX11_replaceNext 65 = .ok (.ireturn, 1) := by decide +kernel
theorem dX11_replaceNext_66 : decode cX11_replaceNext 66 = .ok (.aload_n 0, 1) := by decide +kernel
theorem dX11_replaceNext_67 : decode cX11_replaceNext 67 = .ok (.getfield 35, 3) := by decide +kernel
theorem dX11_replaceNext_70 : decode cX11_replaceNext 70 = .ok (.aload_n 0, 1) := by decide +kernel
theorem dX11_replaceNext_71 : decode cX11_replaceNext 71 = .ok (.getfield 21, 3) := by decide +kernel
theorem dX11_replaceNext_74 : decode cX11_replaceNext 74 = .ok (.getfield 130, 3) := by decide +kernel
theorem dX11_replaceNext_77 : decode cX11_replaceNext 77 = .ok (.iconst 0, 1) := by decide +kernel
theorem dX11_replaceNext_78 : decode cX11_replaceNext 78 = .ok (.aload_n 0, 1) := by decide +kernel
theorem dX11_replaceNext_79 : decode cX11_replaceNext 79 = .ok (.getfield 21, 3) := by decide +kernel
theorem dX11_replaceNext_82 : decode cX11_replaceNext 82 = .ok (.getfield 89, 3) := by decide +kernel
theorem dX11_replaceNext_85 : decode cX11_replaceNext 85 = .ok (.invokevirtual 153, 3) := by decide +kernel
theorem dX11_replaceNext_88 : decode cX11_replaceNext 88 = .ok (.aload_n 0, 1) := by decide +kernel
theorem dX11_replaceNext_89 : decode cX11_replaceNext 89 = .ok (.getfield 35, 3) := by decide +kernel
theorem dX11_replaceNext_92 : decode cX11_replaceNext 92 = .ok (.iload_n 1, 1) := by decide +kernel
theorem dX11_replaceNext_93 : decode cX11_replaceNext 93 = .ok (.iload_n 1, 1) := by decide +kernel
theorem dX11_replaceNext_94 : decode cX11_replaceNext 94 = .ok (.aload_n 0, 1) := by decide +kernel
theorem dX11_replaceNext_95 : decode cX11_replaceNext 95 = .ok (.getfield 49, 3) := by decide +kernel
theorem dX11_replaceNext_98 : decode cX11_replaceNext 98 = .ok (.getfield 212, 3) := by decide +kernel
theorem dX11_replaceNext_101 : decode cX11_replaceNext 101 = .ok (.getfield 89, 3) := by decide +kernel
theorem dX11_replaceNext_104 : decode cX11_replaceNext 104 = .ok (.iadd, 1) := by decide +kernel
theorem dX11_replaceNext_105 : decode cX11_replaceNext 105 = .ok (.aload_n 0, 1) := by decide +kernel
theorem dX11_replaceNext_106 : decode cX11_replaceNext 106 = .ok (.getfield 21, 3) := by decide +kernel
theorem dX11_replaceNext_109 : decode cX11_replaceNext 109 = .ok (.getfield 89, 3) := by decide +kernel
theorem dX11_replaceNext_112 : decode cX11_replaceNext 112 = .ok (.invokevirtual 156, 3) := by decide +kernel
theorem dX11_replaceNext_115 : decode cX11_replaceNext 115 = .ok (.aload_n 0, 1) := by decide +kernel
theorem dX11_replaceNext_116 : decode cX11_replaceNext 116 = .ok (.invokevirtual 134, 3) := by decide +kernel
theorem dX11_replaceNext_119 : decode cX11_replaceNext 119 = .ok (.ifCond .ne 13, 3) := by decide +kernel
theorem dX11_replaceNext_122 : decode cX11_replaceNext 122 = .ok (.new 92, 3) := by decide +kernel
theorem dX11_replaceNext_125 : decode cX11_replaceNext 125 = .ok (.dup, 1) := by decide +kernel
theorem dX11_replaceNext_126 : decode cX11_replaceNext 126 = .ok (.ldc 138, 2) := by decide +kernel
theorem dX11_replaceNext_128 : decode cX11_replaceNext 128 = .ok (.invokespecial 96, 3) := by decide +kernel
theorem dX11_replaceNext_131 : decode cX11_replaceNext 131 = .ok (.athrow, 1) := by decide +kernel
theorem dX11_replaceNext_132 : decode cX11_replaceNext 132 = .ok (.aload_n 0, 1) := by decide +kernel
theorem dX11_replaceNext_133 : decode cX11_replaceNext 133 = .ok (.getfield 10, 3) := by decide +kernel
theorem dX11_replaceNext_136 : decode cX11_replaceNext 136 = .ok (.iload_n 1, 1) := by decide +kernel
theorem dX11_replaceNext_137 : decode cX11_replaceNext 137 = .ok (.aload_n 0, 1) := by decide +kernel
theorem dX11_replaceNext_138 : decode cX11_replaceNext 138 = .ok (.getfield 21, 3) := by decide +kernel
theorem dX11_replaceNext_141 : decode cX11_replaceNext 141 = .ok (.getfield 89, 3) := by decide +kernel
theorem dX11_replaceNext_144 : decode cX11_replaceNext 144 = .ok (.iadd, 1) := by decide +kernel
theorem dX11_replaceNext_145 : decode cX11_replaceNext 145 = .ok (.invokevirtual 215, 3) := by decide +kernel
theorem dX11_replaceNext_148 : decode cX11_replaceNext 148 = .ok (.iload_n 1, 1) := by decide +kernel
theorem dX11_replaceNext_149 : decode cX11_replaceNext 149 = .ok (.ireturn, 1) := by decide +kernel
theorem dX11_replaceAll_0 : decode cX11_replaceAll 0 = .ok (.aload_n 0, 1) := by decide +kernel
theorem dX11_replaceAll_1 : decode cX11_replaceAll 1 = .ok (.getfield 49, 3) := by decide +kernel
theorem dX11_replaceAll_4 : decode cX11_replaceAll 4 = .ok (.invokevirtual 200, 3) := by decide +kernel
theorem dX11_replaceAll_7 : decode cX11_replaceAll 7 = .ok (.ifCond .ne 13, 3) := by decide +kernel
theorem dX11_replaceAll_10 : decode cX11_replaceAll 10 = .ok (.new 92, 3) := by decide +kernel
theorem dX11_replaceAll_13 : decode cX11_replaceAll 13 = .ok (.dup, 1) := by decide +kernel
theorem dX11_replaceAll_14 : decode cX11_replaceAll 14 = .ok (.ldc 203, 2) := by decide +kernel
theorem dX11_replaceAll_16 : decode cX11_replaceAll 16 = .ok (.invokespecial 96, 3) := by decide +kernel
theorem dX11_replaceAll_19 : decode cX11_replaceAll 19 = .ok (.athrow, 1) := by decide +kernel
theorem dX11_replaceAll_20 : decode cX11_replaceAll 20 = .ok (.aload_n 0, 1) := by decide +kernel
theorem dX11_replaceAll_21 : decode cX11_replaceAll 21 = .ok (.getfield 35, 3) := by decide +kernel
theorem dX11_replaceAll_24 : decode cX11_replaceAll 24 = .ok (.aload_n 0, 1) := by decide +kernel
theorem dX11_replaceAll_25 : decode cX11_replaceAll 25 = .ok (.getfield 21, 3) := by decide +kernel
theorem dX11_replaceAll_28 : decode cX11_replaceAll 28 = .ok (.getfield 130, 3) := by decide +kernel
theorem dX11_replaceAll_31 : decode cX11_replaceAll 31 = .ok (.iconst 0, 1) := by decide +kernel
theorem dX11_replaceAll_32 : decode cX11_replaceAll 32 = .ok (.aload_n 0, 1) := by decide +kernel
theorem dX11_replaceAll_33 : decode cX11_replaceAll 33 = .ok (.getfield 21, 3) := by decide +kernel
theorem dX11_replaceAll_36 : decode cX11_replaceAll 36 = .ok (.getfield 89, 3) := by decide +kernel
theorem dX11_replaceAll_39 : decode cX11_replaceAll 39 = .ok (.invokevirtual 153, 3) := by decide +kernel
theorem dX11_replaceAll_42 : decode cX11_replaceAll 42 = .ok (.aload_n 0, 1) := by decide +kernel
theorem dX11_replaceAll_43 : decode cX11_replaceAll 43 = .ok (.getfield 49, 3) := by decide +kernel
theorem dX11_replaceAll_46 : decode cX11_replaceAll 46 = .ok (.aload_n 0, 1) := by decide +kernel
theorem dX11_replaceAll_47 : decode cX11_replaceAll 47 = .ok (.getfield 10, 3) := by decide +kernel
theorem dX11_replaceAll_50 : decode cX11_replaceAll 50 = .ok (.iconst 0, 1) := by decide +kernel
theorem dX11_replaceAll_51 : decode cX11_replaceAll 51 = .ok (.invokevirtual 208, 3) := by decide +kernel
theorem dX11_replaceAll_54 : decode cX11_replaceAll 54 = .ok (.istore_n 1, 1) := by decide +kernel
theorem dX11_replaceAll_55 : decode cX11_replaceAll 55 = .ok (.iconst 0, 1) := by decide +kernel
theorem dX11_replaceAll_56 : decode cX11_replaceAll 56 = .ok (.istore_n 2, 1) := by decide +kernel
theorem dX11_replaceAll_57 : decode cX11_replaceAll 57 = .ok (.iload_n 2, 1) := by decide +kernel
theorem dX11_replaceAll_58 : decode cX11_replaceAll 58 = .ok (.sipush 3000, 3) := by decide +kernel
theorem dX11_replaceAll_61 : decode cX11_replaceAll 61 = .ok (.if_icmp .ge 56, 3) := by decide +kernel
theorem dX11_replaceAll_64 : decode cX11_replaceAll 64 = .ok (.iload_n 1, 1) := by decide +kernel
theorem dX11_replaceAll_65 : decode cX11_replaceAll 65 = .ok (.iconst (-1), 1) := by decide +kernel
theorem dX11_replaceAll_66 : decode cX11_replaceAll 66 = .ok (.if_icmp .eq 51, 3) := by decide +kernel
theorem dX11_replaceAll_69 : decode cX11_replaceAll 69 = .ok (.iload_n 1, 1) := by decide +kernel
theorem dX11_replaceAll_70 : decode cX11_replaceAll 70 = .ok (.aload_n 0, 1) := by decide +kernel
theorem dX11_replaceAll_71 : decode cX11_replaceAll 71 = .ok (.getfield 49, 3) := by decide +kernel
theorem dX11_replaceAll_74 : decode cX11_replaceAll 74 = .ok (.getfield 212, 3) := by decide +kernel
theorem dX11_replaceAll_77 : decode cX11_replaceAll 77 = .ok (.getfield 89, 3) := by decide +kernel
theorem dX11_replaceAll_80 : decode cX11_replaceAll 80 = .ok (.iadd, 1) := by decide +kernel
theorem dX11_replaceAll_81 : decode cX11_replaceAll 81 = .ok (.istore_n 3, 1) := by decide +kernel
theorem dX11_replaceAll_82 : decode cX11_replaceAll 82 = .ok (.aload_n 0, 1) := by decide +kernel
theorem dX11_replaceAll_83 : decode cX11_replaceAll 83 = .ok (.getfield 35, 3) := by decide +kernel
theorem dX11_replaceAll_86 : decode cX11_replaceAll 86 = .ok (.iload_n 1, 1) := by decide +kernel
theorem dX11_replaceAll_87 : decode cX11_replaceAll 87 = .ok (.iload_n 3, 1) := by decide +kernel
theorem dX11_replaceAll_88 : decode cX11_replaceAll 88 = .ok (.aload_n 0, 1) := by decide +kernel
theorem dX11_replaceAll_89 : decode cX11_replaceAll 89 = .ok (.getfield 21, 3) := by decide +kernel
theorem dX11_replaceAll_92 : decode cX11_replaceAll 92 = .ok (.getfield 89, 3) := by decide +kernel
theorem dX11_replaceAll_95 : decode cX11_replaceAll 95 = .ok (.invokevirtual 156, 3) := by decide +kernel
theorem dX11_replaceAll_98 : decode cX11_replaceAll 98 = .ok (.aload_n 0, 1) := by decide +kernel
theorem dX11_replaceAll_99 : decode cX11_replaceAll 99 = .ok (.getfield 49, 3) := by decide +kernel
theorem dX11_replaceAll_102 : decode cX11_replaceAll 102 = .ok (.aload_n 0, 1) := by decide +kernel
theorem dX11_replaceAll_103 : decode cX11_replaceAll 103 = .ok (.getfield 10, 3) := by decide +kernel
theorem dX11_replaceAll_106 : decode cX11_replaceAll 106 = .ok (.iload_n 3, 1) := by decide +kernel
theorem dX11_replaceAll_107 : decode cX11_replaceAll 107 = .ok (.invokevirtual 208, 3) := by decide +kernel
theorem dX11_replaceAll_110 : decode cX11_replaceAll 110 = .ok (.istore_n 1, 1) := by decide +kernel
theorem dX11_replaceAll_111 : decode cX11_replaceAll 111 = .ok (.iinc 2 1, 3) := by decide +kernel
theorem dX11_replaceAll_114 : decode cX11_replaceAll 114 = .ok (.goto (-57), 3) := by decide +kernel
theorem dX11_replaceAll_117 : decode cX11_replaceAll 117 = .ok (.aload_n 0, 1) := by decide +kernel
theorem dX11_replaceAll_118 : decode cX11_replaceAll 118 = .ok (.getfield 35, 3) := by decide +kernel
theorem dX11_replaceAll_121 : decode cX11_replaceAll 121 = .ok (.getfield 179, 3) := by decide +kernel
theorem dX11_replaceAll_124 : decode cX11_replaceAll 124 = .ok (.istore_n 2, 1) := by decide +kernel
theorem dX11_replaceAll_125 : decode cX11_replaceAll 125 = .ok (.aload_n 0, 1) := by decide +kernel
theorem dX11_replaceAll_126 : decode cX11_replaceAll 126 = .ok (.invokevirtual 134, 3) := by decide +kernel
theorem dX11_replaceAll_129 : decode cX11_replaceAll 129 = .ok (.ifCond .ne 13, 3) := by decide +kernel
theorem dX11_replaceAll_132 : decode cX11_replaceAll 132 = .ok (.new 92, 3) := by decide +kernel
theorem dX11_replaceAll_135 : decode cX11_replaceAll 135 = .ok (.dup, 1) := by decide +kernel
theorem dX11_replaceAll_136 : decode cX11_replaceAll 136 = .ok (.ldc 138, 2) := by decide +kernel
theorem dX11_replaceAll_138 : decode cX11_replaceAll 138 = .ok (.invokespecial 96, 3) := by decide +kernel
theorem dX11_replaceAll_141 : decode cX11_replaceAll 141 = .ok (.athrow, 1) := by decide +kernel
theorem dX11_replaceAll_142 : decode cX11_replaceAll 142 = .ok (.iload_n 2, 1) := by decide +kernel
theorem dX11_replaceAll_143 : decode cX11_replaceAll 143 = .ok (.ireturn, 1) := by decide +kernel
theorem dX11_undo_0 : decode cX11_undo 0 = .ok (.iload_n 1, 1) := by decide +kernel
theorem dX11_undo_1 : decode cX11_undo 1 = .ok (.iconst 1, 1) := by decide +kernel
theorem dX11_undo_2 : decode cX11_undo 2 = .ok (.if_icmp .lt 10, 3) := by decide +kernel
theorem dX11_undo_5 : decode cX11_undo 5 = .ok (.iload_n 1, 1) := by decide +kernel
theorem dX11_undo_6 : decode cX11_undo 6 = .ok (.sipush 150, 3) := by decide +kernel
theorem dX11_undo_9 : decode cX11_undo 9 = .ok (.if_icmp .le 13, 3) := by decide +kernel
theorem dX11_undo_12 : decode cX11_undo 12 = .ok (.new 82, 3) := by decide +kernel
theorem dX11_undo_15 : decode cX11_undo 15 = .ok (.dup, 1) := by decide +kernel
theorem dX11_undo_16 : decode cX11_undo 16 = .ok (.ldc 145, 2) := by decide +kernel
theorem dX11_undo_18 : decode cX11_undo 18 = .ok (.invokespecial 86, 3) := by decide +kernel
theorem dX11_undo_21 : decode cX11_undo 21 = .ok (.athrow, 1) := by decide +kernel
theorem dX11_undo_22 : decode cX11_undo 22 = .ok (.aload_n 0, 1) := by decide +kernel
theorem dX11_undo_23 : decode cX11_undo 23 = .ok (.getfield 42, 3) := by decide +kernel
theorem dX11_undo_26 : decode cX11_undo 26 = .ok (.invokevirtual 218, 3) := by decide +kernel
theorem dX11_undo_29 : decode cX11_undo 29 = .ok (.aload_n 0, 1) := by decide +kernel
theorem dX11_undo_30 : decode cX11_undo 30 = .ok (.getfield 42, 3) := by decide +kernel
theorem dX11_undo_33 : decode cX11_undo 33 = .ok (.aload_n 0, 1) := by decide +kernel
theorem dX11_undo_34 : decode cX11_undo 34 = .ok (.getfield 10, 3) := by decide +kernel
theorem dX11_undo_37 : decode cX11_undo 37 = .ok (.iload_n 1, 1) := by decide +kernel
theorem dX11_undo_38 : decode cX11_undo 38 = .ok (.invokevirtual 221, 3) := by decide +kernel
theorem dX11_undo_41 : decode cX11_undo 41 = .ok (.ireturn, 1) := by decide +kernel
theorem dX11_redo_0 : decode cX11_redo 0 = .ok (.iload_n 1, 1) := by decide +kernel
theorem dX11_redo_1 : decode cX11_redo 1 = .ok (.iconst 1, 1) := by decide +kernel
theorem dX11_redo_2 : decode cX11_redo 2 = .ok (.if_icmp .lt 10, 3) := by decide +kernel
theorem dX11_redo_5 : decode cX11_redo 5 = .ok (.iload_n 1, 1) := by decide +kernel
theorem dX11_redo_6 : decode cX11_redo 6 = .ok (.sipush 150, 3) := by decide +kernel
theorem dX11_redo_9 : decode cX11_redo 9 = .ok (.if_icmp .le 13, 3) := by decide +kernel
theorem dX11_redo_12 : decode cX11_redo 12 = .ok (.new 82, 3) := by decide +kernel
theorem dX11_redo_15 : decode cX11_redo 15 = .ok (.dup, 1) := by decide +kernel
theorem dX11_redo_16 : decode cX11_redo 16 = .ok (.ldc 145, 2) := by decide +kernel
theorem dX11_redo_18 : decode cX11_redo 18 = .ok (.invokespecial 86, 3) := by decide +kernel
theorem dX11_redo_21 : decode cX11_redo 21 = .ok (.athrow, 1) := by decide +kernel
theorem dX11_redo_22 : decode cX11_redo 22 = .ok (.aload_n 0, 1) := by decide +kernel
theorem dX11_redo_23 : decode cX11_redo 23 = .ok (.getfield 42, 3) := by decide +kernel
theorem dX11_redo_26 : decode cX11_redo 26 = .ok (.invokevirtual 218, 3) := by decide +kernel
theorem dX11_redo_29 : decode cX11_redo 29 = .ok (.aload_n 0, 1) := by decide +kernel
theorem dX11_redo_30 : decode cX11_redo 30 = .ok (.getfield 42, 3) := by decide +kernel
theorem dX11_redo_33 : decode cX11_redo 33 = .ok (.aload_n 0, 1) := by decide +kernel
theorem dX11_redo_34 : decode cX11_redo 34 = .ok (.getfield 10, 3) := by decide +kernel
theorem dX11_redo_37 : decode cX11_redo 37 = .ok (.iload_n 1, 1) := by decide +kernel
theorem dX11_redo_38 : decode cX11_redo 38 = .ok (.invokevirtual 224, 3) := by decide +kernel
theorem dX11_redo_41 : decode cX11_redo 41 = .ok (.ireturn, 1) := by decide +kernel
theorem dX11_branch_0 : decode cX11_branch 0 = .ok (.aload_n 0, 1) := by decide +kernel
theorem dX11_branch_1 : decode cX11_branch 1 = .ok (.getfield 42, 3) := by decide +kernel
theorem dX11_branch_4 : decode cX11_branch 4 = .ok (.iload_n 1, 1) := by decide +kernel
theorem dX11_branch_5 : decode cX11_branch 5 = .ok (.invokevirtual 227, 3) := by decide +kernel
theorem dX11_branch_8 : decode cX11_branch 8 = .ok (.astore_n 2, 1) := by decide +kernel
theorem dX11_branch_9 : decode cX11_branch 9 = .ok (.aload_n 2, 1) := by decide +kernel
theorem dX11_branch_10 : decode cX11_branch 10 = .ok (.ifnonnull 13, 3) := by decide +kernel
theorem dX11_branch_13 : decode cX11_branch 13 = .ok (.new 231, 3) := by decide +kernel
theorem dX11_branch_16 : decode cX11_branch 16 = .ok (.dup, 1) := by decide +kernel
theorem dX11_branch_17 : decode cX11_branch 17 = .ok (.ldc 233, 2) := by decide +kernel
theorem dX11_branch_19 : decode cX11_branch 19 = .ok (.invokespecial 235, 3) := by decide +kernel
theorem dX11_branch_22 : decode cX11_branch 22 = .ok (.athrow, 1) := by decide +kernel
theorem dX11_branch_23 : decode cX11_branch 23 = .ok (.aload_n 0, 1) := by decide +kernel
theorem dX11_branch_24 : decode cX11_branch 24 = .ok (.getfield 42, 3) := by decide +kernel
theorem dX11_branch_27 : decode cX11_branch 27 = .ok (.invokevirtual 218, 3) := by decide +kernel
theorem dX11_branch_30 : decode cX11_branch 30 = .ok (.aload_n 0, 1) := by decide +kernel
theorem dX11_branch_31 : decode cX11_branch 31 = .ok (.getfield 42, 3) := by decide +kernel
theorem dX11_branch_34 : decode cX11_branch 34 = .ok (.getfield 236, 3) := by decide +kernel
theorem dX11_branch_37 : decode cX11_branch 37 = .ok (.aload_n 2, 1) := by decide +kernel
theorem dX11_branch_38 : decode cX11_branch 38 = .ok (.putfield 240, 3) := by decide +kernel
theorem dX11_branch_41 : decode cX11_branch 41 = .ok (.aload_n 0, 1) := by decide +kernel
theorem dX11_branch_42 : decode cX11_branch 42 = .ok (.getfield 42, 3) := by decide +kernel
theorem dX11_branch_45 : decode cX11_branch 45 = .ok (.invokevirtual 245, 3) := by decide +kernel
theorem dX11_branch_48 : decode cX11_branch 48 = .ok (.ireturn, 1) := by decide +kernel
theorem dX11_group_0 : decode cX11_group 0 = .ok (.aload_n 0, 1) := by decide +kernel
theorem dX11_group_1 : decode cX11_group 1 = .ok (.getfield 42, 3) := by decide +kernel
theorem dX11_group_4 : decode cX11_group 4 = .ok (.getfield 249, 3) := by decide +kernel
theorem dX11_group_7 : decode cX11_group 7 = .ok (.istore_n 2, 1) := by decide +kernel
theorem dX11_group_8 : decode cX11_group 8 = .ok (.aload_n 0, 1) := by decide +kernel
theorem dX11_group_9 : decode cX11_group 9 = .ok (.getfield 42, 3) := by decide +kernel
theorem dX11_group_12 : decode cX11_group 12 = .ok (.invokevirtual 218, 3) := by decide +kernel
theorem dX11_group_15 : decode cX11_group 15 = .ok (.aload_n 0, 1) := by decide +kernel
theorem dX11_group_16 : decode cX11_group 16 = .ok (.getfield 42, 3) := by decide +kernel
theorem dX11_group_19 : decode cX11_group 19 = .ok (.iload_n 1, 1) := by decide +kernel
theorem dX11_group_20 : decode cX11_group 20 = .ok (.putfield 249, 3) := by decide +kernel
theorem dX11_group_23 : decode cX11_group 23 = .ok (.iload_n 2, 1) := by decide +kernel
theorem dX11_group_24 : decode cX11_group 24 = .ok (.ireturn, 1) := by decide +kernel
theorem dX11_acts_0 : decode cX11_acts 0 = .ok (.iload_n 1, 1) := by decide +kernel
theorem dX11_acts_1 : decode cX11_acts 1 = .ok (.tableswitch 63 0 3 #[31, 39, 47, 55], 31) := by decide +kernel
theorem dX11_acts_32 : decode cX11_acts 32 = .ok (.aload_n 0, 1) := by decide +kernel
theorem dX11_acts_33 : decode cX11_acts 33 = .ok (.getfield 42, 3) := by decide +kernel
theorem dX11_acts_36 : decode cX11_acts 36 = .ok (.getfield 253, 3) := by decide +kernel
theorem dX11_acts_39 : decode cX11_acts 39 = .ok (.ireturn, 1) := by decide +kernel
theorem dX11_acts_40 : decode cX11_acts 40 = .ok (.aload_n 0, 1) := by decide +kernel
theorem dX11_acts_41 : decode cX11_acts 41 = .ok (.getfield 42, 3) := by decide +kernel
theorem dX11_acts_44 : decode cX11_acts 44 = .ok (.invokevirtual 256, 3) := by decide +kernel
theorem dX11_acts_47 : decode cX11_acts 47 = .ok (.ireturn, 1) := by decide +kernel
theorem dX11_acts_48 : decode cX11_acts 48 = .ok (.aload_n 0, 1) := by decide +kernel
theorem dX11_acts_49 : decode cX11_acts 49 = .ok (.getfield 42, 3) := by decide +kernel
theorem dX11_acts_52 : decode cX11_acts 52 = .ok (.invokevirtual 259, 3) := by decide +kernel
theorem dX11_acts_55 : decode cX11_acts 55 = .ok (.ireturn, 1) := by decide +kernel
theorem dX11_acts_56 : decode cX11_acts 56 = .ok (.aload_n 0, 1) := by decide +kernel
theorem dX11_acts_57 : decode cX11_acts 57 = .ok (.getfield 42, 3) := by decide +kernel
theorem dX11_acts_60 : decode cX11_acts 60 = .ok (.invokevirtual 245, 3) := by decide +kernel
theorem dX11_acts_63 : decode cX11_acts 63 = .ok (.ireturn, 1) := by decide +kernel
theorem dX11_acts_64 : decode cX11_acts 64 = .ok (.new 82, 3) := by decide +kernel
theorem dX11_acts_67 : decode cX11_acts 67 = .ok (.dup, 1) := by decide +kernel
theorem dX11_acts_68 : decode cX11_acts 68 = .ok (.ldc_w 262, 3) := by decide +kernel
theorem dX11_acts_71 : decode cX11_acts 71 = .ok (.invokespecial 86, 3) := by decide +kernel
theorem dX11_acts_74 : decode cX11_acts 74 = .ok (.athrow, 1) := by decide +kernel
theorem dX11_setCursor_0 : decode cX11_setCursor 0 = .ok (.aload_n 0, 1) := by decide +kernel
theorem dX11_setCursor_1 : decode cX11_setCursor 1 = .ok (.iload_n 1, 1) := by decide +kernel
theorem dX11_setCursor_2 : decode cX11_setCursor 2 = .ok (.invokevirtual 264, 3) := by decide +kernel
theorem dX11_setCursor_5 : decode cX11_setCursor 5 = .ok (.aload_n 0, 1) := by decide +kernel
theorem dX11_setCursor_6 : decode cX11_setCursor 6 = .ok (.getfield 10, 3) := by decide +kernel
theorem dX11_setCursor_9 : decode cX11_setCursor 9 = .ok (.getfield 267, 3) := by decide +kernel
theorem dX11_setCursor_12 : decode cX11_setCursor 12 = .ok (.istore_n 2, 1) := by decide +kernel
theorem dX11_setCursor_13 : decode cX11_setCursor 13 = .ok (.aload_n 0, 1) := by decide +kernel
theorem dX11_setCursor_14 : decode cX11_setCursor 14 = .ok (.getfield 10, 3) := by decide +kernel
theorem dX11_setCursor_17 : decode cX11_setCursor 17 = .ok (.iload_n 1, 1) := by decide +kernel
theorem dX11_setCursor_18 : decode cX11_setCursor 18 = .ok (.invokevirtual 215, 3) := by decide +kernel
theorem dX11_setCursor_21 : decode cX11_setCursor 21 = .ok (.iload_n 2, 1) := by decide +kernel
theorem dX11_setCursor_22 : decode cX11_setCursor 22 = .ok (.ireturn, 1) := by decide +kernel
theorem dX11_addCursor_0 : decode cX11_addCursor 0 = .ok (.aload_n 0, 1) := by decide +kernel
theorem dX11_addCursor_1 : decode cX11_addCursor 1 = .ok (.iload_n 1, 1) := by decide +kernel
theorem dX11_addCursor_2 : decode cX11_addCursor 2 = .ok (.invokevirtual 264, 3) := by decide +kernel
theorem dX11_addCursor_5 : decode cX11_addCursor 5 = .ok (.aload_n 0, 1) := by decide +kernel
theorem dX11_addCursor_6 : decode cX11_addCursor 6 = .ok (.getfield 10, 3) := by decide +kernel
theorem dX11_addCursor_9 : decode cX11_addCursor 9 = .ok (.iload_n 1, 1) := by decide +kernel
theorem dX11_addCursor_10 : decode cX11_addCursor 10 = .ok (.invokevirtual 270, 3) := by decide +kernel
theorem dX11_addCursor_13 : decode cX11_addCursor 13 = .ok (.ifCond .eq 11, 3) := by decide +kernel
theorem dX11_addCursor_16 : decode cX11_addCursor 16 = .ok (.aload_n 0, 1) := by decide +kernel
theorem dX11_addCursor_17 : decode cX11_addCursor 17 = .ok (.getfield 10, 3) := by decide +kernel
theorem dX11_addCursor_20 : decode cX11_addCursor 20 = .ok (.getfield 267, 3) := by decide +kernel
theorem dX11_addCursor_23 : decode cX11_addCursor 23 = .ok (.ireturn, 1) := by decide +kernel
theorem dX11_addCursor_24 : decode cX11_addCursor 24 = .ok (.aload_n 0, 1) := by decide +kernel
theorem dX11_addCursor_25 : decode cX11_addCursor 25 = .ok (.getfield 10, 3) := by decide +kernel
theorem dX11_addCursor_28 : decode cX11_addCursor 28 = .ok (.getfield 267, 3) := by decide +kernel
theorem dX11_addCursor_31 : decode cX11_addCursor 31 = .ok (.bipush 8, 2) := by decide +kernel
theorem dX11_addCursor_33 : decode cX11_addCursor 33 = .ok (.if_icmp .lt 14, 3) := by decide +kernel
theorem dX11_addCursor_36 : decode cX11_addCursor 36 = .ok (.new 92, 3) := by decide +kernel
theorem dX11_addCursor_39 : decode cX11_addCursor 39 = .ok (.dup, 1) := by decide +kernel
theorem dX11_addCursor_40 : decode cX11_addCursor 40 = .ok (.ldc_w 273, 3) := by decide +kernel
theorem dX11_addCursor_43 : decode cX11_addCursor 43 = .ok (.invokespecial 96, 3) := by decide +kernel
theorem dX11_addCursor_46 : decode cX11_addCursor 46 = .ok (.athrow, 1) := by decide +kernel
theorem dX11_addCursor_47 : decode cX11_addCursor 47 = .ok (.aload_n 0, 1) := by decide +kernel
theorem dX11_addCursor_48 : decode cX11_addCursor 48 = .ok (.getfield 10, 3) := by decide +kernel
theorem dX11_addCursor_51 : decode cX11_addCursor 51 = .ok (.getfield 205, 3) := by decide +kernel
theorem dX11_addCursor_54 : decode cX11_addCursor 54 = .ok (.aload_n 0, 1) := by decide +kernel
theorem dX11_addCursor_55 : decode cX11_addCursor 55 = .ok (.getfield 10, 3) := by decide +kernel
theorem dX11_addCursor_58 : decode cX11_addCursor 58 = .ok (.getfield 267, 3) := by decide +kernel
theorem dX11_addCursor_61 : decode cX11_addCursor 61 = .ok (.iload_n 1, 1) := by decide +kernel
theorem dX11_addCursor_62 : decode cX11_addCursor 62 = .ok (.iastore, 1) := by decide +kernel
theorem dX11_addCursor_63 : decode cX11_addCursor 63 = .ok (.aload_n 0, 1) := by decide +kernel
theorem dX11_addCursor_64 : decode cX11_addCursor 64 = .ok (.getfield 10, 3) := by decide +kernel
theorem dX11_addCursor_67 : decode cX11_addCursor 67 = .ok (.dup, 1) := by decide +kernel
theorem dX11_addCursor_68 : decode cX11_addCursor 68 = .ok (.getfield 267, 3) := by decide +kernel
theorem dX11_addCursor_71 : decode cX11_addCursor 71 = .ok (.iconst 1, 1) := by decide +kernel
theorem dX11_addCursor_72 : decode cX11_addCursor 72 = .ok (.iadd, 1) := by decide +kernel
theorem dX11_addCursor_73 : decode cX11_addCursor 73 = .ok (.putfield 267, 3) := by decide +kernel
theorem dX11_addCursor_76 : decode cX11_addCursor 76 = .ok (.aload_n 0, 1) := by decide +kernel
theorem dX11_addCursor_77 : decode cX11_addCursor 77 = .ok (.getfield 10, 3) := by decide +kernel
theorem dX11_addCursor_80 : decode cX11_addCursor 80 = .ok (.invokevirtual 275, 3) := by decide +kernel
theorem dX11_addCursor_83 : decode cX11_addCursor 83 = .ok (.aload_n 0, 1) := by decide +kernel
theorem dX11_addCursor_84 : decode cX11_addCursor 84 = .ok (.getfield 10, 3) := by decide +kernel
theorem dX11_addCursor_87 : decode cX11_addCursor 87 = .ok (.getfield 267, 3) := by decide +kernel
theorem dX11_addCursor_90 : decode cX11_addCursor 90 = .ok (.ireturn, 1) := by decide +kernel
theorem dX11_moveCursors_0 : decode cX11_moveCursors 0 = .ok (.iload_n 1, 1) := by decide +kernel
theorem dX11_moveCursors_1 : decode cX11_moveCursors 1 = .ok (.ifCond .lt 20, 3) := by decide +kernel
theorem dX11_moveCursors_4 : decode cX11_moveCursors 4 = .ok (.iload_n 1, 1) := by decide +kernel
theorem dX11_moveCursors_5 : decode cX11_moveCursors 5 = .ok (.iconst 4, 1) := by decide +kernel
theorem dX11_moveCursors_6 : decode cX11_moveCursors 6 = .ok (.if_icmp .gt 15, 3) := by decide +kernel
theorem dX11_moveCursors_9 : decode cX11_moveCursors 9 = .ok (.iload_n 2, 1) := by decide +kernel
theorem dX11_moveCursors_10 : decode cX11_moveCursors 10 = .ok (.bipush (-50), 2) := by decide +kernel
theorem dX11_moveCursors_12 : decode cX11_moveCursors 12 = .ok (.if_icmp .lt 9, 3) := by decide +kernel
theorem dX11_moveCursors_15 : decode cX11_moveCursors 15 = .ok (.iload_n 2, 1) := by decide +kernel
theorem dX11_moveCursors_16 : decode cX11_moveCursors 16 = .ok (.bipush 50, 2) := by decide +kernel
theorem dX11_moveCursors_18 : decode cX11_moveCursors 18 = .ok (.if_icmp .le 14, 3) := by decide +kernel
theorem dX11_moveCursors_21 : decode cX11_moveCursors 21 = .ok (.new 82, 3) := by decide +kernel
theorem dX11_moveCursors_24 : decode cX11_moveCursors 24 = .ok (.dup, 1) := by decide +kernel
theorem dX11_moveCursors_25 : decode cX11_moveCursors 25 = .ok (.ldc_w 278, 3) := by decide +kernel
theorem dX11_moveCursors_28 : decode cX11_moveCursors 28 = .ok (.invokespecial 86, 3) := by decide +kernel
theorem dX11_moveCursors_31 : decode cX11_moveCursors 31 = .ok (.athrow, 1) := by decide +kernel
theorem dX11_moveCursors_32 : decode cX11_moveCursors 32 = .ok (.aload_n 0, 1) := by decide +kernel
theorem dX11_moveCursors_33 : decode cX11_moveCursors 33 = .ok (.iload_n 1, 1) := by decide +kernel
theorem dX11_moveCursors_34 : decode cX11_moveCursors 34 = .ok (.iload_n 2, 1) := by decide +kernel
theorem dX11_moveCursors_35 : decode cX11_moveCursors 35 = .ok (.invokevirtual 280, 3) := by decide +kernel
theorem dX11_moveCursors_38 : decode cX11_moveCursors 38 = .ok (.aload_n 0, 1) := by decide +kernel
theorem dX11_moveCursors_39 : decode cX11_moveCursors 39 = .ok (.getfield 56, 3) := by decide +kernel
theorem dX11_moveCursors_42 : decode cX11_moveCursors 42 = .ok (.iconst 2, 1) := by decide +kernel
theorem dX11_moveCursors_43 : decode cX11_moveCursors 43 = .ok (.iload_n 1, 1) := by decide +kernel
theorem dX11_moveCursors_44 : decode cX11_moveCursors 44 = .ok (.iload_n 2, 1) := by decide +kernel
theorem dX11_moveCursors_45 : decode cX11_moveCursors 45 = .ok (.invokevirtual 150, 3) := by decide +kernel
theorem dX11_moveCursors_48 : decode cX11_moveCursors 48 = .ok (.aload_n 0, 1) := by decide +kernel
theorem dX11_moveCursors_49 : decode cX11_moveCursors 49 = .ok (.getfield 10, 3) := by decide +kernel
theorem dX11_moveCursors_52 : decode cX11_moveCursors 52 = .ok (.getfield 267, 3) := by decide +kernel
theorem dX11_moveCursors_55 : decode cX11_moveCursors 55 = .ok (.ireturn, 1) := by decide +kernel
theorem dX11_cursorAt_0 : decode cX11_cursorAt 0 = .ok (.iload_n 1, 1) := by decide +kernel
theorem dX11_cursorAt_1 : decode cX11_cursorAt 1 = .ok (.ifCond .lt 14, 3) := by decide +kernel
theorem dX11_cursorAt_4 : decode cX11_cursorAt 4 = .ok (.iload_n 1, 1) := by decide +kernel
theorem dX11_cursorAt_5 : decode cX11_cursorAt 5 = .ok (.aload_n 0, 1) := by decide +kernel
theorem dX11_cursorAt_6 : decode cX11_cursorAt 6 = .ok (.getfield 10, 3) := by decide +kernel
theorem dX11_cursorAt_9 : decode cX11_cursorAt 9 = .ok (.getfield 267, 3) := by decide +kernel
theorem dX11_cursorAt_12 : decode cX11_cursorAt 12 = .ok (.if_icmp .lt 14, 3) := by decide +kernel
theorem dX11_cursorAt_15 : decode cX11_cursorAt 15 = .ok (.new 119, 3) := by decide +kernel
theorem dX11_cursorAt_18 : decode cX11_cursorAt 18 = .ok (.dup, 1) := by decide +kernel
theorem dX11_cursorAt_19 : decode cX11_cursorAt 19 = .ok (.ldc_w 283, 3) := by decide +kernel
theorem dX11_cursorAt_22 : decode cX11_cursorAt 22 = .ok (.invokespecial 123, 3) := by decide +kernel
theorem dX11_cursorAt_25 : decode cX11_cursorAt 25 = .ok (.athrow, 1) := by decide +kernel
theorem dX11_cursorAt_26 : decode cX11_cursorAt 26 = .ok (.aload_n 0, 1) := by decide +kernel
theorem dX11_cursorAt_27 : decode cX11_cursorAt 27 = .ok (.getfield 10, 3) := by decide +kernel
theorem dX11_cursorAt_30 : decode cX11_cursorAt 30 = .ok (.getfield 205, 3) := by decide +kernel
theorem dX11_cursorAt_33 : decode cX11_cursorAt 33 = .ok (.iload_n 1, 1) := by decide +kernel
theorem dX11_cursorAt_34 : decode cX11_cursorAt 34 = .ok (.iaload, 1) := by decide +kernel
theorem dX11_cursorAt_35 : decode cX11_cursorAt 35 = .ok (.ireturn, 1) := by decide +kernel
theorem dX11_setMark_0 : decode cX11_setMark 0 = .ok (.aload_n 0, 1) := by decide +kernel
theorem dX11_setMark_1 : decode cX11_setMark 1 = .ok (.iload_n 1, 1) := by decide +kernel
theorem dX11_setMark_2 : decode cX11_setMark 2 = .ok (.invokevirtual 285, 3) := by decide +kernel
theorem dX11_setMark_5 : decode cX11_setMark 5 = .ok (.aload_n 0, 1) := by decide +kernel
theorem dX11_setMark_6 : decode cX11_setMark 6 = .ok (.iload_n 2, 1) := by decide +kernel
theorem dX11_setMark_7 : decode cX11_setMark 7 = .ok (.invokevirtual 264, 3) := by decide +kernel
theorem dX11_setMark_10 : decode cX11_setMark 10 = .ok (.aload_n 0, 1) := by decide +kernel
theorem dX11_setMark_11 : decode cX11_setMark 11 = .ok (.getfield 10, 3) := by decide +kernel
theorem dX11_setMark_14 : decode cX11_setMark 14 = .ok (.getfield 288, 3) := by decide +kernel
theorem dX11_setMark_17 : decode cX11_setMark 17 = .ok (.iload_n 1, 1) := by decide +kernel
theorem dX11_setMark_18 : decode cX11_setMark 18 = .ok (.iaload, 1) := by decide +kernel
theorem dX11_setMark_19 : decode cX11_setMark 19 = .ok (.istore 4, 2) := by decide +kernel
theorem dX11_setMark_21 : decode cX11_setMark 21 = .ok (.aload_n 0, 1) := by decide +kernel
theorem dX11_setMark_22 : decode cX11_setMark 22 = .ok (.getfield 10, 3) := by decide +kernel
theorem dX11_setMark_25 : decode cX11_setMark 25 = .ok (.getfield 288, 3) := by decide +kernel
theorem dX11_setMark_28 : decode cX11_setMark 28 = .ok (.iload_n 1, 1) := by decide +kernel
theorem dX11_setMark_29 : decode cX11_setMark 29 = .ok (.iload_n 2, 1) := by decide +kernel
theorem dX11_setMark_30 : decode cX11_setMark 30 = .ok (.iastore, 1) := by decide +kernel
theorem dX11_setMark_31 : decode cX11_setMark 31 = .ok (.aload_n 0, 1) := by decide +kernel
theorem dX11_setMark_32 : decode cX11_setMark 32 = .ok (.getfield 10, 3) := by decide +kernel
theorem dX11_setMark_35 : decode cX11_setMark 35 = .ok (.getfield 291, 3) := by decide +kernel
theorem dX11_setMark_38 : decode cX11_setMark 38 = .ok (.iload_n 1, 1) := by decide +kernel
theorem dX11_setMark_39 : decode cX11_setMark 39 = .ok (.iload_n 3, 1) := by decide +kernel
theorem dX11_setMark_40 : decode cX11_setMark 40 = .ok (.bastore, 1) := by decide +kernel
theorem dX11_setMark_41 : decode cX11_setMark 41 = .ok (.iload 4, 2) := by decide +kernel
theorem dX11_setMark_43 : decode cX11_setMark 43 = .ok (.ireturn, 1) := by decide +kernel
theorem dX11_dropMark_0 : decode cX11_dropMark 0 = .ok (.aload_n 0, 1) := by decide +kernel
theorem dX11_dropMark_1 : decode cX11_dropMark 1 = .ok (.iload_n 1, 1) := by decide +kernel
theorem dX11_dropMark_2 : decode cX11_dropMark 2 = .ok (.invokevirtual 285, 3) := by decide +kernel
theorem dX11_dropMark_5 : decode cX11_dropMark 5 = .ok (.aload_n 0, 1) := by decide +kernel
theorem dX11_dropMark_6 : decode cX11_dropMark 6 = .ok (.getfield 10, 3) := by decide +kernel
theorem dX11_dropMark_9 : decode cX11_dropMark 9 = .ok (.getfield 288, 3) := by decide +kernel
theorem dX11_dropMark_12 : decode cX11_dropMark 12 = .ok (.iload_n 1, 1) := by decide +kernel
theorem dX11_dropMark_13 : decode cX11_dropMark 13 = .ok (.iaload, 1) := by decide +kernel
theorem dX11_dropMark_14 : decode cX11_dropMark 14 = .ok (.istore_n 2, 1) := by decide +kernel
theorem dX11_dropMark_15 : decode cX11_dropMark 15 = .ok (.aload_n 0, 1) := by decide +kernel
theorem dX11_dropMark_16 : decode cX11_dropMark 16 = .ok (.getfield 10, 3) := by decide +kernel
theorem dX11_dropMark_19 : decode cX11_dropMark 19 = .ok (.getfield 288, 3) := by decide +kernel
theorem dX11_dropMark_22 : decode cX11_dropMark 22 = .ok (.iload_n 1, 1) := by decide +kernel
theorem dX11_dropMark_23 : decode cX11_dropMark 23 = .ok (.iconst (-1), 1) := by decide +kernel
theorem dX11_dropMark_24 : decode cX11_dropMark 24 = .ok (.iastore, 1) := by decide +kernel
theorem dX11_dropMark_25 : decode cX11_dropMark 25 = .ok (.iload_n 2, 1) := by decide +kernel
theorem dX11_dropMark_26 : decode cX11_dropMark 26 = .ok (.ireturn, 1) := by decide +kernel
theorem dX11_markAt_0 : decode cX11_markAt 0 = .ok (.aload_n 0, 1) := by decide +kernel
theorem dX11_markAt_1 : decode cX11_markAt 1 = .ok (.iload_n 1, 1) := by decide +kernel
theorem dX11_markAt_2 : decode cX11_markAt 2 = .ok (.invokevirtual 285, 3) := by decide +kernel
theorem dX11_markAt_5 : decode cX11_markAt 5 = .ok (.aload_n 0, 1) := by decide +kernel
theorem dX11_markAt_6 : decode cX11_markAt 6 = .ok (.getfield 10, 3) := by decide +kernel
theorem dX11_markAt_9 : decode cX11_markAt 9 = .ok (.getfield 288, 3) := by decide +kernel
theorem dX11_markAt_12 : decode cX11_markAt 12 = .ok (.iload_n 1, 1) := by decide +kernel
theorem dX11_markAt_13 : decode cX11_markAt 13 = .ok (.iaload, 1) := by decide +kernel
theorem dX11_markAt_14 : decode cX11_markAt 14 = .ok (.ireturn, 1) := by decide +kernel
theorem dX11_setPattern_0 : decode cX11_setPattern 0 = .ok (.aload_n 0, 1) := by decide +kernel
theorem dX11_setPattern_1 : decode cX11_setPattern 1 = .ok (.getfield 21, 3) := by decide +kernel
theorem dX11_setPattern_4 : decode cX11_setPattern 4 = .ok (.getfield 89, 3) := by decide +kernel
theorem dX11_setPattern_7 : decode cX11_setPattern 7 = .ok (.ifCond .eq 15, 3) := by decide +kernel
theorem dX11_setPattern_10 : decode cX11_setPattern 10 = .ok (.aload_n 0, 1) := by decide +kernel
theorem dX11_setPattern_11 : decode cX11_setPattern 11 = .ok (.getfield 21, 3) := by decide +kernel
theorem dX11_setPattern_14 : decode cX11_setPattern 14 = .ok (.getfield 89, 3) := by decide +kernel
theorem dX11_setPattern_17 : decode cX11_setPattern 17 = .ok (.bipush 40, 2) := by decide +kernel
theorem dX11_setPattern_19 : decode cX11_setPattern 19 = .ok (.if_icmp .le 14, 3) := by decide +kernel
theorem dX11_setPattern_22 : decode cX11_setPattern 22 = .ok (.new 92, 3) := by decide +kernel
theorem dX11_setPattern_25 : decode cX11_setPattern 25 = .ok (.dup, 1) := by decide +kernel
theorem dX11_setPattern_26 : decode cX11_setPattern 26 = .ok (.ldc_w 301, 3) := by decide +kernel
theorem dX11_setPattern_29 : decode cX11_setPattern 29 = .ok (.invokespecial 96, 3) := by decide +kernel
theorem dX11_setPattern_32 : decode cX11_setPattern 32 = .ok (.athrow, 1) := by decide +kernel
theorem dX11_setPattern_33 : decode cX11_setPattern 33 = .ok (.aload_n 0, 1) := by decide +kernel
theorem dX11_setPattern_34 : decode cX11_setPattern 34 = .ok (.getfield 49, 3) := by decide +kernel
theorem dX11_setPattern_37 : decode cX11_setPattern 37 = .ok (.getfield 212, 3) := by decide +kernel
theorem dX11_setPattern_40 : decode cX11_setPattern 40 = .ok (.aload_n 0, 1) := by decide +kernel
theorem dX11_setPattern_41 : decode cX11_setPattern 41 = .ok (.getfield 21, 3) := by decide +kernel
theorem dX11_setPattern_44 : decode cX11_setPattern 44 = .ok (.getfield 130, 3) := by decide +kernel
theorem dX11_setPattern_47 : decode cX11_setPattern 47 = .ok (.iconst 0, 1) := by decide +kernel
theorem dX11_setPattern_48 : decode cX11_setPattern 48 = .ok (.aload_n 0, 1) := by decide +kernel
theorem dX11_setPattern_49 : decode cX11_setPattern 49 = .ok (.getfield 21, 3) := by decide +kernel
theorem dX11_setPattern_52 : decode cX11_setPattern 52 = .ok (.getfield 89, 3) := by decide +kernel
theorem dX11_setPattern_55 : decode cX11_setPattern 55 = .ok (.invokevirtual 303, 3) := by decide +kernel
theorem dX11_setPattern_58 : decode cX11_setPattern 58 = .ok (.aload_n 0, 1) := by decide +kernel
theorem dX11_setPattern_59 : decode cX11_setPattern 59 = .ok (.getfield 49, 3) := by decide +kernel
theorem dX11_setPattern_62 : decode cX11_setPattern 62 = .ok (.iload_n 1, 1) := by decide +kernel
theorem dX11_setPattern_63 : decode cX11_setPattern 63 = .ok (.putfield 306, 3) := by decide +kernel
theorem dX11_setPattern_66 : decode cX11_setPattern 66 = .ok (.aload_n 0, 1) := by decide +kernel
theorem dX11_setPattern_67 : decode cX11_setPattern 67 = .ok (.getfield 49, 3) := by decide +kernel
theorem dX11_setPattern_70 : decode cX11_setPattern 70 = .ok (.aload_n 0, 1) := by decide +kernel
theorem dX11_setPattern_71 : decode cX11_setPattern 71 = .ok (.getfield 10, 3) := by decide +kernel
theorem dX11_setPattern_74 : decode cX11_setPattern 74 = .ok (.invokevirtual 309, 3) := by decide +kernel
theorem dX11_setPattern_77 : decode cX11_setPattern 77 = .ok (.ireturn, 1) := by decide +kernel
theorem dX11_find_0 : decode cX11_find 0 = .ok (.aload_n 0, 1) := by decide +kernel
theorem dX11_find_1 : decode cX11_find 1 = .ok (.iload_n 1, 1) := by decide +kernel
theorem dX11_find_2 : decode cX11_find 2 = .ok (.invokevirtual 264, 3) := by decide +kernel
theorem dX11_find_5 : decode cX11_find 5 = .ok (.aload_n 0, 1) := by decide +kernel
theorem dX11_find_6 : decode cX11_find 6 = .ok (.getfield 49, 3) := by decide +kernel
theorem dX11_find_9 : decode cX11_find 9 = .ok (.invokevirtual 200, 3) := by decide +kernel
theorem dX11_find_12 : decode cX11_find 12 = .ok (.ifCond .ne 13, 3) := by decide +kernel
theorem dX11_find_15 : decode cX11_find 15 = .ok (.new 92, 3) := by decide +kernel
theorem dX11_find_18 : decode cX11_find 18 = .ok (.dup, 1) := by decide +kernel
theorem dX11_find_19 : decode cX11_find 19 = .ok (.ldc 203, 2) := by decide +kernel
theorem dX11_find_21 : decode cX11_find 21 = .ok (.invokespecial 96, 3) := by decide +kernel
theorem dX11_find_24 : decode cX11_find 24 = .ok (.athrow, 1) := by decide +kernel
theorem dX11_find_25 : decode cX11_find 25 = .ok (.iload_n 2, 1) := by decide +kernel
theorem dX11_find_26 : decode cX11_find 26 = .ok (.ifCond .eq 18, 3) := by decide +kernel
theorem dX11_find_29 : decode cX11_find 29 = .ok (.aload_n 0, 1) := by decide +kernel
theorem dX11_find_30 : decode cX11_find 30 = .ok (.getfield 49, 3) := by decide +kernel
theorem dX11_find_33 : decode cX11_find 33 = .ok (.aload_n 0, 1) := by decide +kernel
theorem dX11_find_34 : decode cX11_find 34 = .ok (.getfield 10, 3) := by decide +kernel
theorem dX11_find_37 : decode cX11_find 37 = .ok (.iload_n 1, 1) := by decide +kernel
theorem dX11_find_38 : decode cX11_find 38 = .ok (.invokevirtual 208, 3) := by decide +kernel
theorem dX11_find_41 : decode cX11_find 41 = .ok (.goto 15, 3) := by decide +kernel
theorem dX11_find_44 : decode cX11_find 44 = .ok (.aload_n 0, 1) := by decide +kernel
theorem dX11_find_45 : decode cX11_find 45 = .ok (.getfield 49, 3) := by decide +kernel
theorem dX11_find_48 : decode cX11_find 48 = .ok (.aload_n 0, 1) := by decide +kernel
theorem dX11_find_49 : decode cX11_find 49 = .ok (.getfield 10, 3) := by decide +kernel
theorem dX11_find_52 : decode cX11_find 52 = .ok (.iload_n 1, 1) := by decide +kernel
theorem dX11_find_53 : decode cX11_find 53 = .ok (.invokevirtual 313, 3) := by decide +kernel
theorem dX11_find_56 : decode cX11_find 56 = .ok (.ireturn, 1) := by decide +kernel
theorem dX11_fold_0 : decode cX11_fold 0 = .ok (.aload_n 0, 1) := by decide +kernel
theorem dX11_fold_1 : decode cX11_fold 1 = .ok (.iload_n 1, 1) := by decide +kernel
theorem dX11_fold_2 : decode cX11_fold 2 = .ok (.invokevirtual 112, 3) := by decide +kernel
theorem dX11_fold_5 : decode cX11_fold 5 = .ok (.aload_n 0, 1) := by decide +kernel
theorem dX11_fold_6 : decode cX11_fold 6 = .ok (.iload_n 2, 1) := by decide +kernel
theorem dX11_fold_7 : decode cX11_fold 7 = .ok (.invokevirtual 112, 3) := by decide +kernel
theorem dX11_fold_10 : decode cX11_fold 10 = .ok (.iload_n 1, 1) := by decide +kernel
theorem dX11_fold_11 : decode cX11_fold 11 = .ok (.iload_n 2, 1) := by decide +kernel
theorem dX11_fold_12 : decode cX11_fold 12 = .ok (.if_icmp .lt 14, 3) := by decide +kernel
theorem dX11_fold_15 : decode cX11_fold 15 = .ok (.new 82, 3) := by decide +kernel
theorem dX11_fold_18 : decode cX11_fold 18 = .ok (.dup, 1) := by decide +kernel
theorem dX11_fold_19 : decode cX11_fold 19 = .ok (.ldc_w 316, 3) := by decide +kernel
theorem dX11_fold_22 : decode cX11_fold 22 = .ok (.invokespecial 86, 3) := by decide +kernel
theorem dX11_fold_25 : decode cX11_fold 25 = .ok (.athrow, 1) := by decide +kernel
theorem dX11_fold_26 : decode cX11_fold 26 = .ok (.aload_n 0, 1) := by decide +kernel
theorem dX11_fold_27 : decode cX11_fold 27 = .ok (.getfield 10, 3) := by decide +kernel
theorem dX11_fold_30 : decode cX11_fold 30 = .ok (.iload_n 1, 1) := by decide +kernel
theorem dX11_fold_31 : decode cX11_fold 31 = .ok (.iconst 1, 1) := by decide +kernel
theorem dX11_fold_32 : decode cX11_fold 32 = .ok (.iadd, 1) := by decide +kernel
theorem dX11_fold_33 : decode cX11_fold 33 = .ok (.iload_n 2, 1) := by decide +kernel
theorem dX11_fold_34 : decode cX11_fold 34 = .ok (.invokevirtual 318, 3) := by decide +kernel
theorem dX11_fold_37 : decode cX11_fold 37 = .ok (.ifCond .eq 14, 3) := by decide +kernel
theorem dX11_fold_40 : decode cX11_fold 40 = .ok (.new 92, 3) := by decide +kernel
theorem dX11_fold_43 : decode cX11_fold 43 = .ok (.dup, 1) := by decide +kernel
theorem dX11_fold_44 : decode cX11_fold 44 = .ok (.ldc_w 322, 3) := by decide +kernel
theorem dX11_fold_47 : decode cX11_fold 47 = .ok (.invokespecial 96, 3) := by decide +kernel
theorem dX11_fold_50 : decode cX11_fold 50 = .ok (.athrow, 1) := by decide +kernel
theorem dX11_fold_51 : decode cX11_fold 51 = .ok (.iload_n 1, 1) := by decide +kernel
theorem dX11_fold_52 : decode cX11_fold 52 = .ok (.iconst 1, 1) := by decide +kernel
theorem dX11_fold_53 : decode cX11_fold 53 = .ok (.iadd, 1) := by decide +kernel
theorem dX11_fold_54 : decode cX11_fold 54 = .ok (.istore_n 3, 1) := by decide +kernel
theorem dX11_fold_55 : decode cX11_fold 55 = .ok (.iload_n 3, 1) := by decide +kernel
theorem dX11_fold_56 : decode cX11_fold 56 = .ok (.iload_n 2, 1) := by decide +kernel
theorem dX11_fold_57 : decode cX11_fold 57 = .ok (.if_icmp .gt 19, 3) := by decide +kernel
theorem dX11_fold_60 : decode cX11_fold 60 = .ok (.aload_n 0, 1) := by decide +kernel
theorem dX11_fold_61 : decode cX11_fold 61 = .ok (.getfield 10, 3) := by decide +kernel
theorem dX11_fold_64 : decode cX11_fold 64 = .ok (.getfield 324, 3) := by decide +kernel
theorem dX11_fold_67 : decode cX11_fold 67 = .ok (.iload_n 3, 1) := by decide +kernel
theorem dX11_fold_68 : decode cX11_fold 68 = .ok (.iconst 1, 1) := by decide +kernel
theorem dX11_fold_69 : decode cX11_fold 69 = .ok (.bastore, 1) := by decide +kernel
theorem dX11_fold_70 : decode cX11_fold 70 = .ok (.iinc 3 1, 3) := by decide +kernel
theorem dX11_fold_73 : decode cX11_fold 73 = .ok (.goto (-18), 3) := by decide +kernel
theorem dX11_fold_76 : decode cX11_fold 76 = .ok (.aload_n 0, 1) := by decide +kernel
theorem dX11_fold_77 : decode cX11_fold 77 = .ok (.getfield 10, 3) := by decide +kernel
theorem dX11_fold_80 : decode cX11_fold 80 = .ok (.invokevirtual 327, 3) := by decide +kernel
theorem dX11_fold_83 : decode cX11_fold 83 = .ok (.ireturn, 1) := by decide +kernel
theorem dX11_unfold_0 : decode cX11_unfold 0 = .ok (.aload_n 0, 1) := by decide +kernel
theorem dX11_unfold_1 : decode cX11_unfold 1 = .ok (.iload_n 1, 1) := by decide +kernel
theorem dX11_unfold_2 : decode cX11_unfold 2 = .ok (.invokevirtual 112, 3) := by decide +kernel
theorem dX11_unfold_5 : decode cX11_unfold 5 = .ok (.aload_n 0, 1) := by decide +kernel
theorem dX11_unfold_6 : decode cX11_unfold 6 = .ok (.getfield 10, 3) := by decide +kernel
theorem dX11_unfold_9 : decode cX11_unfold 9 = .ok (.getfield 324, 3) := by decide +kernel
theorem dX11_unfold_12 : decode cX11_unfold 12 = .ok (.aload_n 0, 1) := by decide +kernel
theorem dX11_unfold_13 : decode cX11_unfold 13 = .ok (.getfield 10, 3) := by decide +kernel
theorem dX11_unfold_16 : decode cX11_unfold 16 = .ok (.getfield 116, 3) := by decide +kernel
theorem dX11_unfold_19 : decode cX11_unfold 19 = .ok (.iload_n 1, 1) := by decide +kernel
theorem dX11_unfold_20 : decode cX11_unfold 20 = .ok (.invokestatic 330, 3) := by decide +kernel
theorem dX11_unfold_23 : decode cX11_unfold 23 = .ok (.ireturn, 1) := by decide +kernel
theorem dX11_isHidden_0 : decode cX11_isHidden 0 = .ok (.aload_n 0, 1) := by decide +kernel
theorem dX11_isHidden_1 : decode cX11_isHidden 1 = .ok (.iload_n 1, 1) := by decide +kernel
theorem dX11_isHidden_2 : decode cX11_isHidden 2 = .ok (.invokevirtual 112, 3) := by decide +kernel
theorem dX11_isHidden_5 : decode cX11_isHidden 5 = .ok (.aload_n 0, 1) := by decide +kernel
theorem dX11_isHidden_6 : decode cX11_isHidden 6 = .ok (.getfield 10, 3) := by decide +kernel
theorem dX11_isHidden_9 : decode cX11_isHidden 9 = .ok (.getfield 324, 3) := by decide +kernel
theorem dX11_isHidden_12 : decode cX11_isHidden 12 = .ok (.iload_n 1, 1) := by decide +kernel
theorem dX11_isHidden_13 : decode cX11_isHidden 13 = .ok (.baload, 1) := by decide +kernel
theorem dX11_isHidden_14 : decode cX11_isHidden 14 = .ok (.ireturn, 1) := by decide +kernel
theorem dX11_record_0 : decode cX11_record 0 = .ok (.aload_n 0, 1) := by decide +kernel
theorem dX11_record_1 : decode cX11_record 1 = .ok (.getfield 56, 3) := by decide +kernel
theorem dX11_record_4 : decode cX11_record 4 = .ok (.getfield 344, 3) := by decide +kernel
theorem dX11_record_7 : decode cX11_record 7 = .ok (.istore_n 2, 1) := by decide +kernel
theorem dX11_record_8 : decode cX11_record 8 = .ok (.iload_n 1, 1) := by decide +kernel
theorem dX11_record_9 : decode cX11_record 9 = .ok (.ifCond .eq 11, 3) := by decide +kernel
theorem dX11_record_12 : decode cX11_record 12 = .ok (.aload_n 0, 1) := by decide +kernel
theorem dX11_record_13 : decode cX11_record 13 = .ok (.getfield 56, 3) := by decide +kernel
theorem dX11_record_16 : decode cX11_record 16 = .ok (.iconst 0, 1) := by decide +kernel
theorem dX11_record_17 : decode cX11_record 17 = .ok (.putfield 344, 3) := by decide +kernel
theorem dX11_record_20 : decode cX11_record 20 = .ok (.aload_n 0, 1) := by decide +kernel
theorem dX11_record_21 : decode cX11_record 21 = .ok (.getfield 56, 3) := by decide +kernel
theorem dX11_record_24 : decode cX11_record 24 = .ok (.iload_n 1, 1) := by decide +kernel
theorem dX11_record_25 : decode cX11_record 25 = .ok (.putfield 345, 3) := by decide +kernel
theorem dX11_record_28 : decode cX11_record 28 = .ok (.iload_n 2, 1) := by decide +kernel
theorem dX11_record_29 : decode cX11_record 29 = .ok (.ireturn, 1) := by decide +kernel
theorem dX11_play_0 : decode cX11_play 0 = .ok (.iload_n 1, 1) := by decide +kernel
theorem dX11_play_1 : decode cX11_play 1 = .ok (.iconst 1, 1) := by decide +kernel
theorem dX11_play_2 : decode cX11_play 2 = .ok (.if_icmp .lt 9, 3) := by decide +kernel
theorem dX11_play_5 : decode cX11_play 5 = .ok (.iload_n 1, 1) := by decide +kernel
theorem dX11_play_6 : decode cX11_play 6 = .ok (.bipush 20, 2) := by decide +kernel
theorem dX11_play_8 : decode cX11_play 8 = .ok (.if_icmp .le 14, 3) := by decide +kernel
theorem dX11_play_11 : decode cX11_play 11 = .ok (.new 82, 3) := by decide +kernel
theorem dX11_play_14 : decode cX11_play 14 = .ok (.dup, 1) := by decide +kernel
theorem dX11_play_15 : decode cX11_play 15 = .ok (.ldc_w 348, 3) := by decide +kernel
theorem dX11_play_18 : decode cX11_play 18 = .ok (.invokespecial 86, 3) := by decide +kernel
theorem dX11_play_21 : decode cX11_play 21 = .ok (.athrow, 1) := by decide +kernel
theorem dX11_play_22 : decode cX11_play 22 = .ok (.aload_n 0, 1) := by decide +kernel
theorem dX11_play_23 : decode cX11_play 23 = .ok (.getfield 56, 3) := by decide +kernel
theorem dX11_play_26 : decode cX11_play 26 = .ok (.getfield 345, 3) := by decide +kernel
theorem dX11_play_29 : decode cX11_play 29 = .ok (.ifCond .eq 14, 3) := by decide +kernel
theorem dX11_play_32 : decode cX11_play 32 = .ok (.new 92, 3) := by decide +kernel
theorem dX11_play_35 : decode cX11_play 35 = .ok (.dup, 1) := by decide +kernel
theorem dX11_play_36 : decode cX11_play 36 = .ok (.ldc_w 350, 3) := by decide +kernel
theorem dX11_play_39 : decode cX11_play 39 = .ok (.invokespecial 96, 3) := by decide +kernel
theorem dX11_play_42 : decode cX11_play 42 = .ok (.athrow, 1) := by decide +kernel
theorem dX11_play_43 : decode cX11_play 43 = .ok (.aload_n 0, 1) := by decide +kernel
theorem dX11_play_44 : decode cX11_play 44 = .ok (.getfield 42, 3) := by decide +kernel
theorem dX11_play_47 : decode cX11_play 47 = .ok (.getfield 249, 3) := by decide +kernel
theorem dX11_play_50 : decode cX11_play 50 = .ok (.ifCond .ne 7, 3) := by decide +kernel
theorem dX11_play_53 : decode cX11_play 53 = .ok (.iconst 1, 1) := by decide +kernel
theorem dX11_play_54 : decode cX11_play 54 = .ok (.goto 4, 3) := by decide +kernel
theorem dX11_play_57 : decode cX11_play 57 = .ok (.iconst 0, 1) := by decide +kernel
theorem dX11_play_58 : decode cX11_play 58 = .ok (.istore_n 2, 1) := by decide +kernel
theorem dX11_play_59 : decode cX11_play 59 = .ok (.aload_n 0, 1) := by decide +kernel
theorem dX11_play_60 : decode cX11_play 60 = .ok (.getfield 42, 3) := by decide +kernel
theorem dX11_play_63 : decode cX11_play 63 = .ok (.iconst 1, 1) := by decide +kernel
theorem dX11_play_64 : decode cX11_play 64 = .ok (.putfield 249, 3) := by decide +kernel
theorem dX11_play_67 : decode cX11_play 67 = .ok (.iconst 0, 1) := by decide +kernel
theorem dX11_play_68 : decode cX11_play 68 = .ok (.istore_n 3, 1) := by decide +kernel
theorem dX11_play_69 : decode cX11_play 69 = .ok (.iconst 0, 1) := by decide +kernel
theorem dX11_play_70 : decode cX11_play 70 = .ok (.istore 4, 2) := by decide +kernel
theorem dX11_play_72 : decode cX11_play 72 = .ok (.iconst 0, 1) := by decide +kernel
theorem dX11_play_73 : decode cX11_play 73 = .ok (.istore 5, 2) := by decide +kernel
theorem dX11_play_75 : decode cX11_play 75 = .ok (.iload 5, 2) := by decide +kernel
theorem dX11_play_77 : decode cX11_play 77 = .ok (.iload_n 1, 1) := by decide +kernel
theorem dX11_play_78 : decode cX11_play 78 = .ok (.if_icmp .ge 69, 3) := by decide +kernel
theorem dX11_play_81 : decode cX11_play 81 = .ok (.iload 4, 2) := by decide +kernel
theorem dX11_play_83 : decode cX11_play 83 = .ok (.ifCond .ne 64, 3) := by decide +kernel
theorem dX11_play_86 : decode cX11_play 86 = .ok (.iconst 0, 1) := by decide +kernel
theorem dX11_play_87 : decode cX11_play 87 = .ok (.istore 6, 2) := by decide +kernel
theorem dX11_play_89 : decode cX11_play 89 = .ok (.iload 6, 2) := by decide +kernel
theorem dX11_play_91 : decode cX11_play 91 = .ok (.aload_n 0, 1) := by decide +kernel
theorem dX11_play_92 : decode cX11_play 92 = .ok (.getfield 56, 3) := by decide +kernel
theorem dX11_play_95 : decode cX11_play 95 = .ok (.getfield 344, 3) := by decide +kernel
theorem dX11_play_98 : decode cX11_play 98 = .ok (.if_icmp .ge 43, 3) := by decide +kernel
theorem dX11_play_101 : decode cX11_play 101 = .ok (.iload 4, 2) := by decide +kernel
theorem dX11_play_103 : decode cX11_play 103 = .ok (.ifCond .ne 38, 3) := by decide +kernel
theorem dX11_play_106 : decode cX11_play 106 = .ok (.aload_n 0, 1) := by decide +kernel
theorem dX11_play_107 : decode cX11_play 107 = .ok (.iload 6, 2) := by decide +kernel
theorem dX11_play_109 : decode cX11_play 109 = .ok (.invokevirtual 352, 3) := by decide +kernel
theorem dX11_play_112 : decode cX11_play 112 = .ok (.ifCond .ne 7, 3) := by decide +kernel
theorem dX11_play_115 : decode cX11_play 115 = .ok (.iconst 1, 1) := by decide +kernel
theorem dX11_play_116 : decode cX11_play 116 = .ok (.goto 4, 3) := by decide +kernel
theorem dX11_play_119 : decode cX11_play 119 = .ok (.iconst 0, 1) := by decide +kernel
theorem dX11_play_120 : decode cX11_play 120 = .ok (.istore 4, 2) := by decide +kernel
theorem dX11_play_122 : decode cX11_play 122 = .ok (.iload_n 3, 1) := by decide +kernel
theorem dX11_play_123 : decode cX11_play 123 = .ok (.iload 4, 2) := by decide +kernel
theorem dX11_play_125 : decode cX11_play 125 = .ok (.ifCond .eq 7, 3) := by decide +kernel
theorem dX11_play_128 : decode cX11_play 128 = .ok (.iconst 0, 1) := by decide +kernel
theorem dX11_play_129 : decode cX11_play 129 = .ok (.goto 4, 3) := by decide +kernel
theorem dX11_play_132 : decode cX11_play 132 = .ok (.iconst 1, 1) := by decide +kernel
theorem dX11_play_133 : decode cX11_play 133 = .ok (.iadd, 1) := by decide +kernel
theorem dX11_play_134 : decode cX11_play 134 = .ok (.istore_n 3, 1) := by decide +kernel
theorem dX11_play_135 : decode cX11_play 135 = .ok (.iinc 6 1, 3) := by decide +kernel
theorem dX11_play_138 : decode cX11_play 138 = .ok (.goto (-49), 3) := by decide +kernel
theorem dX11_play_141 : decode cX11_play 141 = .ok (.iinc 5 1, 3) := by decide +kernel
theorem dX11_play_144 : decode cX11_play 144 = .ok (.goto (-69), 3) := by decide +kernel
theorem dX11_play_147 : decode cX11_play 147 = .ok (.iload_n 2, 1) := by decide +kernel
theorem dX11_play_148 : decode cX11_play 148 = .ok (.ifCond .eq 10, 3) := by decide +kernel
theorem dX11_play_151 : decode cX11_play 151 = .ok (.aload_n 0, 1) := by decide +kernel
theorem dX11_play_152 : decode cX11_play 152 = .ok (.getfield 42, 3) := by decide +kernel
theorem dX11_play_155 : decode cX11_play 155 = .ok (.invokevirtual 218, 3) := by decide +kernel
theorem dX11_play_158 : decode cX11_play 158 = .ok (.iload_n 3, 1) := by decide +kernel
theorem dX11_play_159 : decode cX11_play 159 = .ok (.ireturn, 1) := by decide +kernel
theorem dX11_count_0 : decode cX11_count 0 = .ok (.iload_n 1, 1) := by decide +kernel
theorem dX11_count_1 : decode cX11_count 1 = .ok (.tableswitch 114 0 7 #[47, 55, 63, 71, 79, 87, 95, 106], 47) := by decide +kernel
theorem dX11_count_48 : decode cX11_count 48 = .ok (.aload_n 0, 1) := by decide +kernel
theorem dX11_count_49 : decode cX11_count 49 = .ok (.getfield 10, 3) := by decide +kernel
theorem dX11_count_52 : decode cX11_count 52 = .ok (.getfield 144, 3) := by decide +kernel
theorem dX11_count_55 : decode cX11_count 55 = .ok (.ireturn, 1) := by decide +kernel
theorem dX11_count_56 : decode cX11_count 56 = .ok (.aload_n 0, 1) := by decide +kernel
theorem dX11_count_57 : decode cX11_count 57 = .ok (.getfield 10, 3) := by decide +kernel
theorem dX11_count_60 : decode cX11_count 60 = .ok (.getfield 116, 3) := by decide +kernel
theorem dX11_count_63 : decode cX11_count 63 = .ok (.ireturn, 1) := by decide +kernel
theorem dX11_count_64 : decode cX11_count 64 = .ok (.aload_n 0, 1) := by decide +kernel
theorem dX11_count_65 : decode cX11_count 65 = .ok (.getfield 10, 3) := by decide +kernel
theorem dX11_count_68 : decode cX11_count 68 = .ok (.getfield 267, 3) := by decide +kernel
theorem dX11_count_71 : decode cX11_count 71 = .ok (.ireturn, 1) := by decide +kernel
theorem dX11_count_72 : decode cX11_count 72 = .ok (.aload_n 0, 1) := by decide +kernel
theorem dX11_count_73 : decode cX11_count 73 = .ok (.getfield 10, 3) := by decide +kernel
theorem dX11_count_76 : decode cX11_count 76 = .ok (.invokevirtual 355, 3) := by decide +kernel
theorem dX11_count_79 : decode cX11_count 79 = .ok (.ireturn, 1) := by decide +kernel
theorem dX11_count_80 : decode cX11_count 80 = .ok (.aload_n 0, 1) := by decide +kernel
theorem dX11_count_81 : decode cX11_count 81 = .ok (.getfield 10, 3) := by decide +kernel
theorem dX11_count_84 : decode cX11_count 84 = .ok (.invokevirtual 327, 3) := by decide +kernel
theorem dX11_count_87 : decode cX11_count 87 = .ok (.ireturn, 1) := by decide +kernel
theorem dX11_count_88 : decode cX11_count 88 = .ok (.aload_n 0, 1) := by decide +kernel
theorem dX11_count_89 : decode cX11_count 89 = .ok (.getfield 21, 3) := by decide +kernel
theorem dX11_count_92 : decode cX11_count 92 = .ok (.getfield 89, 3) := by decide +kernel
theorem dX11_count_95 : decode cX11_count 95 = .ok (.ireturn, 1) := by decide +kernel
theorem dX11_count_96 : decode cX11_count 96 = .ok (.aload_n 0, 1) := by decide +kernel
theorem dX11_count_97 : decode cX11_count 97 = .ok (.getfield 28, 3) := by decide +kernel
theorem dX11_count_100 : decode cX11_count 100 = .ok (.getfield 358, 3) := by decide +kernel
theorem dX11_count_103 : decode cX11_count 103 = .ok (.getfield 89, 3) := by decide +kernel
theorem dX11_count_106 : decode cX11_count 106 = .ok (.ireturn, 1) := by decide +kernel
theorem dX11_count_107 : decode cX11_count 107 = .ok (.aload_n 0, 1) := by decide +kernel
theorem dX11_count_108 : decode cX11_count 108 = .ok (.getfield 10, 3) := by decide +kernel
theorem dX11_count_111 : decode cX11_count 111 = .ok (.invokevirtual 360, 3) := by decide +kernel
theorem dX11_count_114 : decode cX11_count 114 = .ok (.ireturn, 1) := by decide +kernel
theorem dX11_count_115 : decode cX11_count 115 = .ok (.new 82, 3) := by decide +kernel
theorem dX11_count_118 : decode cX11_count 118 = .ok (.dup, 1) := by decide +kernel
theorem dX11_count_119 : decode cX11_count 119 = .ok (.ldc_w 262, 3) := by decide +kernel
theorem dX11_count_122 : decode cX11_count 122 = .ok (.invokespecial 86, 3) := by decide +kernel
theorem dX11_count_125 : decode cX11_count 125 = .ok (.athrow, 1) := by decide +kernel
theorem dX11_letterAt_0 : decode cX11_letterAt 0 = .ok (.iload_n 1, 1) := by decide +kernel
theorem dX11_letterAt_1 : decode cX11_letterAt 1 = .ok (.ifCond .lt 14, 3) := by decide +kernel
theorem dX11_letterAt_4 : decode cX11_letterAt 4 = .ok (.iload_n 1, 1) := by decide +kernel
theorem dX11_letterAt_5 : decode cX11_letterAt 5 = .ok (.aload_n 0, 1) := by decide +kernel
theorem dX11_letterAt_6 : decode cX11_letterAt 6 = .ok (.getfield 10, 3) := by decide +kernel
theorem dX11_letterAt_9 : decode cX11_letterAt 9 = .ok (.getfield 144, 3) := by decide +kernel
theorem dX11_letterAt_12 : decode cX11_letterAt 12 = .ok (.if_icmp .lt 14, 3) := by decide +kernel
theorem dX11_letterAt_15 : decode cX11_letterAt 15 = .ok (.new 119, 3) := by decide +kernel
theorem dX11_letterAt_18 : decode cX11_letterAt 18 = .ok (.dup, 1) := by decide +kernel
theorem dX11_letterAt_19 : decode cX11_letterAt 19 = .ok (.ldc_w 363, 3) := by decide +kernel
theorem dX11_letterAt_22 : decode cX11_letterAt 22 = .ok (.invokespecial 123, 3) := by decide +kernel
theorem dX11_letterAt_25 : decode cX11_letterAt 25 = .ok (.athrow, 1) := by decide +kernel
theorem dX11_letterAt_26 : decode cX11_letterAt 26 = .ok (.aload_n 0, 1) := by decide +kernel
theorem dX11_letterAt_27 : decode cX11_letterAt 27 = .ok (.getfield 10, 3) := by decide +kernel
theorem dX11_letterAt_30 : decode cX11_letterAt 30 = .ok (.getfield 104, 3) := by decide +kernel
theorem dX11_letterAt_33 : decode cX11_letterAt 33 = .ok (.iload_n 1, 1) := by decide +kernel
theorem dX11_letterAt_34 : decode cX11_letterAt 34 = .ok (.baload, 1) := by decide +kernel
theorem dX11_letterAt_35 : decode cX11_letterAt 35 = .ok (.ireturn, 1) := by decide +kernel
theorem dX11_lineOf_0 : decode cX11_lineOf 0 = .ok (.aload_n 0, 1) := by decide +kernel
theorem dX11_lineOf_1 : decode cX11_lineOf 1 = .ok (.iload_n 1, 1) := by decide +kernel
theorem dX11_lineOf_2 : decode cX11_lineOf 2 = .ok (.invokevirtual 264, 3) := by decide +kernel
theorem dX11_lineOf_5 : decode cX11_lineOf 5 = .ok (.aload_n 0, 1) := by decide +kernel
theorem dX11_lineOf_6 : decode cX11_lineOf 6 = .ok (.getfield 10, 3) := by decide +kernel
theorem dX11_lineOf_9 : decode cX11_lineOf 9 = .ok (.iload_n 1, 1) := by decide +kernel
theorem dX11_lineOf_10 : decode cX11_lineOf 10 = .ok (.invokevirtual 365, 3) := by decide +kernel
theorem dX11_lineOf_13 : decode cX11_lineOf 13 = .ok (.ireturn, 1) := by decide +kernel
theorem dX11_columnOf_0 : decode cX11_columnOf 0 = .ok (.aload_n 0, 1) := by decide +kernel
theorem dX11_columnOf_1 : decode cX11_columnOf 1 = .ok (.iload_n 1, 1) := by decide +kernel
theorem dX11_columnOf_2 : decode cX11_columnOf 2 = .ok (.invokevirtual 264, 3) := by decide +kernel
theorem dX11_columnOf_5 : decode cX11_columnOf 5 = .ok (.aload_n 0, 1) := by decide +kernel
theorem dX11_columnOf_6 : decode cX11_columnOf 6 = .ok (.getfield 10, 3) := by decide +kernel
theorem dX11_columnOf_9 : decode cX11_columnOf 9 = .ok (.iload_n 1, 1) := by decide +kernel
theorem dX11_columnOf_10 : decode cX11_columnOf 10 = .ok (.aload_n 0, 1) := by decide +kernel
theorem dX11_columnOf_11 : decode cX11_columnOf 11 = .ok (.getfield 74, 3) := by decide +kernel
theorem dX11_columnOf_14 : decode cX11_columnOf 14 = .ok (.invokevirtual 368, 3) := by decide +kernel
theorem dX11_columnOf_17 : decode cX11_columnOf 17 = .ok (.ireturn, 1) := by decide +kernel
theorem dX11_placeAt_0 : decode cX11_placeAt 0 = .ok (.aload_n 0, 1) := by decide +kernel
theorem dX11_placeAt_1 : decode cX11_placeAt 1 = .ok (.iload_n 1, 1) := by decide +kernel
theorem dX11_placeAt_2 : decode cX11_placeAt 2 = .ok (.invokevirtual 112, 3) := by decide +kernel
theorem dX11_placeAt_5 : decode cX11_placeAt 5 = .ok (.iload_n 2, 1) := by decide +kernel
theorem dX11_placeAt_6 : decode cX11_placeAt 6 = .ok (.ifCond .ge 14, 3) := by decide +kernel
theorem dX11_placeAt_9 : decode cX11_placeAt 9 = .ok (.new 82, 3) := by decide +kernel
theorem dX11_placeAt_12 : decode cX11_placeAt 12 = .ok (.dup, 1) := by decide +kernel
theorem dX11_placeAt_13 : decode cX11_placeAt 13 = .ok (.ldc_w 371, 3) := by decide +kernel
theorem dX11_placeAt_16 : decode cX11_placeAt 16 = .ok (.invokespecial 86, 3) := by decide +kernel
theorem dX11_placeAt_19 : decode cX11_placeAt 19 = .ok (.athrow, 1) := by decide +kernel
theorem dX11_placeAt_20 : decode cX11_placeAt 20 = .ok (.aload_n 0, 1) := by decide +kernel
theorem dX11_placeAt_21 : decode cX11_placeAt 21 = .ok (.getfield 10, 3) := by decide +kernel
theorem dX11_placeAt_24 : decode cX11_placeAt 24 = .ok (.iload_n 1, 1) := by decide +kernel
theorem dX11_placeAt_25 : decode cX11_placeAt 25 = .ok (.iload_n 2, 1) := by decide +kernel
theorem dX11_placeAt_26 : decode cX11_placeAt 26 = .ok (.aload_n 0, 1) := by decide +kernel
theorem dX11_placeAt_27 : decode cX11_placeAt 27 = .ok (.getfield 74, 3) := by decide +kernel
theorem dX11_placeAt_30 : decode cX11_placeAt 30 = .ok (.invokevirtual 373, 3) := by decide +kernel
theorem dX11_placeAt_33 : decode cX11_placeAt 33 = .ok (.ireturn, 1) := by decide +kernel
theorem dX11_keep_0 : decode cX11_keep 0 = .ok (.aload_n 0, 1) := by decide +kernel
theorem dX11_keep_1 : decode cX11_keep 1 = .ok (.getfield 63, 3) := by decide +kernel
theorem dX11_keep_4 : decode cX11_keep 4 = .ok (.getfield 379, 3) := by decide +kernel
theorem dX11_keep_7 : decode cX11_keep 7 = .ok (.aload_n 0, 1) := by decide +kernel
theorem dX11_keep_8 : decode cX11_keep 8 = .ok (.getfield 10, 3) := by decide +kernel
theorem dX11_keep_11 : decode cX11_keep 11 = .ok (.invokevirtual 382, 3) := by decide +kernel
theorem dX11_keep_14 : decode cX11_keep 14 = .ok (.aload_n 0, 1) := by decide +kernel
theorem dX11_keep_15 : decode cX11_keep 15 = .ok (.getfield 10, 3) := by decide +kernel
theorem dX11_keep_18 : decode cX11_keep 18 = .ok (.getfield 116, 3) := by decide +kernel
theorem dX11_keep_21 : decode cX11_keep 21 = .ok (.ireturn, 1) := by decide +kernel
theorem dX11_differences_0 : decode cX11_differences 0 = .ok (.aload_n 0, 1) := by decide +kernel
theorem dX11_differences_1 : decode cX11_differences 1 = .ok (.getfield 63, 3) := by decide +kernel
theorem dX11_differences_4 : decode cX11_differences 4 = .ok (.aload_n 0, 1) := by decide +kernel
theorem dX11_differences_5 : decode cX11_differences 5 = .ok (.getfield 10, 3) := by decide +kernel
theorem dX11_differences_8 : decode cX11_differences 8 = .ok (.invokevirtual 385, 3) := by decide +kernel
theorem dX11_differences_11 : decode cX11_differences 11 = .ok (.istore_n 1, 1) := by decide +kernel
theorem dX11_differences_12 : decode cX11_differences 12 = .ok (.aload_n 0, 1) := by decide +kernel
theorem dX11_differences_13 : decode cX11_differences 13 = .ok (.getfield 63, 3) := by decide +kernel
theorem dX11_differences_16 : decode cX11_differences 16 = .ok (.getfield 379, 3) := by decide +kernel
theorem dX11_differences_19 : decode cX11_differences 19 = .ok (.getfield 116, 3) := by decide +kernel
theorem dX11_differences_22 : decode cX11_differences 22 = .ok (.aload_n 0, 1) := by decide +kernel
theorem dX11_differences_23 : decode cX11_differences 23 = .ok (.getfield 10, 3) := by decide +kernel
theorem dX11_differences_26 : decode cX11_differences 26 = .ok (.getfield 116, 3) := by decide +kernel
theorem dX11_differences_29 : decode cX11_differences 29 = .ok (.iadd, 1) := by decide +kernel
theorem dX11_differences_30 : decode cX11_differences 30 = .ok (.iconst 2, 1) := by decide +kernel
theorem dX11_differences_31 : decode cX11_differences 31 = .ok (.iload_n 1, 1) := by decide +kernel
theorem dX11_differences_32 : decode cX11_differences 32 = .ok (.imul, 1) := by decide +kernel
theorem dX11_differences_33 : decode cX11_differences 33 = .ok (.isub, 1) := by decide +kernel
theorem dX11_differences_34 : decode cX11_differences 34 = .ok (.ireturn, 1) := by decide +kernel
theorem dX11_sameShare_0 : decode cX11_sameShare 0 = .ok (.aload_n 0, 1) := by decide +kernel
theorem dX11_sameShare_1 : decode cX11_sameShare 1 = .ok (.getfield 63, 3) := by decide +kernel
theorem dX11_sameShare_4 : decode cX11_sameShare 4 = .ok (.aload_n 0, 1) := by decide +kernel
theorem dX11_sameShare_5 : decode cX11_sameShare 5 = .ok (.getfield 10, 3) := by decide +kernel
theorem dX11_sameShare_8 : decode cX11_sameShare 8 = .ok (.invokevirtual 385, 3) := by decide +kernel
theorem dX11_sameShare_11 : decode cX11_sameShare 11 = .ok (.i2f, 1) := by decide +kernel
theorem dX11_sameShare_12 : decode cX11_sameShare 12 = .ok (.aload_n 0, 1) := by decide +kernel
theorem dX11_sameShare_13 : decode cX11_sameShare 13 = .ok (.getfield 10, 3) := by decide +kernel
theorem dX11_sameShare_16 : decode cX11_sameShare 16 = .ok (.getfield 116, 3) := by decide +kernel
theorem dX11_sameShare_19 : decode cX11_sameShare 19 = .ok (.i2f, 1) := by decide +kernel
theorem dX11_sameShare_20 : decode cX11_sameShare 20 = .ok (.fdiv, 1) := by decide +kernel
theorem dX11_sameShare_21 : decode cX11_sameShare 21 = .ok (.freturn, 1) := by decide +kernel
theorem dX11_errors_0 : decode cX11_errors 0 = .ok (.aload_n 0, 1) := by decide +kernel
theorem dX11_errors_1 : decode cX11_errors 1 = .ok (.getfield 42, 3) := by decide +kernel
theorem dX11_errors_4 : decode cX11_errors 4 = .ok (.invokevirtual 218, 3) := by decide +kernel
theorem dX11_errors_7 : decode cX11_errors 7 = .ok (.aload_n 0, 1) := by decide +kernel
theorem dX11_errors_8 : decode cX11_errors 8 = .ok (.getfield 10, 3) := by decide +kernel
theorem dX11_errors_11 : decode cX11_errors 11 = .ok (.invokevirtual 388, 3) := by decide +kernel
theorem dX11_errors_14 : decode cX11_errors 14 = .ok (.ifCond .eq 7, 3) := by decide +kernel
theorem dX11_errors_17 : decode cX11_errors 17 = .ok (.iconst 0, 1) := by decide +kernel
theorem dX11_errors_18 : decode cX11_errors 18 = .ok (.goto 4, 3) := by decide +kernel
theorem dX11_errors_21 : decode cX11_errors 21 = .ok (.iconst 1, 1) := by decide +kernel
theorem dX11_errors_22 : decode cX11_errors 22 = .ok (.istore_n 1, 1) := by decide +kernel
theorem dX11_errors_23 : decode cX11_errors 23 = .ok (.aload_n 0, 1) := by decide +kernel
theorem dX11_errors_24 : decode cX11_errors 24 = .ok (.getfield 63, 3) := by decide +kernel
theorem dX11_errors_27 : decode cX11_errors 27 = .ok (.getfield 391, 3) := by decide +kernel
theorem dX11_errors_30 : decode cX11_errors 30 = .ok (.astore_n 2, 1) := by decide +kernel
theorem dX11_errors_31 : decode cX11_errors 31 = .ok (.aload_n 2, 1) := by decide +kernel
theorem dX11_errors_32 : decode cX11_errors 32 = .ok (.aload_n 0, 1) := by decide +kernel
theorem dX11_errors_33 : decode cX11_errors 33 = .ok (.getfield 10, 3) := by decide +kernel
theorem dX11_errors_36 : decode cX11_errors 36 = .ok (.invokevirtual 382, 3) := by decide +kernel
theorem dX11_errors_39 : decode cX11_errors 39 = .ok (.aload_n 0, 1) := by decide +kernel
theorem dX11_errors_40 : decode cX11_errors 40 = .ok (.getfield 42, 3) := by decide +kernel
theorem dX11_errors_43 : decode cX11_errors 43 = .ok (.aload_n 0, 1) := by decide +kernel
theorem dX11_errors_44 : decode cX11_errors 44 = .ok (.getfield 10, 3) := by decide +kernel
theorem dX11_errors_47 : decode cX11_errors 47 = .ok (.sipush 150, 3) := by decide +kernel
theorem dX11_errors_50 : decode cX11_errors 50 = .ok (.invokevirtual 221, 3) := by decide +kernel
theorem dX11_errors_53 : decode cX11_errors 53 = .ok (.istore_n 3, 1) := by decide +kernel
theorem dX11_errors_54 : decode cX11_errors 54 = .ok (.aload_n 0, 1) := by decide +kernel
theorem dX11_errors_55 : decode cX11_errors 55 = .ok (.getfield 42, 3) := by decide +kernel
theorem dX11_errors_58 : decode cX11_errors 58 = .ok (.aload_n 0, 1) := by decide +kernel
theorem dX11_errors_59 : decode cX11_errors 59 = .ok (.getfield 10, 3) := by decide +kernel
theorem dX11_errors_62 : decode cX11_errors 62 = .ok (.iload_n 3, 1) := by decide +kernel
theorem dX11_errors_63 : decode cX11_errors 63 = .ok (.invokevirtual 224, 3) := by decide +kernel
theorem dX11_errors_66 : decode cX11_errors 66 = .ok (.pop, 1) := by decide +kernel
theorem dX11_errors_67 : decode cX11_errors 67 = .ok (.iload_n 1, 1) := by decide +kernel
theorem dX11_errors_68 : decode cX11_errors 68 = .ok (.aload_n 0, 1) := by decide +kernel
theorem dX11_errors_69 : decode cX11_errors 69 = .ok (.getfield 10, 3) := by decide +kernel
theorem dX11_errors_72 : decode cX11_errors 72 = .ok (.aload_n 2, 1) := by decide +kernel
theorem dX11_errors_73 : decode cX11_errors 73 = .ok (.invokevirtual 394, 3) := by decide +kernel
theorem dX11_errors_76 : decode cX11_errors 76 = .ok (.iadd, 1) := by decide +kernel
theorem dX11_errors_77 : decode cX11_errors 77 = .ok (.ireturn, 1) := by decide +kernel
theorem dX11_requirePlace_0 : decode cX11_requirePlace 0 = .ok (.iload_n 1, 1) := by decide +kernel
theorem dX11_requirePlace_1 : decode cX11_requirePlace 1 = .ok (.ifCond .lt 14, 3) := by decide +kernel
theorem dX11_requirePlace_4 : decode cX11_requirePlace 4 = .ok (.iload_n 1, 1) := by decide +kernel
theorem dX11_requirePlace_5 : decode cX11_requirePlace 5 = .ok (.aload_n 0, 1) := by decide +kernel
theorem dX11_requirePlace_6 : decode cX11_requirePlace 6 = .ok (.getfield 10, 3) := by decide +kernel
theorem dX11_requirePlace_9 : decode cX11_requirePlace 9 = .ok (.getfield 144, 3) := by decide +kernel
theorem dX11_requirePlace_12 : decode cX11_requirePlace 12 = .ok (.if_icmp .le 14, 3) := by decide +kernel
theorem dX11_requirePlace_15 : decode cX11_requirePlace 15 = .ok (.new 119, 3) := by decide +kernel
theorem dX11_requirePlace_18 : decode cX11_requirePlace 18 = .ok (.dup, 1) := by decide +kernel
theorem dX11_requirePlace_19 : decode cX11_requirePlace 19 = .ok (.ldc_w 397, 3) := by decide +kernel
theorem dX11_requirePlace_22 : decode cX11_requirePlace 22 = .ok (.invokespecial 123, 3) := by decide +kernel
theorem dX11_requirePlace_25 : decode cX11_requirePlace 25 = .ok (.athrow, 1) := by decide +kernel
theorem dX11_requirePlace_26 : decode cX11_requirePlace 26 = .ok (.return_, 1) := by decide +kernel
theorem dX11_requirePart_0 : decode cX11_requirePart 0 = .ok (.aload_n 0, 1) := by decide +kernel
theorem dX11_requirePart_1 : decode cX11_requirePart 1 = .ok (.iload_n 1, 1) := by decide +kernel
theorem dX11_requirePart_2 : decode cX11_requirePart 2 = .ok (.invokevirtual 264, 3) := by decide +kernel
theorem dX11_requirePart_5 : decode cX11_requirePart 5 = .ok (.aload_n 0, 1) := by decide +kernel
theorem dX11_requirePart_6 : decode cX11_requirePart 6 = .ok (.iload_n 2, 1) := by decide +kernel
theorem dX11_requirePart_7 : decode cX11_requirePart 7 = .ok (.invokevirtual 264, 3) := by decide +kernel
theorem dX11_requirePart_10 : decode cX11_requirePart 10 = .ok (.iload_n 1, 1) := by decide +kernel
theorem dX11_requirePart_11 : decode cX11_requirePart 11 = .ok (.iload_n 2, 1) := by decide +kernel
theorem dX11_requirePart_12 : decode cX11_requirePart 12 = .ok (.if_icmp .le 13, 3) := by decide +kernel
theorem dX11_requirePart_15 : decode cX11_requirePart 15 = .ok (.new 82, 3) := by decide +kernel
theorem dX11_requirePart_18 : decode cX11_requirePart 18 = .ok (.dup, 1) := by decide +kernel
theorem dX11_requirePart_19 : decode cX11_requirePart 19 = .ok (.ldc 195, 2) := by decide +kernel
theorem dX11_requirePart_21 : decode cX11_requirePart 21 = .ok (.invokespecial 86, 3) := by decide +kernel
theorem dX11_requirePart_24 : decode cX11_requirePart 24 = .ok (.athrow, 1) := by decide +kernel
theorem dX11_requirePart_25 : decode cX11_requirePart 25 = .ok (.return_, 1) := by decide +kernel
theorem dX11_requireLine_0 : decode cX11_requireLine 0 = .ok (.iload_n 1, 1) := by decide +kernel
theorem dX11_requireLine_1 : decode cX11_requireLine 1 = .ok (.ifCond .lt 14, 3) := by decide +kernel
theorem dX11_requireLine_4 : decode cX11_requireLine 4 = .ok (.iload_n 1, 1) := by decide +kernel
theorem dX11_requireLine_5 : decode cX11_requireLine 5 = .ok (.aload_n 0, 1) := by decide +kernel
theorem dX11_requireLine_6 : decode cX11_requireLine 6 = .ok (.getfield 10, 3) := by decide +kernel
theorem dX11_requireLine_9 : decode cX11_requireLine 9 = .ok (.getfield 116, 3) := by decide +kernel
theorem dX11_requireLine_12 : decode cX11_requireLine 12 = .ok (.if_icmp .lt 14, 3) := by decide +kernel
theorem dX11_requireLine_15 : decode cX11_requireLine 15 = .ok (.new 119, 3) := by decide +kernel
theorem dX11_requireLine_18 : decode cX11_requireLine 18 = .ok (.dup, 1) := by decide +kernel
theorem dX11_requireLine_19 : decode cX11_requireLine 19 = .ok (.ldc_w 399, 3) := by decide +kernel
theorem dX11_requireLine_22 : decode cX11_requireLine 22 = .ok (.invokespecial 123, 3) := by decide +kernel
theorem dX11_requireLine_25 : decode cX11_requireLine 25 = .ok (.athrow, 1) := by decide +kernel
theorem dX11_requireLine_26 : decode cX11_requireLine 26 = .ok (.return_, 1) := by decide +kernel
theorem dX11_requireMark_0 : decode cX11_requireMark 0 = .ok (.iload_n 1, 1) := by decide +kernel
theorem dX11_requireMark_1 : decode cX11_requireMark 1 = .ok (.ifCond .lt 9, 3) := by decide +kernel
theorem dX11_requireMark_4 : decode cX11_requireMark 4 = .ok (.iload_n 1, 1) := by decide +kernel
theorem dX11_requireMark_5 : decode cX11_requireMark 5 = .ok (.bipush 16, 2) := by decide +kernel
theorem dX11_requireMark_7 : decode cX11_requireMark 7 = .ok (.if_icmp .lt 14, 3) := by decide +kernel
theorem dX11_requireMark_10 : decode cX11_requireMark 10 = .ok (.new 119, 3) := by decide +kernel
theorem dX11_requireMark_13 : decode cX11_requireMark 13 = .ok (.dup, 1) := by decide +kernel
theorem dX11_requireMark_14 : decode cX11_requireMark 14 = .ok (.ldc_w 401, 3) := by decide +kernel
theorem dX11_requireMark_17 : decode cX11_requireMark 17 = .ok (.invokespecial 123, 3) := by decide +kernel
theorem dX11_requireMark_20 : decode cX11_requireMark 20 = .ok (.athrow, 1) := by decide +kernel
theorem dX11_requireMark_21 : decode cX11_requireMark 21 = .ok (.return_, 1) := by decide +kernel
theorem dX11_perform_0 : decode cX11_perform 0 = .ok (.aload_n 0, 1) := by decide +kernel
theorem dX11_perform_1 : decode cX11_perform 1 = .ok (.getfield 35, 3) := by decide +kernel
theorem dX11_perform_4 : decode cX11_perform 4 = .ok (.getfield 179, 3) := by decide +kernel
theorem dX11_perform_7 : decode cX11_perform 7 = .ok (.ifCond .ne 5, 3) := by decide +kernel
theorem dX11_perform_10 : decode cX11_perform 10 = .ok (.iconst 1, 1) := by decide +kernel
theorem dX11_perform_11 : decode cX11_perform 11 = .ok (.ireturn, 1) := by decide +kernel
theorem dX11_perform_12 : decode cX11_perform 12 = .ok (.aload_n 0, 1) := by decide +kernel
theorem dX11_perform_13 : decode cX11_perform 13 = .ok (.getfield 42, 3) := by decide +kernel
theorem dX11_perform_16 : decode cX11_perform 16 = .ok (.invokevirtual 405, 3) := by decide +kernel
theorem dX11_perform_19 : decode cX11_perform 19 = .ok (.ifCond .eq 17, 3) := by decide +kernel
theorem dX11_perform_22 : decode cX11_perform 22 = .ok (.aload_n 0, 1) := by decide +kernel
theorem dX11_perform_23 : decode cX11_perform 23 = .ok (.getfield 35, 3) := by decide +kernel
theorem dX11_perform_26 : decode cX11_perform 26 = .ok (.aload_n 0, 1) := by decide +kernel
theorem dX11_perform_27 : decode cX11_perform 27 = .ok (.getfield 10, 3) := by decide +kernel
theorem dX11_perform_30 : decode cX11_perform 30 = .ok (.invokevirtual 408, 3) := by decide +kernel
theorem dX11_perform_33 : decode cX11_perform 33 = .ok (.ifCond .ne 5, 3) := by decide +kernel
theorem dX11_perform_36 : decode cX11_perform 36 = .ok (.iconst 0, 1) := by decide +kernel
theorem dX11_perform_37 : decode cX11_perform 37 = .ok (.ireturn, 1) := by decide +kernel
theorem dX11_perform_38 : decode cX11_perform 38 = .ok (.aload_n 0, 1) := by decide +kernel
theorem dX11_perform_39 : decode cX11_perform 39 = .ok (.getfield 42, 3) := by decide +kernel
theorem dX11_perform_42 : decode cX11_perform 42 = .ok (.aload_n 0, 1) := by decide +kernel
theorem dX11_perform_43 : decode cX11_perform 43 = .ok (.getfield 10, 3) := by decide +kernel
theorem dX11_perform_46 : decode cX11_perform 46 = .ok (.invokevirtual 412, 3) := by decide +kernel
theorem dX11_perform_49 : decode cX11_perform 49 = .ok (.aload_n 0, 1) := by decide +kernel
theorem dX11_perform_50 : decode cX11_perform 50 = .ok (.getfield 35, 3) := by decide +kernel
theorem dX11_perform_53 : decode cX11_perform 53 = .ok (.aload_n 0, 1) := by decide +kernel
theorem dX11_perform_54 : decode cX11_perform 54 = .ok (.getfield 10, 3) := by decide +kernel
theorem dX11_perform_57 : decode cX11_perform 57 = .ok (.invokevirtual 415, 3) := by decide +kernel
theorem dX11_perform_60 : decode cX11_perform 60 = .ok (.iconst 1, 1) := by decide +kernel
theorem dX11_perform_61 : decode cX11_perform 61 = .ok (.ireturn, 1) := by decide +kernel
theorem dX11_planAtCursors_0 : decode cX11_planAtCursors 0 = .ok (.aload_n 0, 1) := by decide +kernel
theorem dX11_planAtCursors_1 : decode cX11_planAtCursors 1 = .ok (.getfield 35, 3) := by decide +kernel
theorem dX11_planAtCursors_4 : decode cX11_planAtCursors 4 = .ok (.aload_n 1, 1) := by decide +kernel
theorem dX11_planAtCursors_5 : decode cX11_planAtCursors 5 = .ok (.iload_n 2, 1) := by decide +kernel
theorem dX11_planAtCursors_6 : decode cX11_planAtCursors 6 = .ok (.iload_n 3, 1) := by decide +kernel
theorem dX11_planAtCursors_7 : decode cX11_planAtCursors 7 = .ok (.invokevirtual 153, 3) := by decide +kernel
theorem dX11_planAtCursors_10 : decode cX11_planAtCursors 10 = .ok (.iconst 0, 1) := by decide +kernel
theorem dX11_planAtCursors_11 : decode cX11_planAtCursors 11 = .ok (.istore 4, 2) := by decide +kernel
theorem dX11_planAtCursors_13 : decode cX11_planAtCursors 13 = .ok (.iload 4, 2) := by decide +kernel
theorem dX11_planAtCursors_15 : decode cX11_planAtCursors 15 = .ok (.aload_n 0, 1) := by decide +kernel
theorem dX11_planAtCursors_16 : decode cX11_planAtCursors 16 = .ok (.getfield 10, 3) := by decide +kernel
theorem dX11_planAtCursors_19 : decode cX11_planAtCursors 19 = .ok (.getfield 267, 3) := by decide +kernel
theorem dX11_planAtCursors_22 : decode cX11_planAtCursors 22 = .ok (.if_icmp .ge 33, 3) := by decide +kernel
theorem dX11_planAtCursors_25 : decode cX11_planAtCursors 25 = .ok (.aload_n 0, 1) := by decide +kernel
theorem dX11_planAtCursors_26 : decode cX11_planAtCursors 26 = .ok (.getfield 10, 3) := by decide +kernel
theorem dX11_planAtCursors_29 : decode cX11_planAtCursors 29 = .ok (.getfield 205, 3) := by decide +kernel
theorem dX11_planAtCursors_32 : decode cX11_planAtCursors 32 = .ok (.iload 4, 2) := by decide +kernel
theorem dX11_planAtCursors_34 : decode cX11_planAtCursors 34 = .ok (.iaload, 1) := by decide +kernel
theorem dX11_planAtCursors_35 : decode cX11_planAtCursors 35 = .ok (.istore 5, 2) := by decide +kernel
theorem dX11_planAtCursors_37 : decode cX11_planAtCursors 37 = .ok (.aload_n 0, 1) := by decide +kernel
theorem dX11_planAtCursors_38 : decode cX11_planAtCursors 38 = .ok (.getfield 35, 3) := by decide +kernel
theorem dX11_planAtCursors_41 : decode cX11_planAtCursors 41 = .ok (.iload 5, 2) := by decide +kernel
theorem dX11_planAtCursors_43 : decode cX11_planAtCursors 43 = .ok (.iload 5, 2) := by decide +kernel
theorem dX11_planAtCursors_45 : decode cX11_planAtCursors 45 = .ok (.iload_n 3, 1) := by decide +kernel
theorem dX11_planAtCursors_46 : decode cX11_planAtCursors 46 = .ok (.invokevirtual 156, 3) := by decide +kernel
theorem dX11_planAtCursors_49 : decode cX11_planAtCursors 49 = .ok (.iinc 4 1, 3) := by decide +kernel
theorem dX11_planAtCursors_52 : decode cX11_planAtCursors 52 = .ok (.goto (-39), 3) := by decide +kernel
theorem dX11_planAtCursors_55 : decode cX11_planAtCursors 55 = .ok (.return_, 1) := by decide +kernel
theorem dX11_planErasing_0 : decode cX11_planErasing 0 = .ok (.aload_n 0, 1) := by decide +kernel
theorem dX11_planErasing_1 : decode cX11_planErasing 1 = .ok (.getfield 35, 3) := by decide +kernel
theorem dX11_planErasing_4 : decode cX11_planErasing 4 = .ok (.aload_n 0, 1) := by decide +kernel
theorem dX11_planErasing_5 : decode cX11_planErasing 5 = .ok (.getfield 21, 3) := by decide +kernel
theorem dX11_planErasing_8 : decode cX11_planErasing 8 = .ok (.getfield 130, 3) := by decide +kernel
theorem dX11_planErasing_11 : decode cX11_planErasing 11 = .ok (.iconst 0, 1) := by decide +kernel
theorem dX11_planErasing_12 : decode cX11_planErasing 12 = .ok (.iconst 0, 1) := by decide +kernel
theorem dX11_planErasing_13 : decode cX11_planErasing 13 = .ok (.invokevirtual 153, 3) := by decide +kernel
theorem dX11_planErasing_16 : decode cX11_planErasing 16 = .ok (.iconst 0, 1) := by decide +kernel
theorem dX11_planErasing_17 : decode cX11_planErasing 17 = .ok (.istore_n 2, 1) := by decide +kernel
theorem dX11_planErasing_18 : decode cX11_planErasing 18 = .ok (.iconst 0, 1) := by decide +kernel
theorem dX11_planErasing_19 : decode cX11_planErasing 19 = .ok (.istore_n 3, 1) := by decide +kernel
theorem dX11_planErasing_20 : decode cX11_planErasing 20 = .ok (.iload_n 3, 1) := by decide +kernel
theorem dX11_planErasing_21 : decode cX11_planErasing 21 = .ok (.aload_n 0, 1) := by decide +kernel
theorem dX11_planErasing_22 : decode cX11_planErasing 22 = .ok (.getfield 10, 3) := by decide +kernel
theorem dX11_planErasing_25 : decode cX11_planErasing 25 = .ok (.getfield 267, 3) := by decide +kernel
theorem dX11_planErasing_28 : decode cX11_planErasing 28 = .ok (.if_icmp .ge 74, 3) := by decide +kernel
theorem dX11_planErasing_31 : decode cX11_planErasing 31 = .ok (.aload_n 0, 1) := by decide +kernel
theorem dX11_planErasing_32 : decode cX11_planErasing 32 = .ok (.getfield 10, 3) := by decide +kernel
theorem dX11_planErasing_35 : decode cX11_planErasing 35 = .ok (.getfield 205, 3) := by decide +kernel
theorem dX11_planErasing_38 : decode cX11_planErasing 38 = .ok (.iload_n 3, 1) := by decide +kernel
theorem dX11_planErasing_39 : decode cX11_planErasing 39 = .ok (.iaload, 1) := by decide +kernel
theorem dX11_planErasing_40 : decode cX11_planErasing 40 = .ok (.istore 4, 2) := by decide +kernel
theorem dX11_planErasing_42 : decode cX11_planErasing 42 = .ok (.iload_n 2, 1) := by decide +kernel
theorem dX11_planErasing_43 : decode cX11_planErasing 43 = .ok (.iload 4, 2) := by decide +kernel
theorem dX11_planErasing_45 : decode cX11_planErasing 45 = .ok (.iload_n 1, 1) := by decide +kernel
theorem dX11_planErasing_46 : decode cX11_planErasing 46 = .ok (.iconst 0, 1) := by decide +kernel
theorem dX11_planErasing_47 : decode cX11_planErasing 47 = .ok (.invokestatic 341, 3) := by decide +kernel
theorem dX11_planErasing_50 : decode cX11_planErasing 50 = .ok (.iadd, 1) := by decide +kernel
theorem dX11_planErasing_51 : decode cX11_planErasing 51 = .ok (.invokestatic 167, 3) := by decide +kernel
theorem dX11_planErasing_54 : decode cX11_planErasing 54 = .ok (.istore 5, 2) := by decide +kernel
theorem dX11_planErasing_56 : decode cX11_planErasing 56 = .ok (.iload_n 2, 1) := by decide +kernel
theorem dX11_planErasing_57 : decode cX11_planErasing 57 = .ok (.aload_n 0, 1) := by decide +kernel
theorem dX11_planErasing_58 : decode cX11_planErasing 58 = .ok (.getfield 10, 3) := by decide +kernel
theorem dX11_planErasing_61 : decode cX11_planErasing 61 = .ok (.getfield 144, 3) := by decide +kernel
theorem dX11_planErasing_64 : decode cX11_planErasing 64 = .ok (.iload 4, 2) := by decide +kernel
theorem dX11_planErasing_66 : decode cX11_planErasing 66 = .ok (.iload_n 1, 1) := by decide +kernel
theorem dX11_planErasing_67 : decode cX11_planErasing 67 = .ok (.iconst 0, 1) := by decide +kernel
theorem dX11_planErasing_68 : decode cX11_planErasing 68 = .ok (.invokestatic 167, 3) := by decide +kernel
theorem dX11_planErasing_71 : decode cX11_planErasing 71 = .ok (.iadd, 1) := by decide +kernel
theorem dX11_planErasing_72 : decode cX11_planErasing 72 = .ok (.invokestatic 341, 3) := by decide +kernel
theorem dX11_planErasing_75 : decode cX11_planErasing 75 = .ok (.invokestatic 167, 3) := by decide +kernel
theorem dX11_planErasing_78 : decode cX11_planErasing 78 = .ok (.istore_n 2, 1) := by decide +kernel
theorem dX11_planErasing_79 : decode cX11_planErasing 79 = .ok (.iload 5, 2) := by decide +kernel
theorem dX11_planErasing_81 : decode cX11_planErasing 81 = .ok (.iload_n 2, 1) := by decide +kernel
theorem dX11_planErasing_82 : decode cX11_planErasing 82 = .ok (.if_icmp .ge 14, 3) := by decide +kernel
theorem dX11_planErasing_85 : decode cX11_planErasing 85 = .ok (.aload_n 0, 1) := by decide +kernel
theorem dX11_planErasing_86 : decode cX11_planErasing 86 = .ok (.getfield 35, 3) := by decide +kernel
theorem dX11_planErasing_89 : decode cX11_planErasing 89 = .ok (.iload 5, 2) := by decide +kernel
theorem dX11_planErasing_91 : decode cX11_planErasing 91 = .ok (.iload_n 2, 1) := by decide +kernel
theorem dX11_planErasing_92 : decode cX11_planErasing 92 = .ok (.iconst 0, 1) := by decide +kernel
theorem dX11_planErasing_93 : decode cX11_planErasing 93 = .ok (.invokevirtual 156, 3) := by decide +kernel
theorem dX11_planErasing_96 : decode cX11_planErasing 96 = .ok (.iinc 3 1, 3) := by decide +kernel
theorem dX11_planErasing_99 : decode cX11_planErasing 99 = .ok (.goto (-79), 3) := by decide +kernel
theorem dX11_planErasing_102 : decode cX11_planErasing 102 = .ok (.return_, 1) := by decide +kernel
theorem dX11_planPasting_0 : decode cX11_planPasting 0 = .ok (.aload_n 0, 1) := by decide +kernel
theorem dX11_planPasting_1 : decode cX11_planPasting 1 = .ok (.getfield 28, 3) := by decide +kernel
theorem dX11_planPasting_4 : decode cX11_planPasting 4 = .ok (.getfield 418, 3) := by decide +kernel
theorem dX11_planPasting_7 : decode cX11_planPasting 7 = .ok (.ifCond .eq 21, 3) := by decide +kernel
theorem dX11_planPasting_10 : decode cX11_planPasting 10 = .ok (.aload_n 0, 1) := by decide +kernel
theorem dX11_planPasting_11 : decode cX11_planPasting 11 = .ok (.getfield 28, 3) := by decide +kernel
theorem dX11_planPasting_14 : decode cX11_planPasting 14 = .ok (.aload_n 0, 1) := by decide +kernel
theorem dX11_planPasting_15 : decode cX11_planPasting 15 = .ok (.getfield 10, 3) := by decide +kernel
theorem dX11_planPasting_18 : decode cX11_planPasting 18 = .ok (.aload_n 0, 1) := by decide +kernel
theorem dX11_planPasting_19 : decode cX11_planPasting 19 = .ok (.getfield 35, 3) := by decide +kernel
theorem dX11_planPasting_22 : decode cX11_planPasting 22 = .ok (.invokevirtual 421, 3) := by decide +kernel
theorem dX11_planPasting_25 : decode cX11_planPasting 25 = .ok (.goto 28, 3) := by decide +kernel
theorem dX11_planPasting_28 : decode cX11_planPasting 28 = .ok (.aload_n 0, 1) := by decide +kernel
theorem dX11_planPasting_29 : decode cX11_planPasting 29 = .ok (.aload_n 0, 1) := by decide +kernel
theorem dX11_planPasting_30 : decode cX11_planPasting 30 = .ok (.getfield 28, 3) := by decide +kernel
theorem dX11_planPasting_33 : decode cX11_planPasting 33 = .ok (.getfield 358, 3) := by decide +kernel
theorem dX11_planPasting_36 : decode cX11_planPasting 36 = .ok (.getfield 130, 3) := by decide +kernel
theorem dX11_planPasting_39 : decode cX11_planPasting 39 = .ok (.iconst 0, 1) := by decide +kernel
theorem dX11_planPasting_40 : decode cX11_planPasting 40 = .ok (.aload_n 0, 1) := by decide +kernel
theorem dX11_planPasting_41 : decode cX11_planPasting 41 = .ok (.getfield 28, 3) := by decide +kernel
theorem dX11_planPasting_44 : decode cX11_planPasting 44 = .ok (.getfield 358, 3) := by decide +kernel
theorem dX11_planPasting_47 : decode cX11_planPasting 47 = .ok (.getfield 89, 3) := by decide +kernel
theorem dX11_planPasting_50 : decode cX11_planPasting 50 = .ok (.invokevirtual 131, 3) := by decide +kernel
theorem dX11_planPasting_53 : decode cX11_planPasting 53 = .ok (.return_, 1) := by decide +kernel
theorem dX11_indentLine_0 : decode cX11_indentLine 0 = .ok (.aload_n 0, 1) := by decide +kernel
theorem dX11_indentLine_1 : decode cX11_indentLine 1 = .ok (.getfield 10, 3) := by decide +kernel
theorem dX11_indentLine_4 : decode cX11_indentLine 4 = .ok (.getfield 188, 3) := by decide +kernel
theorem dX11_indentLine_7 : decode cX11_indentLine 7 = .ok (.iload_n 1, 1) := by decide +kernel
theorem dX11_indentLine_8 : decode cX11_indentLine 8 = .ok (.iaload, 1) := by decide +kernel
theorem dX11_indentLine_9 : decode cX11_indentLine 9 = .ok (.istore_n 3, 1) := by decide +kernel
theorem dX11_indentLine_10 : decode cX11_indentLine 10 = .ok (.iload_n 2, 1) := by decide +kernel
theorem dX11_indentLine_11 : decode cX11_indentLine 11 = .ok (.ifCond .le 25, 3) := by decide +kernel
theorem dX11_indentLine_14 : decode cX11_indentLine 14 = .ok (.aload_n 0, 1) := by decide +kernel
theorem dX11_indentLine_15 : decode cX11_indentLine 15 = .ok (.getfield 10, 3) := by decide +kernel
theorem dX11_indentLine_18 : decode cX11_indentLine 18 = .ok (.iload_n 1, 1) := by decide +kernel
theorem dX11_indentLine_19 : decode cX11_indentLine 19 = .ok (.invokevirtual 184, 3) := by decide +kernel
theorem dX11_indentLine_22 : decode cX11_indentLine 22 = .ok (.iload_n 3, 1) := by decide +kernel
theorem dX11_indentLine_23 : decode cX11_indentLine 23 = .ok (.if_icmp .le 13, 3) := by decide +kernel
theorem dX11_indentLine_26 : decode cX11_indentLine 26 = .ok (.aload_n 0, 1) := by decide +kernel
theorem dX11_indentLine_27 : decode cX11_indentLine 27 = .ok (.getfield 35, 3) := by decide +kernel
theorem dX11_indentLine_30 : decode cX11_indentLine 30 = .ok (.iload_n 3, 1) := by decide +kernel
theorem dX11_indentLine_31 : decode cX11_indentLine 31 = .ok (.iload_n 3, 1) := by decide +kernel
theorem dX11_indentLine_32 : decode cX11_indentLine 32 = .ok (.iload_n 2, 1) := by decide +kernel
theorem dX11_indentLine_33 : decode cX11_indentLine 33 = .ok (.invokevirtual 156, 3) := by decide +kernel
theorem dX11_indentLine_36 : decode cX11_indentLine 36 = .ok (.iload_n 2, 1) := by decide +kernel
theorem dX11_indentLine_37 : decode cX11_indentLine 37 = .ok (.ifCond .ge 24, 3) := by decide +kernel
theorem dX11_indentLine_40 : decode cX11_indentLine 40 = .ok (.aload_n 0, 1) := by decide +kernel
theorem dX11_indentLine_41 : decode cX11_indentLine 41 = .ok (.getfield 35, 3) := by decide +kernel
theorem dX11_indentLine_44 : decode cX11_indentLine 44 = .ok (.iload_n 3, 1) := by decide +kernel
theorem dX11_indentLine_45 : decode cX11_indentLine 45 = .ok (.iload_n 3, 1) := by decide +kernel
theorem dX11_indentLine_46 : decode cX11_indentLine 46 = .ok (.aload_n 0, 1) := by decide +kernel
theorem dX11_indentLine_47 : decode cX11_indentLine 47 = .ok (.getfield 10, 3) := by decide +kernel
theorem dX11_indentLine_50 : decode cX11_indentLine 50 = .ok (.iload_n 3, 1) := by decide +kernel
theorem dX11_indentLine_51 : decode cX11_indentLine 51 = .ok (.iload_n 2, 1) := by decide +kernel
theorem dX11_indentLine_52 : decode cX11_indentLine 52 = .ok (.ineg, 1) := by decide +kernel
theorem dX11_indentLine_53 : decode cX11_indentLine 53 = .ok (.invokevirtual 197, 3) := by decide +kernel
theorem dX11_indentLine_56 : decode cX11_indentLine 56 = .ok (.iadd, 1) := by decide +kernel
theorem dX11_indentLine_57 : decode cX11_indentLine 57 = .ok (.iconst 0, 1) := by decide +kernel
theorem dX11_indentLine_58 : decode cX11_indentLine 58 = .ok (.invokevirtual 156, 3) := by decide +kernel
theorem dX11_indentLine_61 : decode cX11_indentLine 61 = .ok (.return_, 1) := by decide +kernel
theorem dX11_breakFor_0 : decode cX11_breakFor 0 = .ok (.iload_n 2, 1) := by decide +kernel
theorem dX11_breakFor_1 : decode cX11_breakFor 1 = .ok (.iload_n 1, 1) := by decide +kernel
theorem dX11_breakFor_2 : decode cX11_breakFor 2 = .ok (.isub, 1) := by decide +kernel
theorem dX11_breakFor_3 : decode cX11_breakFor 3 = .ok (.iload_n 3, 1) := by decide +kernel
theorem dX11_breakFor_4 : decode cX11_breakFor 4 = .ok (.if_icmp .gt 5, 3) := by decide +kernel
theorem dX11_breakFor_7 : decode cX11_breakFor 7 = .ok (.iconst (-1), 1) := by decide +kernel
theorem dX11_breakFor_8 : decode cX11_breakFor 8 = .ok (.ireturn, 1) := by decide +kernel
theorem dX11_breakFor_9 : decode cX11_breakFor 9 = .ok (.iload_n 1, 1) := by decide +kernel
theorem dX11_breakFor_10 : decode cX11_breakFor 10 = .ok (.iload_n 3, 1) := by decide +kernel
theorem dX11_breakFor_11 : decode cX11_breakFor 11 = .ok (.iadd, 1) := by decide +kernel
theorem dX11_breakFor_12 : decode cX11_breakFor 12 = .ok (.istore 4, 2) := by decide +kernel
theorem dX11_breakFor_14 : decode cX11_breakFor 14 = .ok (.iload 4, 2) := by decide +kernel
theorem dX11_breakFor_16 : decode cX11_breakFor 16 = .ok (.iload_n 1, 1) := by decide +kernel
theorem dX11_breakFor_17 : decode cX11_breakFor 17 = .ok (.if_icmp .le 27, 3) := by decide +kernel
theorem dX11_breakFor_20 : decode cX11_breakFor 20 = .ok (.aload_n 0, 1) := by decide +kernel
theorem dX11_breakFor_21 : decode cX11_breakFor 21 = .ok (.getfield 10, 3) := by decide +kernel
theorem dX11_breakFor_24 : decode cX11_breakFor 24 = .ok (.getfield 104, 3) := by decide +kernel
theorem dX11_breakFor_27 : decode cX11_breakFor 27 = .ok (.iload 4, 2) := by decide +kernel
theorem dX11_breakFor_29 : decode cX11_breakFor 29 = .ok (.baload, 1) := by decide +kernel
theorem dX11_breakFor_30 : decode cX11_breakFor 30 = .ok (.bipush 32, 2) := by decide +kernel
theorem dX11_breakFor_32 : decode cX11_breakFor 32 = .ok (.if_icmp .ne 6, 3) := by decide +kernel
theorem dX11_breakFor_35 : decode cX11_breakFor 35 = .ok (.iload 4, 2) := by decide +kernel
theorem dX11_breakFor_37 : decode cX11_breakFor 37 = .ok (.ireturn, 1) := by decide +kernel
theorem dX11_breakFor_38 : decode cX11_breakFor 38 = .ok (.iinc 4 (-1), 3) := by decide +kernel
theorem dX11_breakFor_41 : decode cX11_breakFor 41 = .ok (.goto (-27), 3) := by decide +kernel
theorem dX11_breakFor_44 : decode cX11_breakFor 44 = .ok (.iload_n 1, 1) := by decide +kernel
theorem dX11_breakFor_45 : decode cX11_breakFor 45 = .ok (.iload_n 3, 1) := by decide +kernel
theorem dX11_breakFor_46 : decode cX11_breakFor 46 = .ok (.iadd, 1) := by decide +kernel
theorem dX11_breakFor_47 : decode cX11_breakFor 47 = .ok (.iconst 1, 1) := by decide +kernel
theorem dX11_breakFor_48 : decode cX11_breakFor 48 = .ok (.iadd, 1) := by decide +kernel
theorem dX11_breakFor_49 : decode cX11_breakFor 49 = .ok (.istore 4, 2) := by decide +kernel
theorem dX11_breakFor_51 : decode cX11_breakFor 51 = .ok (.iload 4, 2) := by decide +kernel
theorem dX11_breakFor_53 : decode cX11_breakFor 53 = .ok (.iload_n 2, 1) := by decide +kernel
theorem dX11_breakFor_54 : decode cX11_breakFor 54 = .ok (.if_icmp .ge 27, 3) := by decide +kernel
theorem dX11_breakFor_57 : decode cX11_breakFor 57 = .ok (.aload_n 0, 1) := by decide +kernel
theorem dX11_breakFor_58 : decode cX11_breakFor 58 = .ok (.getfield 10, 3) := by decide +kernel
theorem dX11_breakFor_61 : decode cX11_breakFor 61 = .ok (.getfield 104, 3) := by decide +kernel
theorem dX11_breakFor_64 : decode cX11_breakFor 64 = .ok (.iload 4, 2) := by decide +kernel
theorem dX11_breakFor_66 : decode cX11_breakFor 66 = .ok (.baload, 1) := by decide +kernel
theorem dX11_breakFor_67 : decode cX11_breakFor 67 = .ok (.bipush 32, 2) := by decide +kernel
theorem dX11_breakFor_69 : decode cX11_breakFor 69 = .ok (.if_icmp .ne 6, 3) := by decide +kernel
theorem dX11_breakFor_72 : decode cX11_breakFor 72 = .ok (.iload 4, 2) := by decide +kernel
theorem dX11_breakFor_74 : decode cX11_breakFor 74 = .ok (.ireturn, 1) := by decide +kernel
theorem dX11_breakFor_75 : decode cX11_breakFor 75 = .ok (.iinc 4 1, 3) := by decide +kernel
theorem dX11_breakFor_78 : decode cX11_breakFor 78 = .ok (.goto (-27), 3) := by decide +kernel
theorem dX11_breakFor_81 : decode cX11_breakFor 81 = .ok (.iconst (-1), 1) := by decide +kernel
theorem dX11_breakFor_82 : decode cX11_breakFor 82 = .ok (.ireturn, 1) := by decide +kernel
theorem dX11_moveAll_0 : decode cX11_moveAll 0 = .ok (.iconst 0, 1) := by decide +kernel
theorem dX11_moveAll_1 : decode cX11_moveAll 1 = .ok (.istore_n 3, 1) := by decide +kernel
theorem dX11_moveAll_2 : decode cX11_moveAll 2 = .ok (.iload_n 3, 1) := by decide +kernel
theorem dX11_moveAll_3 : decode cX11_moveAll 3 = .ok (.aload_n 0, 1) := by decide +kernel
theorem dX11_moveAll_4 : decode cX11_moveAll 4 = .ok (.getfield 10, 3) := by decide +kernel
theorem dX11_moveAll_7 : decode cX11_moveAll 7 = .ok (.getfield 267, 3) := by decide +kernel
theorem dX11_moveAll_10 : decode cX11_moveAll 10 = .ok (.if_icmp .ge 33, 3) := by decide +kernel
theorem dX11_moveAll_13 : decode cX11_moveAll 13 = .ok (.aload_n 0, 1) := by decide +kernel
theorem dX11_moveAll_14 : decode cX11_moveAll 14 = .ok (.getfield 10, 3) := by decide +kernel
theorem dX11_moveAll_17 : decode cX11_moveAll 17 = .ok (.getfield 205, 3) := by decide +kernel
theorem dX11_moveAll_20 : decode cX11_moveAll 20 = .ok (.iload_n 3, 1) := by decide +kernel
theorem dX11_moveAll_21 : decode cX11_moveAll 21 = .ok (.aload_n 0, 1) := by decide +kernel
theorem dX11_moveAll_22 : decode cX11_moveAll 22 = .ok (.aload_n 0, 1) := by decide +kernel
theorem dX11_moveAll_23 : decode cX11_moveAll 23 = .ok (.getfield 10, 3) := by decide +kernel
theorem dX11_moveAll_26 : decode cX11_moveAll 26 = .ok (.getfield 205, 3) := by decide +kernel
theorem dX11_moveAll_29 : decode cX11_moveAll 29 = .ok (.iload_n 3, 1) := by decide +kernel
theorem dX11_moveAll_30 : decode cX11_moveAll 30 = .ok (.iaload, 1) := by decide +kernel
theorem dX11_moveAll_31 : decode cX11_moveAll 31 = .ok (.iload_n 1, 1) := by decide +kernel
theorem dX11_moveAll_32 : decode cX11_moveAll 32 = .ok (.iload_n 2, 1) := by decide +kernel
theorem dX11_moveAll_33 : decode cX11_moveAll 33 = .ok (.invokevirtual 425, 3) := by decide +kernel
theorem dX11_moveAll_36 : decode cX11_moveAll 36 = .ok (.iastore, 1) := by decide +kernel
theorem dX11_moveAll_37 : decode cX11_moveAll 37 = .ok (.iinc 3 1, 3) := by decide +kernel
theorem dX11_moveAll_40 : decode cX11_moveAll 40 = .ok (.goto (-38), 3) := by decide +kernel
theorem dX11_moveAll_43 : decode cX11_moveAll 43 = .ok (.aload_n 0, 1) := by decide +kernel
theorem dX11_moveAll_44 : decode cX11_moveAll 44 = .ok (.getfield 10, 3) := by decide +kernel
theorem dX11_moveAll_47 : decode cX11_moveAll 47 = .ok (.invokevirtual 275, 3) := by decide +kernel
theorem dX11_moveAll_50 : decode cX11_moveAll 50 = .ok (.return_, 1) := by decide +kernel
theorem dX11_movedPlace_0 : decode cX11_movedPlace 0 = .ok (.iload_n 3, 1) := by decide +kernel
theorem dX11_movedPlace_1 : decode cX11_movedPlace 1 = .ok (.ifCond .ne 5, 3) := by decide +kernel
theorem dX11_movedPlace_4 : decode cX11_movedPlace 4 = .ok (.iload_n 1, 1) := by decide +kernel
theorem dX11_movedPlace_5 : decode cX11_movedPlace 5 = .ok (.ireturn, 1) := by decide +kernel
theorem dX11_movedPlace_6 : decode cX11_movedPlace 6 = .ok (.iload_n 2, 1) := by decide +kernel
theorem dX11_movedPlace_7 : decode cX11_movedPlace 7 = .ok (.tableswitch 108 0 3 #[29, 47, 61, 71], 29) := by decide +kernel
theorem dX11_movedPlace_36 : decode cX11_movedPlace 36 = .ok (.iconst 0, 1) := by decide +kernel
theorem dX11_movedPlace_37 : decode cX11_movedPlace 37 = .ok (.aload_n 0, 1) := by decide +kernel
theorem dX11_movedPlace_38 : decode cX11_movedPlace 38 = .ok (.getfield 10, 3) := by decide +kernel
theorem dX11_movedPlace_41 : decode cX11_movedPlace 41 = .ok (.getfield 144, 3) := by decide +kernel
theorem dX11_movedPlace_44 : decode cX11_movedPlace 44 = .ok (.iload_n 1, 1) := by decide +kernel
theorem dX11_movedPlace_45 : decode cX11_movedPlace 45 = .ok (.iload_n 3, 1) := by decide +kernel
theorem dX11_movedPlace_46 : decode cX11_movedPlace 46 = .ok (.iadd, 1) := by decide +kernel
theorem dX11_movedPlace_47 : decode cX11_movedPlace 47 = .ok (.invokestatic 341, 3) := by decide +kernel
theorem dX11_movedPlace_50 : decode cX11_movedPlace 50 = .ok (.invokestatic 167, 3) := by decide +kernel
theorem dX11_movedPlace_53 : decode cX11_movedPlace 53 = .ok (.ireturn, 1) := by decide +kernel
theorem dX11_movedPlace_54 : decode cX11_movedPlace 54 = .ok (.aload_n 0, 1) := by decide +kernel
theorem dX11_movedPlace_55 : decode cX11_movedPlace 55 = .ok (.getfield 10, 3) := by decide +kernel
theorem dX11_movedPlace_58 : decode cX11_movedPlace 58 = .ok (.iload_n 1, 1) := by decide +kernel
theorem dX11_movedPlace_59 : decode cX11_movedPlace 59 = .ok (.iload_n 3, 1) := by decide +kernel
theorem dX11_movedPlace_60 : decode cX11_movedPlace 60 = .ok (.aload_n 0, 1) := by decide +kernel
theorem dX11_movedPlace_61 : decode cX11_movedPlace 61 = .ok (.getfield 74, 3) := by decide +kernel
theorem dX11_movedPlace_64 : decode cX11_movedPlace 64 = .ok (.invokestatic 428, 3) := by decide +kernel
theorem dX11_movedPlace_67 : decode cX11_movedPlace 67 = .ok (.ireturn, 1) := by decide +kernel
theorem dX11_movedPlace_68 : decode cX11_movedPlace 68 = .ok (.aload_n 0, 1) := by decide +kernel
theorem dX11_movedPlace_69 : decode cX11_movedPlace 69 = .ok (.getfield 10, 3) := by decide +kernel
theorem dX11_movedPlace_72 : decode cX11_movedPlace 72 = .ok (.iload_n 1, 1) := by decide +kernel
theorem dX11_movedPlace_73 : decode cX11_movedPlace 73 = .ok (.iload_n 3, 1) := by decide +kernel
theorem dX11_movedPlace_74 : decode cX11_movedPlace 74 = .ok (.invokestatic 434, 3) := by decide +kernel
theorem dX11_movedPlace_77 : decode cX11_movedPlace 77 = .ok (.ireturn, 1) := by decide +kernel
theorem dX11_movedPlace_78 : decode cX11_movedPlace 78 = .ok (.aload_n 0, 1) := by decide +kernel
theorem dX11_movedPlace_79 : decode cX11_movedPlace 79 = .ok (.getfield 10, 3) := by decide +kernel
theorem dX11_movedPlace_82 : decode cX11_movedPlace 82 = .ok (.iload_n 1, 1) := by decide +kernel
theorem dX11_movedPlace_83 : decode cX11_movedPlace 83 = .ok (.invokevirtual 365, 3) := by decide +kernel
theorem dX11_movedPlace_86 : decode cX11_movedPlace 86 = .ok (.istore 4, 2) := by decide +kernel
theorem dX11_movedPlace_88 : decode cX11_movedPlace 88 = .ok (.iload_n 3, 1) := by decide +kernel
theorem dX11_movedPlace_89 : decode cX11_movedPlace 89 = .ok (.ifCond .ge 16, 3) := by decide +kernel
theorem dX11_movedPlace_92 : decode cX11_movedPlace 92 = .ok (.aload_n 0, 1) := by decide +kernel
theorem dX11_movedPlace_93 : decode cX11_movedPlace 93 = .ok (.getfield 10, 3) := by decide +kernel
theorem dX11_movedPlace_96 : decode cX11_movedPlace 96 = .ok (.getfield 188, 3) := by decide +kernel
theorem dX11_movedPlace_99 : decode cX11_movedPlace 99 = .ok (.iload 4, 2) := by decide +kernel
theorem dX11_movedPlace_101 : decode cX11_movedPlace 101 = .ok (.iaload, 1) := by decide +kernel
theorem dX11_movedPlace_102 : decode cX11_movedPlace 102 = .ok (.goto 12, 3) := by decide +kernel
theorem dX11_movedPlace_105 : decode cX11_movedPlace 105 = .ok (.aload_n 0, 1) := by decide +kernel
theorem dX11_movedPlace_106 : decode cX11_movedPlace 106 = .ok (.getfield 10, 3) := by decide +kernel
theorem dX11_movedPlace_109 : decode cX11_movedPlace 109 = .ok (.iload 4, 2) := by decide +kernel
theorem dX11_movedPlace_111 : decode cX11_movedPlace 111 = .ok (.invokevirtual 184, 3) := by decide +kernel
theorem dX11_movedPlace_114 : decode cX11_movedPlace 114 = .ok (.ireturn, 1) := by decide +kernel
theorem dX11_movedPlace_115 : decode cX11_movedPlace 115 = .ok (.iload_n 3, 1) := by decide +kernel
theorem dX11_movedPlace_116 : decode cX11_movedPlace 116 = .ok (.ifCond .ge 16, 3) := by decide +kernel
theorem dX11_movedPlace_119 : decode cX11_movedPlace 119 = .ok (.aload_n 0, 1) := by decide +kernel
theorem dX11_movedPlace_120 : decode cX11_movedPlace 120 = .ok (.getfield 10, 3) := by decide +kernel
theorem dX11_movedPlace_123 : decode cX11_movedPlace 123 = .ok (.iload_n 1, 1) := by decide +kernel
theorem dX11_movedPlace_124 : decode cX11_movedPlace 124 = .ok (.iload_n 3, 1) := by decide +kernel
theorem dX11_movedPlace_125 : decode cX11_movedPlace 125 = .ok (.ineg, 1) := by decide +kernel
theorem dX11_movedPlace_126 : decode cX11_movedPlace 126 = .ok (.invokestatic 438, 3) := by decide +kernel
theorem dX11_movedPlace_129 : decode cX11_movedPlace 129 = .ok (.goto 12, 3) := by decide +kernel
theorem dX11_movedPlace_132 : decode cX11_movedPlace 132 = .ok (.aload_n 0, 1) := by decide +kernel
theorem dX11_movedPlace_133 : decode cX11_movedPlace 133 = .ok (.getfield 10, 3) := by decide +kernel
theorem dX11_movedPlace_136 : decode cX11_movedPlace 136 = .ok (.iload_n 1, 1) := by decide +kernel
theorem dX11_movedPlace_137 : decode cX11_movedPlace 137 = .ok (.iload_n 3, 1) := by decide +kernel
theorem dX11_movedPlace_138 : decode cX11_movedPlace 138 = .ok (.invokestatic 441, 3) := by decide +kernel
theorem dX11_movedPlace_141 : decode cX11_movedPlace 141 = .ok (.ireturn, 1) := by decide +kernel
theorem dX11_playStep_0 : decode cX11_playStep 0 = .ok (.aload_n 0, 1) := by decide +kernel
theorem dX11_playStep_1 : decode cX11_playStep 1 = .ok (.getfield 56, 3) := by decide +kernel
theorem dX11_playStep_4 : decode cX11_playStep 4 = .ok (.getfield 444, 3) := by decide +kernel
theorem dX11_playStep_7 : decode cX11_playStep 7 = .ok (.iload_n 1, 1) := by decide +kernel
theorem dX11_playStep_8 : decode cX11_playStep 8 = .ok (.iaload, 1) := by decide +kernel
theorem dX11_playStep_9 : decode cX11_playStep 9 = .ok (.istore_n 2, 1) := by decide +kernel
theorem dX11_playStep_10 : decode cX11_playStep 10 = .ok (.aload_n 0, 1) := by decide +kernel
theorem dX11_playStep_11 : decode cX11_playStep 11 = .ok (.getfield 56, 3) := by decide +kernel
theorem dX11_playStep_14 : decode cX11_playStep 14 = .ok (.getfield 447, 3) := by decide +kernel
theorem dX11_playStep_17 : decode cX11_playStep 17 = .ok (.iload_n 1, 1) := by decide +kernel
theorem dX11_playStep_18 : decode cX11_playStep 18 = .ok (.iaload, 1) := by decide +kernel
theorem dX11_playStep_19 : decode cX11_playStep 19 = .ok (.tableswitch 70 0 3 #[29, 51, 70, 61], 29) := by decide +kernel
theorem dX11_playStep_48 : decode cX11_playStep 48 = .ok (.aload_n 0, 1) := by decide +kernel
theorem dX11_playStep_49 : decode cX11_playStep 49 = .ok (.aload_n 0, 1) := by decide +kernel
theorem dX11_playStep_50 : decode cX11_playStep 50 = .ok (.getfield 56, 3) := by decide +kernel
theorem dX11_playStep_53 : decode cX11_playStep 53 = .ok (.getfield 450, 3) := by decide +kernel
theorem dX11_playStep_56 : decode cX11_playStep 56 = .ok (.iload_n 1, 1) := by decide +kernel
theorem dX11_playStep_57 : decode cX11_playStep 57 = .ok (.sipush 200, 3) := by decide +kernel
theorem dX11_playStep_60 : decode cX11_playStep 60 = .ok (.imul, 1) := by decide +kernel
theorem dX11_playStep_61 : decode cX11_playStep 61 = .ok (.iload_n 2, 1) := by decide +kernel
theorem dX11_playStep_62 : decode cX11_playStep 62 = .ok (.invokevirtual 131, 3) := by decide +kernel
theorem dX11_playStep_65 : decode cX11_playStep 65 = .ok (.aload_n 0, 1) := by decide +kernel
theorem dX11_playStep_66 : decode cX11_playStep 66 = .ok (.invokevirtual 134, 3) := by decide +kernel
theorem dX11_playStep_69 : decode cX11_playStep 69 = .ok (.ireturn, 1) := by decide +kernel
theorem dX11_playStep_70 : decode cX11_playStep 70 = .ok (.aload_n 0, 1) := by decide +kernel
theorem dX11_playStep_71 : decode cX11_playStep 71 = .ok (.iload_n 2, 1) := by decide +kernel
theorem dX11_playStep_72 : decode cX11_playStep 72 = .ok (.invokevirtual 147, 3) := by decide +kernel
theorem dX11_playStep_75 : decode cX11_playStep 75 = .ok (.aload_n 0, 1) := by decide +kernel
theorem dX11_playStep_76 : decode cX11_playStep 76 = .ok (.invokevirtual 134, 3) := by decide +kernel
theorem dX11_playStep_79 : decode cX11_playStep 79 = .ok (.ireturn, 1) := by decide +kernel
theorem dX11_playStep_80 : decode cX11_playStep 80 = .ok (.aload_n 0, 1) := by decide +kernel
theorem dX11_playStep_81 : decode cX11_playStep 81 = .ok (.invokevirtual 162, 3) := by decide +kernel
theorem dX11_playStep_84 : decode cX11_playStep 84 = .ok (.aload_n 0, 1) := by decide +kernel
theorem dX11_playStep_85 : decode cX11_playStep 85 = .ok (.invokevirtual 134, 3) := by decide +kernel
theorem dX11_playStep_88 : decode cX11_playStep 88 = .ok (.ireturn, 1) := by decide +kernel
theorem dX11_playStep_89 : decode cX11_playStep 89 = .ok (.aload_n 0, 1) := by decide +kernel
theorem dX11_playStep_90 : decode cX11_playStep 90 = .ok (.aload_n 0, 1) := by decide +kernel
theorem dX11_playStep_91 : decode cX11_playStep 91 = .ok (.getfield 56, 3) := by decide +kernel
theorem dX11_playStep_94 : decode cX11_playStep 94 = .ok (.getfield 451, 3) := by decide +kernel
theorem dX11_playStep_97 : decode cX11_playStep 97 = .ok (.iload_n 1, 1) := by decide +kernel
theorem dX11_playStep_98 : decode cX11_playStep 98 = .ok (.iaload, 1) := by decide +kernel
theorem dX11_playStep_99 : decode cX11_playStep 99 = .ok (.iload_n 2, 1) := by decide +kernel
theorem dX11_playStep_100 : decode cX11_playStep 100 = .ok (.invokevirtual 280, 3) := by decide +kernel
theorem dX11_playStep_103 : decode cX11_playStep 103 = .ok (.iconst 1, 1) := by decide +kernel
theorem dX11_playStep_104 : decode cX11_playStep 104 = .ok (.ireturn, 1) := by decide +kernel
theorem dX11_isLetter_0 : decode cX11_isLetter 0 = .ok (.iload_n 0, 1) := by decide +kernel
theorem dX11_isLetter_1 : decode cX11_isLetter 1 = .ok (.bipush 9, 2) := by decide +kernel
theorem dX11_isLetter_3 : decode cX11_isLetter 3 = .ok (.if_icmp .eq 21, 3) := by decide +kernel
theorem dX11_isLetter_6 : decode cX11_isLetter 6 = .ok (.iload_n 0, 1) := by decide +kernel
theorem dX11_isLetter_7 : decode cX11_isLetter 7 = .ok (.bipush 10, 2) := by decide +kernel
theorem dX11_isLetter_9 : decode cX11_isLetter 9 = .ok (.if_icmp .eq 15, 3) := by decide +kernel
theorem dX11_isLetter_12 : decode cX11_isLetter 12 = .ok (.iload_n 0, 1) := by decide +kernel
theorem dX11_isLetter_13 : decode cX11_isLetter 13 = .ok (.bipush 32, 2) := by decide +kernel
theorem dX11_isLetter_15 : decode cX11_isLetter 15 = .ok (.if_icmp .lt 13, 3) := by decide +kernel
theorem dX11_isLetter_18 : decode cX11_isLetter 18 = .ok (.iload_n 0, 1) := by decide +kernel
theorem dX11_isLetter_19 : decode cX11_isLetter 19 = .ok (.bipush 126, 2) := by decide +kernel
theorem dX11_isLetter_21 : decode cX11_isLetter 21 = .ok (.if_icmp .gt 7, 3) := by decide +kernel
theorem dX11_isLetter_24 : decode cX11_isLetter 24 = .ok (.iconst 1, 1) := by decide +kernel
theorem dX11_isLetter_25 : decode cX11_isLetter 25 = .ok (.goto 4, 3) := by decide +kernel
theorem dX11_isLetter_28 : decode cX11_isLetter 28 = .ok (.iconst 0, 1) := by decide +kernel
theorem dX11_isLetter_29 : decode cX11_isLetter 29 = .ok (.ireturn, 1) := by decide +kernel
theorem dX11_isOfWord_0 : decode cX11_isOfWord 0 = .ok (.iload_n 0, 1) := by decide +kernel
theorem dX11_isOfWord_1 : decode cX11_isOfWord 1 = .ok (.bipush 97, 2) := by decide +kernel
theorem dX11_isOfWord_3 : decode cX11_isOfWord 3 = .ok (.if_icmp .lt 9, 3) := by decide +kernel
theorem dX11_isOfWord_6 : decode cX11_isOfWord 6 = .ok (.iload_n 0, 1) := by decide +kernel
theorem dX11_isOfWord_7 : decode cX11_isOfWord 7 = .ok (.bipush 122, 2) := by decide +kernel
theorem dX11_isOfWord_9 : decode cX11_isOfWord 9 = .ok (.if_icmp .le 33, 3) := by decide +kernel
theorem dX11_isOfWord_12 : decode cX11_isOfWord 12 = .ok (.iload_n 0, 1) := by decide +kernel
theorem dX11_isOfWord_13 : decode cX11_isOfWord 13 = .ok (.bipush 65, 2) := by decide +kernel
theorem dX11_isOfWord_15 : decode cX11_isOfWord 15 = .ok (.if_icmp .lt 9, 3) := by decide +kernel
theorem dX11_isOfWord_18 : decode cX11_isOfWord 18 = .ok (.iload_n 0, 1) := by decide +kernel
theorem dX11_isOfWord_19 : decode cX11_isOfWord 19 = .ok (.bipush 90, 2) := by decide +kernel
theorem dX11_isOfWord_21 : decode cX11_isOfWord 21 = .ok (.if_icmp .le 21, 3) := by decide +kernel
theorem dX11_isOfWord_24 : decode cX11_isOfWord 24 = .ok (.iload_n 0, 1) := by decide +kernel
theorem dX11_isOfWord_25 : decode cX11_isOfWord 25 = .ok (.bipush 48, 2) := by decide +kernel
theorem dX11_isOfWord_27 : decode cX11_isOfWord 27 = .ok (.if_icmp .lt 9, 3) := by decide +kernel
theorem dX11_isOfWord_30 : decode cX11_isOfWord 30 = .ok (.iload_n 0, 1) := by decide +kernel
theorem dX11_isOfWord_31 : decode cX11_isOfWord 31 = .ok (.bipush 57, 2) := by decide +kernel
theorem dX11_isOfWord_33 : decode cX11_isOfWord 33 = .ok (.if_icmp .le 9, 3) := by decide +kernel
theorem dX11_isOfWord_36 : decode cX11_isOfWord 36 = .ok (.iload_n 0, 1) := by decide +kernel
theorem dX11_isOfWord_37 : decode cX11_isOfWord 37 = .ok (.bipush 95, 2) := by decide +kernel
theorem dX11_isOfWord_39 : decode cX11_isOfWord 39 = .ok (.if_icmp .ne 7, 3) := by decide +kernel
theorem dX11_isOfWord_42 : decode cX11_isOfWord 42 = .ok (.iconst 1, 1) := by decide +kernel
theorem dX11_isOfWord_43 : decode cX11_isOfWord 43 = .ok (.goto 4, 3) := by decide +kernel
theorem dX11_isOfWord_46 : decode cX11_isOfWord 46 = .ok (.iconst 0, 1) := by decide +kernel
theorem dX11_isOfWord_47 : decode cX11_isOfWord 47 = .ok (.ireturn, 1) := by decide +kernel
theorem dX11_columnBehind_0 : decode cX11_columnBehind 0 = .ok (.iload_n 1, 1) := by decide +kernel
theorem dX11_columnBehind_1 : decode cX11_columnBehind 1 = .ok (.bipush 9, 2) := by decide +kernel
theorem dX11_columnBehind_3 : decode cX11_columnBehind 3 = .ok (.if_icmp .ne 8, 3) := by decide +kernel
theorem dX11_columnBehind_6 : decode cX11_columnBehind 6 = .ok (.iload_n 2, 1) := by decide +kernel
theorem dX11_columnBehind_7 : decode cX11_columnBehind 7 = .ok (.iconst 1, 1) := by decide +kernel
theorem dX11_columnBehind_8 : decode cX11_columnBehind 8 = .ok (.if_icmp .ge 7, 3) := by decide +kernel
theorem dX11_columnBehind_11 : decode cX11_columnBehind 11 = .ok (.iload_n 0, 1) := by decide +kernel
theorem dX11_columnBehind_12 : decode cX11_columnBehind 12 = .ok (.iconst 1, 1) := by decide +kernel
theorem dX11_columnBehind_13 : decode cX11_columnBehind 13 = .ok (.iadd, 1) := by decide +kernel
theorem dX11_columnBehind_14 : decode cX11_columnBehind 14 = .ok (.ireturn, 1) := by decide +kernel
theorem dX11_columnBehind_15 : decode cX11_columnBehind 15 = .ok (.iload_n 0, 1) := by decide +kernel
theorem dX11_columnBehind_16 : decode cX11_columnBehind 16 = .ok (.iload_n 2, 1) := by decide +kernel
theorem dX11_columnBehind_17 : decode cX11_columnBehind 17 = .ok (.iadd, 1) := by decide +kernel
theorem dX11_columnBehind_18 : decode cX11_columnBehind 18 = .ok (.iload_n 0, 1) := by decide +kernel
theorem dX11_columnBehind_19 : decode cX11_columnBehind 19 = .ok (.iload_n 2, 1) := by decide +kernel
theorem dX11_columnBehind_20 : decode cX11_columnBehind 20 = .ok (.irem, 1) := by decide +kernel
theorem dX11_columnBehind_21 : decode cX11_columnBehind 21 = .ok (.isub, 1) := by decide +kernel
theorem dX11_columnBehind_22 : decode cX11_columnBehind 22 = .ok (.ireturn, 1) := by decide +kernel
theorem dX11_openFold_0 : decode cX11_openFold 0 = .ok (.aload_n 0, 1) := by decide +kernel
theorem dX11_openFold_1 : decode cX11_openFold 1 = .ok (.iload_n 2, 1) := by decide +kernel
theorem dX11_openFold_2 : decode cX11_openFold 2 = .ok (.baload, 1) := by decide +kernel
theorem dX11_openFold_3 : decode cX11_openFold 3 = .ok (.ifCond .ne 5, 3) := by decide +kernel
theorem dX11_openFold_6 : decode cX11_openFold 6 = .ok (.iconst 0, 1) := by decide +kernel
theorem dX11_openFold_7 : decode cX11_openFold 7 = .ok (.ireturn, 1) := by decide +kernel
theorem dX11_openFold_8 : decode cX11_openFold 8 = .ok (.iload_n 2, 1) := by decide +kernel
theorem dX11_openFold_9 : decode cX11_openFold 9 = .ok (.istore_n 3, 1) := by decide +kernel
theorem dX11_openFold_10 : decode cX11_openFold 10 = .ok (.iload_n 3, 1) := by decide +kernel
theorem dX11_openFold_11 : decode cX11_openFold 11 = .ok (.ifCond .le 17, 3) := by decide +kernel
theorem dX11_openFold_14 : decode cX11_openFold 14 = .ok (.aload_n 0, 1) := by decide +kernel
theorem dX11_openFold_15 : decode cX11_openFold 15 = .ok (.iload_n 3, 1) := by decide +kernel
theorem dX11_openFold_16 : decode cX11_openFold 16 = .ok (.iconst 1, 1) := by decide +kernel
theorem dX11_openFold_17 : decode cX11_openFold 17 = .ok (.isub, 1) := by decide +kernel
theorem dX11_openFold_18 : decode cX11_openFold 18 = .ok (.baload, 1) := by decide +kernel
theorem dX11_openFold_19 : decode cX11_openFold 19 = .ok (.ifCond .eq 9, 3) := by decide +kernel
theorem dX11_openFold_22 : decode cX11_openFold 22 = .ok (.iinc 3 (-1), 3) := by decide +kernel
theorem dX11_openFold_25 : decode cX11_openFold 25 = .ok (.goto (-15), 3) := by decide +kernel
theorem dX11_openFold_28 : decode cX11_openFold 28 = .ok (.iconst 0, 1) := by decide +kernel
theorem dX11_openFold_29 : decode cX11_openFold 29 = .ok (.istore 4, 2) := by decide +kernel
theorem dX11_openFold_31 : decode cX11_openFold 31 = .ok (.iload_n 3, 1) := by decide +kernel
theorem dX11_openFold_32 : decode cX11_openFold 32 = .ok (.istore 5, 2) := by decide +kernel
theorem dX11_openFold_34 : decode cX11_openFold 34 = .ok (.iload 5, 2) := by decide +kernel
theorem dX11_openFold_36 : decode cX11_openFold 36 = .ok (.iload_n 1, 1) := by decide +kernel
theorem dX11_openFold_37 : decode cX11_openFold 37 = .ok (.if_icmp .ge 24, 3) := by decide +kernel
theorem dX11_openFold_40 : decode cX11_openFold 40 = .ok (.aload_n 0, 1) := by decide +kernel
theorem dX11_openFold_41 : decode cX11_openFold 41 = .ok (.iload 5, 2) := by decide +kernel
theorem dX11_openFold_43 : decode cX11_openFold 43 = .ok (.baload, 1) := by decide +kernel
theorem dX11_openFold_44 : decode cX11_openFold 44 = .ok (.ifCond .eq 17, 3) := by decide +kernel
theorem dX11_openFold_47 : decode cX11_openFold 47 = .ok (.aload_n 0, 1) := by decide +kernel
theorem dX11_openFold_48 : decode cX11_openFold 48 = .ok (.iload 5, 2) := by decide +kernel
theorem dX11_openFold_50 : decode cX11_openFold 50 = .ok (.iconst 0, 1) := by decide +kernel
theorem dX11_openFold_51 : decode cX11_openFold 51 = .ok (.bastore, 1) := by decide +kernel
theorem dX11_openFold_52 : decode cX11_openFold 52 = .ok (.iinc 4 1, 3) := by decide +kernel
theorem dX11_openFold_55 : decode cX11_openFold 55 = .ok (.iinc 5 1, 3) := by decide +kernel
theorem dX11_openFold_58 : decode cX11_openFold 58 = .ok (.goto (-24), 3) := by decide +kernel
theorem dX11_openFold_61 : decode cX11_openFold 61 = .ok (.iload 4, 2) := by decide +kernel
theorem dX11_openFold_63 : decode cX11_openFold 63 = .ok (.ireturn, 1) := by decide +kernel
theorem dJ9_abs_0f7a4_0 : decode cJ9_abs_0f7a4 0 = .ok (.iload_n 0, 1) := by decide +kernel
theorem dJ9_abs_0f7a4_1 : decode cJ9_abs_0f7a4 1 = .ok (.ifCond .ge 8, 3) := by decide +kernel
theorem dJ9_abs_0f7a4_4 : decode cJ9_abs_0f7a4 4 = .ok (.iload_n 0, 1) := by decide +kernel
theorem dJ9_abs_0f7a4_5 : decode cJ9_abs_0f7a4 5 = .ok (.ineg, 1) := by decide +kernel
theorem dJ9_abs_0f7a4_6 : decode cJ9_abs_0f7a4 6 = .ok (.goto 4, 3) := by decide +kernel
theorem dJ9_abs_0f7a4_9 : decode cJ9_abs_0f7a4 9 = .ok (.iload_n 0, 1) := by decide +kernel
theorem dJ9_abs_0f7a4_10 : decode cJ9_abs_0f7a4 10 = .ok (.ireturn, 1) := by decide +kernel
theorem dJ9_max_7cf53_0 : decode cJ9_max_7cf53 0 = .ok (.iload_n 0, 1) := by decide +kernel
theorem dJ9_max_7cf53_1 : decode cJ9_max_7cf53 1 = .ok (.iload_n 1, 1) := by decide +kernel
theorem dJ9_max_7cf53_2 : decode cJ9_max_7cf53 2 = .ok (.if_icmp .lt 7, 3) := by decide +kernel
theorem dJ9_max_7cf53_5 : decode cJ9_max_7cf53 5 = .ok (.iload_n 0, 1) := by decide +kernel
theorem dJ9_max_7cf53_6 : decode cJ9_max_7cf53 6 = .ok (.goto 4, 3) := by decide +kernel
theorem dJ9_max_7cf53_9 : decode cJ9_max_7cf53 9 = .ok (.iload_n 1, 1) := by decide +kernel
theorem dJ9_max_7cf53_10 : decode cJ9_max_7cf53 10 = .ok (.ireturn, 1) := by decide +kernel
theorem dJ9_min_7cf53_0 : decode cJ9_min_7cf53 0 = .ok (.iload_n 0, 1) := by decide +kernel
theorem dJ9_min_7cf53_1 : decode cJ9_min_7cf53 1 = .ok (.iload_n 1, 1) := by decide +kernel
theorem dJ9_min_7cf53_2 : decode cJ9_min_7cf53 2 = .ok (.if_icmp .gt 7, 3) := by decide +kernel
theorem dJ9_min_7cf53_5 : decode cJ9_min_7cf53 5 = .ok (.iload_n 0, 1) := by decide +kernel
theorem dJ9_min_7cf53_6 : decode cJ9_min_7cf53 6 = .ok (.goto 4, 3) := by decide +kernel
theorem dJ9_min_7cf53_9 : decode cJ9_min_7cf53 9 = .ok (.iload_n 1, 1) := by decide +kernel
theorem dJ9_min_7cf53_10 : decode cJ9_min_7cf53 10 = .ok (.ireturn, 1) := by decide +kernel

theorem dX0_init_0 : decode cX0_init 0 = .ok (.aload_n 0, 1) := by decide +kernel
theorem dX0_init_1 : decode cX0_init 1 = .ok (.invokespecial 1, 3) := by decide +kernel
theorem dX0_init_4 : decode cX0_init 4 = .ok (.aload_n 0, 1) := by decide +kernel
theorem dX0_init_5 : decode cX0_init 5 = .ok (.aconst_null, 1) := by decide +kernel
theorem dX0_init_6 : decode cX0_init 6 = .ok (.putfield 7, 3) := by decide +kernel
theorem dX0_init_9 : decode cX0_init 9 = .ok (.aload_n 0, 1) := by decide +kernel
theorem dX0_init_10 : decode cX0_init 10 = .ok (.aconst_null, 1) := by decide +kernel
theorem dX0_init_11 : decode cX0_init 11 = .ok (.putfield 13, 3) := by decide +kernel
theorem dX0_init_14 : decode cX0_init 14 = .ok (.aload_n 0, 1) := by decide +kernel
theorem dX0_init_15 : decode cX0_init 15 = .ok (.new 16, 3) := by decide +kernel
theorem dX0_init_18 : decode cX0_init 18 = .ok (.dup, 1) := by decide +kernel
theorem dX0_init_19 : decode cX0_init 19 = .ok (.invokespecial 18, 3) := by decide +kernel
theorem dX0_init_22 : decode cX0_init 22 = .ok (.putfield 19, 3) := by decide +kernel
theorem dX0_init_25 : decode cX0_init 25 = .ok (.aload_n 0, 1) := by decide +kernel
theorem dX0_init_26 : decode cX0_init 26 = .ok (.new 16, 3) := by decide +kernel
theorem dX0_init_29 : decode cX0_init 29 = .ok (.dup, 1) := by decide +kernel
theorem dX0_init_30 : decode cX0_init 30 = .ok (.invokespecial 18, 3) := by decide +kernel
theorem dX0_init_33 : decode cX0_init 33 = .ok (.putfield 23, 3) := by decide +kernel
theorem dX0_init_36 : decode cX0_init 36 = .ok (.return_, 1) := by decide +kernel
theorem dX1_init_0 : decode cX1_init 0 = .ok (.aload_n 0, 1) := by decide +kernel
theorem dX1_init_1 : decode cX1_init 1 = .ok (.invokespecial 3, 3) := by decide +kernel
theorem dX1_init_4 : decode cX1_init 4 = .ok (.aload_n 0, 1) := by decide +kernel
theorem dX1_init_5 : decode cX1_init 5 = .ok (.sipush 3000, 3) := by decide +kernel
theorem dX1_init_8 : decode cX1_init 8 = .ok (.newarray .int, 2) := by decide +kernel
theorem dX1_init_10 : decode cX1_init 10 = .ok (.putfield 9, 3) := by decide +kernel
theorem dX1_init_13 : decode cX1_init 13 = .ok (.aload_n 0, 1) := by decide +kernel
theorem dX1_init_14 : decode cX1_init 14 = .ok (.sipush 3000, 3) := by decide +kernel
theorem dX1_init_17 : decode cX1_init 17 = .ok (.newarray .int, 2) := by decide +kernel
theorem dX1_init_19 : decode cX1_init 19 = .ok (.putfield 15, 3) := by decide +kernel
theorem dX1_init_22 : decode cX1_init 22 = .ok (.aload_n 0, 1) := by decide +kernel
theorem dX1_init_23 : decode cX1_init 23 = .ok (.sipush 3000, 3) := by decide +kernel
theorem dX1_init_26 : decode cX1_init 26 = .ok (.newarray .int, 2) := by decide +kernel
theorem dX1_init_28 : decode cX1_init 28 = .ok (.putfield 18, 3) := by decide +kernel
theorem dX1_init_31 : decode cX1_init 31 = .ok (.aload_n 0, 1) := by decide +kernel
theorem dX1_init_32 : decode cX1_init 32 = .ok (.sipush 3000, 3) := by decide +kernel
theorem dX1_init_35 : decode cX1_init 35 = .ok (.newarray .int, 2) := by decide +kernel
theorem dX1_init_37 : decode cX1_init 37 = .ok (.putfield 21, 3) := by decide +kernel
theorem dX1_init_40 : decode cX1_init 40 = .ok (.aload_n 0, 1) := by decide +kernel
theorem dX1_init_41 : decode cX1_init 41 = .ok (.iconst 0, 1) := by decide +kernel
theorem dX1_init_42 : decode cX1_init 42 = .ok (.putfield 24, 3) := by decide +kernel
theorem dX1_init_45 : decode cX1_init 45 = .ok (.aload_n 0, 1) := by decide +kernel
theorem dX1_init_46 : decode cX1_init 46 = .ok (.new 28, 3) := by decide +kernel
theorem dX1_init_49 : decode cX1_init 49 = .ok (.dup, 1) := by decide +kernel
theorem dX1_init_50 : decode cX1_init 50 = .ok (.sipush 3000, 3) := by decide +kernel
theorem dX1_init_53 : decode cX1_init 53 = .ok (.newarray .byte, 2) := by decide +kernel
theorem dX1_init_55 : decode cX1_init 55 = .ok (.invokespecial 30, 3) := by decide +kernel
theorem dX1_init_58 : decode cX1_init 58 = .ok (.putfield 33, 3) := by decide +kernel
theorem dX1_init_61 : decode cX1_init 61 = .ok (.aload_n 0, 1) := by decide +kernel
theorem dX1_init_62 : decode cX1_init 62 = .ok (.iconst 0, 1) := by decide +kernel
theorem dX1_init_63 : decode cX1_init 63 = .ok (.putfield 37, 3) := by decide +kernel
theorem dX1_init_66 : decode cX1_init 66 = .ok (.aload_n 0, 1) := by decide +kernel
theorem dX1_init_67 : decode cX1_init 67 = .ok (.sipush 3000, 3) := by decide +kernel
theorem dX1_init_70 : decode cX1_init 70 = .ok (.newarray .byte, 2) := by decide +kernel
theorem dX1_init_72 : decode cX1_init 72 = .ok (.putfield 41, 3) := by decide +kernel
theorem dX1_init_75 : decode cX1_init 75 = .ok (.aload_n 0, 1) := by decide +kernel
theorem dX1_init_76 : decode cX1_init 76 = .ok (.iconst 0, 1) := by decide +kernel
theorem dX1_init_77 : decode cX1_init 77 = .ok (.putfield 45, 3) := by decide +kernel
theorem dX1_init_80 : decode cX1_init 80 = .ok (.aload_n 0, 1) := by decide +kernel
theorem dX1_init_81 : decode cX1_init 81 = .ok (.sipush 300, 3) := by decide +kernel
theorem dX1_init_84 : decode cX1_init 84 = .ok (.newarray .int, 2) := by decide +kernel
theorem dX1_init_86 : decode cX1_init 86 = .ok (.putfield 48, 3) := by decide +kernel
theorem dX1_init_89 : decode cX1_init 89 = .ok (.aload_n 0, 1) := by decide +kernel
theorem dX1_init_90 : decode cX1_init 90 = .ok (.sipush 300, 3) := by decide +kernel
theorem dX1_init_93 : decode cX1_init 93 = .ok (.newarray .boolean, 2) := by decide +kernel
theorem dX1_init_95 : decode cX1_init 95 = .ok (.putfield 51, 3) := by decide +kernel
theorem dX1_init_98 : decode cX1_init 98 = .ok (.aload_n 0, 1) := by decide +kernel
theorem dX1_init_99 : decode cX1_init 99 = .ok (.iconst 0, 1) := by decide +kernel
theorem dX1_init_100 : decode cX1_init 100 = .ok (.putfield 55, 3) := by decide +kernel
theorem dX1_init_103 : decode cX1_init 103 = .ok (.aload_n 0, 1) := by decide +kernel
theorem dX1_init_104 : decode cX1_init 104 = .ok (.sipush 300, 3) := by decide +kernel
theorem dX1_init_107 : decode cX1_init 107 = .ok (.newarray .boolean, 2) := by decide +kernel
theorem dX1_init_109 : decode cX1_init 109 = .ok (.putfield 58, 3) := by decide +kernel
theorem dX1_init_112 : decode cX1_init 112 = .ok (.return_, 1) := by decide +kernel
theorem dX1_begin_0 : decode cX1_begin 0 = .ok (.aload_n 0, 1) := by decide +kernel
theorem dX1_begin_1 : decode cX1_begin 1 = .ok (.iconst 0, 1) := by decide +kernel
theorem dX1_begin_2 : decode cX1_begin 2 = .ok (.putfield 24, 3) := by decide +kernel
theorem dX1_begin_5 : decode cX1_begin 5 = .ok (.aload_n 0, 1) := by decide +kernel
theorem dX1_begin_6 : decode cX1_begin 6 = .ok (.iconst 0, 1) := by decide +kernel
theorem dX1_begin_7 : decode cX1_begin 7 = .ok (.putfield 37, 3) := by decide +kernel
theorem dX1_begin_10 : decode cX1_begin 10 = .ok (.aload_n 0, 1) := by decide +kernel
theorem dX1_begin_11 : decode cX1_begin 11 = .ok (.getfield 33, 3) := by decide +kernel
theorem dX1_begin_14 : decode cX1_begin 14 = .ok (.aload_n 1, 1) := by decide +kernel
theorem dX1_begin_15 : decode cX1_begin 15 = .ok (.iload_n 2, 1) := by decide +kernel
theorem dX1_begin_16 : decode cX1_begin 16 = .ok (.iload_n 3, 1) := by decide +kernel
theorem dX1_begin_17 : decode cX1_begin 17 = .ok (.invokevirtual 61, 3) := by decide +kernel
theorem dX1_begin_20 : decode cX1_begin 20 = .ok (.return_, 1) := by decide +kernel
theorem dX1_beginWith_0 : decode cX1_beginWith 0 = .ok (.aload_n 0, 1) := by decide +kernel
theorem dX1_beginWith_1 : decode cX1_beginWith 1 = .ok (.iconst 0, 1) := by decide +kernel
theorem dX1_beginWith_2 : decode cX1_beginWith 2 = .ok (.putfield 24, 3) := by decide +kernel
theorem dX1_beginWith_5 : decode cX1_beginWith 5 = .ok (.aload_n 0, 1) := by decide +kernel
theorem dX1_beginWith_6 : decode cX1_beginWith 6 = .ok (.iconst 0, 1) := by decide +kernel
theorem dX1_beginWith_7 : decode cX1_beginWith 7 = .ok (.putfield 37, 3) := by decide +kernel
theorem dX1_beginWith_10 : decode cX1_beginWith 10 = .ok (.aload_n 0, 1) := by decide +kernel
theorem dX1_beginWith_11 : decode cX1_beginWith 11 = .ok (.getfield 33, 3) := by decide +kernel
theorem dX1_beginWith_14 : decode cX1_beginWith 14 = .ok (.iconst 0, 1) := by decide +kernel
theorem dX1_beginWith_15 : decode cX1_beginWith 15 = .ok (.putfield 65, 3) := by decide +kernel
theorem dX1_beginWith_18 : decode cX1_beginWith 18 = .ok (.iconst 0, 1) := by decide +kernel
theorem dX1_beginWith_19 : decode cX1_beginWith 19 = .ok (.istore_n 3, 1) := by decide +kernel
theorem dX1_beginWith_20 : decode cX1_beginWith 20 = .ok (.iload_n 3, 1) := by decide +kernel
theorem dX1_beginWith_21 : decode cX1_beginWith 21 = .ok (.iload_n 2, 1) := by decide +kernel
theorem dX1_beginWith_22 : decode cX1_beginWith 22 = .ok (.if_icmp .ge 18, 3) := by decide +kernel
theorem dX1_beginWith_25 : decode cX1_beginWith 25 = .ok (.aload_n 0, 1) := by decide +kernel
theorem dX1_beginWith_26 : decode cX1_beginWith 26 = .ok (.getfield 33, 3) := by decide +kernel
theorem dX1_beginWith_29 : decode cX1_beginWith 29 = .ok (.iload_n 1, 1) := by decide +kernel
theorem dX1_beginWith_30 : decode cX1_beginWith 30 = .ok (.invokevirtual 68, 3) := by decide +kernel
theorem dX1_beginWith_33 : decode cX1_beginWith 33 = .ok (.pop, 1) := by decide +kernel
theorem dX1_beginWith_34 : decode cX1_beginWith 34 = .ok (.iinc 3 1, 3) := by decide +kernel
theorem dX1_beginWith_37 : decode cX1_beginWith 37 = .ok (.goto (-17), 3) := by decide +kernel
theorem dX1_beginWith_40 : decode cX1_beginWith 40 = .ok (.return_, 1) := by decide +kernel
theorem dX1_addPart_0 : decode cX1_addPart 0 = .ok (.iload_n 1, 1) := by decide +kernel
theorem dX1_addPart_1 : decode cX1_addPart 1 = .ok (.iload_n 2, 1) := by decide +kernel
theorem dX1_addPart_2 : decode cX1_addPart 2 = .ok (.if_icmp .ne 8, 3) := by decide +kernel
theorem dX1_addPart_5 : decode cX1_addPart 5 = .ok (.iload_n 3, 1) := by decide +kernel
theorem dX1_addPart_6 : decode cX1_addPart 6 = .ok (.ifCond .ne 4, 3) := by decide +kernel
theorem dX1_addPart_9 : decode cX1_addPart 9 = .ok (.return_, 1) := by decide +kernel
theorem dX1_addPart_10 : decode cX1_addPart 10 = .ok (.aload_n 0, 1) := by decide +kernel
theorem dX1_addPart_11 : decode cX1_addPart 11 = .ok (.iload_n 1, 1) := by decide +kernel
theorem dX1_addPart_12 : decode cX1_addPart 12 = .ok (.iload_n 2, 1) := by decide +kernel
theorem dX1_addPart_13 : decode cX1_addPart 13 = .ok (.iconst 0, 1) := by decide +kernel
theorem dX1_addPart_14 : decode cX1_addPart 14 = .ok (.iload_n 3, 1) := by decide +kernel
theorem dX1_addPart_15 : decode cX1_addPart 15 = .ok (.invokevirtual 72, 3) := by decide +kernel
theorem dX1_addPart_18 : decode cX1_addPart 18 = .ok (.return_, 1) := by decide +kernel
theorem dX1_openPart_0 : decode cX1_openPart 0 = .ok (.aload_n 0, 1) := by decide +kernel
theorem dX1_openPart_1 : decode cX1_openPart 1 = .ok (.getfield 24, 3) := by decide +kernel
theorem dX1_openPart_4 : decode cX1_openPart 4 = .ok (.ifCond .eq 18, 3) := by decide +kernel
theorem dX1_openPart_7 : decode cX1_openPart 7 = .ok (.aload_n 0, 1) := by decide +kernel
theorem dX1_openPart_8 : decode cX1_openPart 8 = .ok (.getfield 9, 3) := by decide +kernel
theorem dX1_openPart_11 : decode cX1_openPart 11 = .ok (.aload_n 0, 1) := by decide +kernel
theorem dX1_openPart_12 : decode cX1_openPart 12 = .ok (.getfield 24, 3) := by decide +kernel
theorem dX1_openPart_15 : decode cX1_openPart 15 = .ok (.iconst 1, 1) := by decide +kernel
theorem dX1_openPart_16 : decode cX1_openPart 16 = .ok (.isub, 1) := by decide +kernel
theorem dX1_openPart_17 : decode cX1_openPart 17 = .ok (.iaload, 1) := by decide +kernel
theorem dX1_openPart_18 : decode cX1_openPart 18 = .ok (.iload_n 1, 1) := by decide +kernel
theorem dX1_openPart_19 : decode cX1_openPart 19 = .ok (.if_icmp .eq 17, 3) := by decide +kernel
theorem dX1_openPart_22 : decode cX1_openPart 22 = .ok (.aload_n 0, 1) := by decide +kernel
theorem dX1_openPart_23 : decode cX1_openPart 23 = .ok (.iload_n 1, 1) := by decide +kernel
theorem dX1_openPart_24 : decode cX1_openPart 24 = .ok (.iload_n 1, 1) := by decide +kernel
theorem dX1_openPart_25 : decode cX1_openPart 25 = .ok (.aload_n 0, 1) := by decide +kernel
theorem dX1_openPart_26 : decode cX1_openPart 26 = .ok (.getfield 33, 3) := by decide +kernel
theorem dX1_openPart_29 : decode cX1_openPart 29 = .ok (.getfield 65, 3) := by decide +kernel
theorem dX1_openPart_32 : decode cX1_openPart 32 = .ok (.iconst 0, 1) := by decide +kernel
theorem dX1_openPart_33 : decode cX1_openPart 33 = .ok (.invokevirtual 72, 3) := by decide +kernel
theorem dX1_openPart_36 : decode cX1_openPart 36 = .ok (.return_, 1) := by decide +kernel
theorem dX1_putLetter_0 : decode cX1_putLetter 0 = .ok (.aload_n 0, 1) := by decide +kernel
theorem dX1_putLetter_1 : decode cX1_putLetter 1 = .ok (.getfield 24, 3) := by decide +kernel
theorem dX1_putLetter_4 : decode cX1_putLetter 4 = .ok (.ifCond .eq 14, 3) := by decide +kernel
theorem dX1_putLetter_7 : decode cX1_putLetter 7 = .ok (.aload_n 0, 1) := by decide +kernel
theorem dX1_putLetter_8 : decode cX1_putLetter 8 = .ok (.getfield 33, 3) := by decide +kernel
theorem dX1_putLetter_11 : decode cX1_putLetter 11 = .ok (.iload_n 1, 1) := by decide +kernel
theorem dX1_putLetter_12 : decode cX1_putLetter 12 = .ok (.invokevirtual 68, 3) := by decide +kernel
theorem dX1_putLetter_15 : decode cX1_putLetter 15 = .ok (.ifCond .ne 9, 3) := by decide +kernel
theorem dX1_putLetter_18 : decode cX1_putLetter 18 = .ok (.aload_n 0, 1) := by decide +kernel
theorem dX1_putLetter_19 : decode cX1_putLetter 19 = .ok (.iconst 1, 1) := by decide +kernel
theorem dX1_putLetter_20 : decode cX1_putLetter 20 = .ok (.putfield 37, 3) := by decide +kernel
theorem dX1_putLetter_23 : decode cX1_putLetter 23 = .ok (.return_, 1) := by decide +kernel
theorem dX1_putLetter_24 : decode cX1_putLetter 24 = .ok (.aload_n 0, 1) := by decide +kernel
theorem dX1_putLetter_25 : decode cX1_putLetter 25 = .ok (.getfield 21, 3) := by decide +kernel
theorem dX1_putLetter_28 : decode cX1_putLetter 28 = .ok (.aload_n 0, 1) := by decide +kernel
theorem dX1_putLetter_29 : decode cX1_putLetter 29 = .ok (.getfield 24, 3) := by decide +kernel
theorem dX1_putLetter_32 : decode cX1_putLetter 32 = .ok (.iconst 1, 1) := by decide +kernel
theorem dX1_putLetter_33 : decode cX1_putLetter 33 = .ok (.isub, 1) := by decide +kernel
theorem dX1_putLetter_34 : decode cX1_putLetter 34 = .ok (.dup2, 1) := by decide +kernel
theorem dX1_putLetter_35 : decode cX1_putLetter 35 = .ok (.iaload, 1) := by decide +kernel
theorem dX1_putLetter_36 : decode cX1_putLetter 36 = .ok (.iconst 1, 1) := by decide +kernel
theorem dX1_putLetter_37 : decode cX1_putLetter 37 = .ok (.iadd, 1) := by decide +kernel
theorem dX1_putLetter_38 : decode cX1_putLetter 38 = .ok (.iastore, 1) := by decide +kernel
theorem dX1_putLetter_39 : decode cX1_putLetter 39 = .ok (.return_, 1) := by decide +kernel
theorem dX1_addRange_0 : decode cX1_addRange 0 = .ok (.aload_n 0, 1) := by decide +kernel
theorem dX1_addRange_1 : decode cX1_addRange 1 = .ok (.getfield 24, 3) := by decide +kernel
theorem dX1_addRange_4 : decode cX1_addRange 4 = .ok (.sipush 3000, 3) := by decide +kernel
theorem dX1_addRange_7 : decode cX1_addRange 7 = .ok (.if_icmp .lt 9, 3) := by decide +kernel
theorem dX1_addRange_10 : decode cX1_addRange 10 = .ok (.aload_n 0, 1) := by decide +kernel
theorem dX1_addRange_11 : decode cX1_addRange 11 = .ok (.iconst 1, 1) := by decide +kernel
theorem dX1_addRange_12 : decode cX1_addRange 12 = .ok (.putfield 37, 3) := by decide +kernel
theorem dX1_addRange_15 : decode cX1_addRange 15 = .ok (.return_, 1) := by decide +kernel
theorem dX1_addRange_16 : decode cX1_addRange 16 = .ok (.aload_n 0, 1) := by decide +kernel
theorem dX1_addRange_17 : decode cX1_addRange 17 = .ok (.getfield 9, 3) := by decide +kernel
theorem dX1_addRange_20 : decode cX1_addRange 20 = .ok (.aload_n 0, 1) := by decide +kernel
theorem dX1_addRange_21 : decode cX1_addRange 21 = .ok (.getfield 24, 3) := by decide +kernel
theorem dX1_addRange_24 : decode cX1_addRange 24 = .ok (.iload_n 1, 1) := by decide +kernel
theorem dX1_addRange_25 : decode cX1_addRange 25 = .ok (.iastore, 1) := by decide +kernel
theorem dX1_addRange_26 : decode cX1_addRange 26 = .ok (.aload_n 0, 1) := by decide +kernel
theorem dX1_addRange_27 : decode cX1_addRange 27 = .ok (.getfield 15, 3) := by decide +kernel
theorem dX1_addRange_30 : decode cX1_addRange 30 = .ok (.aload_n 0, 1) := by decide +kernel
theorem dX1_addRange_31 : decode cX1_addRange 31 = .ok (.getfield 24, 3) := by decide +kernel
theorem dX1_addRange_34 : decode cX1_addRange 34 = .ok (.iload_n 2, 1) := by decide +kernel
theorem dX1_addRange_35 : decode cX1_addRange 35 = .ok (.iastore, 1) := by decide +kernel
theorem dX1_addRange_36 : decode cX1_addRange 36 = .ok (.aload_n 0, 1) := by decide +kernel
theorem dX1_addRange_37 : decode cX1_addRange 37 = .ok (.getfield 18, 3) := by decide +kernel
theorem dX1_addRange_40 : decode cX1_addRange 40 = .ok (.aload_n 0, 1) := by decide +kernel
theorem dX1_addRange_41 : decode cX1_addRange 41 = .ok (.getfield 24, 3) := by decide +kernel
theorem dX1_addRange_44 : decode cX1_addRange 44 = .ok (.iload_n 3, 1) := by decide +kernel
theorem dX1_addRange_45 : decode cX1_addRange 45 = .ok (.iastore, 1) := by decide +kernel
theorem dX1_addRange_46 : decode cX1_addRange 46 = .ok (.aload_n 0, 1) := by decide +kernel
theorem dX1_addRange_47 : decode cX1_addRange 47 = .ok (.getfield 21, 3) := by decide +kernel
theorem dX1_addRange_50 : decode cX1_addRange 50 = .ok (.aload_n 0, 1) := by decide +kernel
theorem dX1_addRange_51 : decode cX1_addRange 51 = .ok (.getfield 24, 3) := by decide +kernel
theorem dX1_addRange_54 : decode cX1_addRange 54 = .ok (.iload 4, 2) := by decide +kernel
theorem dX1_addRange_56 : decode cX1_addRange 56 = .ok (.iastore, 1) := by decide +kernel
theorem dX1_addRange_57 : decode cX1_addRange 57 = .ok (.aload_n 0, 1) := by decide +kernel
theorem dX1_addRange_58 : decode cX1_addRange 58 = .ok (.dup, 1) := by decide +kernel
theorem dX1_addRange_59 : decode cX1_addRange 59 = .ok (.getfield 24, 3) := by decide +kernel
theorem dX1_addRange_62 : decode cX1_addRange 62 = .ok (.iconst 1, 1) := by decide +kernel
theorem dX1_addRange_63 : decode cX1_addRange 63 = .ok (.iadd, 1) := by decide +kernel
theorem dX1_addRange_64 : decode cX1_addRange 64 = .ok (.putfield 24, 3) := by decide +kernel
theorem dX1_addRange_67 : decode cX1_addRange 67 = .ok (.return_, 1) := by decide +kernel
theorem dX1_build_0 : decode cX1_build 0 = .ok (.aload_n 0, 1) := by decide +kernel
theorem dX1_build_1 : decode cX1_build 1 = .ok (.getfield 37, 3) := by decide +kernel
theorem dX1_build_4 : decode cX1_build 4 = .ok (.ifCond .ne 18, 3) := by decide +kernel
theorem dX1_build_7 : decode cX1_build 7 = .ok (.aload_n 1, 1) := by decide +kernel
theorem dX1_build_8 : decode cX1_build 8 = .ok (.getfield 76, 3) := by decide +kernel
theorem dX1_build_11 : decode cX1_build 11 = .ok (.aload_n 0, 1) := by decide +kernel
theorem dX1_build_12 : decode cX1_build 12 = .ok (.invokevirtual 79, 3) := by decide +kernel
theorem dX1_build_15 : decode cX1_build 15 = .ok (.iadd, 1) := by decide +kernel
theorem dX1_build_16 : decode cX1_build 16 = .ok (.sipush 3000, 3) := by decide +kernel
theorem dX1_build_19 : decode cX1_build 19 = .ok (.if_icmp .le 5, 3) := by decide +kernel
theorem dX1_build_22 : decode cX1_build 22 = .ok (.iconst 0, 1) := by decide +kernel
theorem dX1_build_23 : decode cX1_build 23 = .ok (.ireturn, 1) := by decide +kernel
theorem dX1_build_24 : decode cX1_build 24 = .ok (.aload_n 0, 1) := by decide +kernel
theorem dX1_build_25 : decode cX1_build 25 = .ok (.aload_n 1, 1) := by decide +kernel
theorem dX1_build_26 : decode cX1_build 26 = .ok (.invokevirtual 83, 3) := by decide +kernel
theorem dX1_build_29 : decode cX1_build 29 = .ok (.aload_n 0, 1) := by decide +kernel
theorem dX1_build_30 : decode cX1_build 30 = .ok (.iconst 0, 1) := by decide +kernel
theorem dX1_build_31 : decode cX1_build 31 = .ok (.putfield 45, 3) := by decide +kernel
theorem dX1_build_34 : decode cX1_build 34 = .ok (.aload_n 0, 1) := by decide +kernel
theorem dX1_build_35 : decode cX1_build 35 = .ok (.iconst 0, 1) := by decide +kernel
theorem dX1_build_36 : decode cX1_build 36 = .ok (.putfield 55, 3) := by decide +kernel
theorem dX1_build_39 : decode cX1_build 39 = .ok (.aload_n 0, 1) := by decide +kernel
theorem dX1_build_40 : decode cX1_build 40 = .ok (.iconst 0, 1) := by decide +kernel
theorem dX1_build_41 : decode cX1_build 41 = .ok (.iconst 0, 1) := by decide +kernel
theorem dX1_build_42 : decode cX1_build 42 = .ok (.invokevirtual 87, 3) := by decide +kernel
theorem dX1_build_45 : decode cX1_build 45 = .ok (.iconst 0, 1) := by decide +kernel
theorem dX1_build_46 : decode cX1_build 46 = .ok (.istore_n 2, 1) := by decide +kernel
theorem dX1_build_47 : decode cX1_build 47 = .ok (.iconst 0, 1) := by decide +kernel
theorem dX1_build_48 : decode cX1_build 48 = .ok (.istore_n 3, 1) := by decide +kernel
theorem dX1_build_49 : decode cX1_build 49 = .ok (.iload_n 3, 1) := by decide +kernel
theorem dX1_build_50 : decode cX1_build 50 = .ok (.aload_n 0, 1) := by decide +kernel
theorem dX1_build_51 : decode cX1_build 51 = .ok (.getfield 24, 3) := by decide +kernel
theorem dX1_build_54 : decode cX1_build 54 = .ok (.if_icmp .ge 33, 3) := by decide +kernel
theorem dX1_build_57 : decode cX1_build 57 = .ok (.aload_n 0, 1) := by decide +kernel
theorem dX1_build_58 : decode cX1_build 58 = .ok (.aload_n 1, 1) := by decide +kernel
theorem dX1_build_59 : decode cX1_build 59 = .ok (.iload_n 2, 1) := by decide +kernel
theorem dX1_build_60 : decode cX1_build 60 = .ok (.aload_n 0, 1) := by decide +kernel
theorem dX1_build_61 : decode cX1_build 61 = .ok (.getfield 9, 3) := by decide +kernel
theorem dX1_build_64 : decode cX1_build 64 = .ok (.iload_n 3, 1) := by decide +kernel
theorem dX1_build_65 : decode cX1_build 65 = .ok (.iaload, 1) := by decide +kernel
theorem dX1_build_66 : decode cX1_build 66 = .ok (.invokevirtual 91, 3) := by decide +kernel
theorem dX1_build_69 : decode cX1_build 69 = .ok (.aload_n 0, 1) := by decide +kernel
theorem dX1_build_70 : decode cX1_build 70 = .ok (.iload_n 3, 1) := by decide +kernel
theorem dX1_build_71 : decode cX1_build 71 = .ok (.invokevirtual 95, 3) := by decide +kernel
theorem dX1_build_74 : decode cX1_build 74 = .ok (.aload_n 0, 1) := by decide +kernel
theorem dX1_build_75 : decode cX1_build 75 = .ok (.getfield 15, 3) := by decide +kernel
theorem dX1_build_78 : decode cX1_build 78 = .ok (.iload_n 3, 1) := by decide +kernel
theorem dX1_build_79 : decode cX1_build 79 = .ok (.iaload, 1) := by decide +kernel
theorem dX1_build_80 : decode cX1_build 80 = .ok (.istore_n 2, 1) := by decide +kernel
theorem dX1_build_81 : decode cX1_build 81 = .ok (.iinc 3 1, 3) := by decide +kernel
theorem dX1_build_84 : decode cX1_build 84 = .ok (.goto (-35), 3) := by decide +kernel
theorem dX1_build_87 : decode cX1_build 87 = .ok (.aload_n 0, 1) := by decide +kernel
theorem dX1_build_88 : decode cX1_build 88 = .ok (.aload_n 1, 1) := by decide +kernel
theorem dX1_build_89 : decode cX1_build 89 = .ok (.iload_n 2, 1) := by decide +kernel
theorem dX1_build_90 : decode cX1_build 90 = .ok (.aload_n 1, 1) := by decide +kernel
theorem dX1_build_91 : decode cX1_build 91 = .ok (.getfield 76, 3) := by decide +kernel
theorem dX1_build_94 : decode cX1_build 94 = .ok (.invokevirtual 91, 3) := by decide +kernel
theorem dX1_build_97 : decode cX1_build 97 = .ok (.aload_n 0, 1) := by decide +kernel
theorem dX1_build_98 : decode cX1_build 98 = .ok (.getfield 55, 3) := by decide +kernel
theorem dX1_build_101 : decode cX1_build 101 = .ok (.sipush 300, 3) := by decide +kernel
theorem dX1_build_104 : decode cX1_build 104 = .ok (.if_icmp .gt 7, 3) := by decide +kernel
theorem dX1_build_107 : decode cX1_build 107 = .ok (.iconst 1, 1) := by decide +kernel
theorem dX1_build_108 : decode cX1_build 108 = .ok (.goto 4, 3) := by decide +kernel
theorem dX1_build_111 : decode cX1_build 111 = .ok (.iconst 0, 1) := by decide +kernel
theorem dX1_build_112 : decode cX1_build 112 = .ok (.ireturn, 1) := by decide +kernel
theorem dX1_growth_0 : decode cX1_growth 0 = .ok (.iconst 0, 1) := by decide +kernel
theorem dX1_growth_1 : decode cX1_growth 1 = .ok (.istore_n 1, 1) := by decide +kernel
theorem dX1_growth_2 : decode cX1_growth 2 = .ok (.iconst 0, 1) := by decide +kernel
theorem dX1_growth_3 : decode cX1_growth 3 = .ok (.istore_n 2, 1) := by decide +kernel
theorem dX1_growth_4 : decode cX1_growth 4 = .ok (.iload_n 2, 1) := by decide +kernel
theorem dX1_growth_5 : decode cX1_growth 5 = .ok (.aload_n 0, 1) := by decide +kernel
theorem dX1_growth_6 : decode cX1_growth 6 = .ok (.getfield 24, 3) := by decide +kernel
theorem dX1_growth_9 : decode cX1_growth 9 = .ok (.if_icmp .ge 32, 3) := by decide +kernel
theorem dX1_growth_12 : decode cX1_growth 12 = .ok (.iload_n 1, 1) := by decide +kernel
theorem dX1_growth_13 : decode cX1_growth 13 = .ok (.aload_n 0, 1) := by decide +kernel
theorem dX1_growth_14 : decode cX1_growth 14 = .ok (.getfield 21, 3) := by decide +kernel
theorem dX1_growth_17 : decode cX1_growth 17 = .ok (.iload_n 2, 1) := by decide +kernel
theorem dX1_growth_18 : decode cX1_growth 18 = .ok (.iaload, 1) := by decide +kernel
theorem dX1_growth_19 : decode cX1_growth 19 = .ok (.aload_n 0, 1) := by decide +kernel
theorem dX1_growth_20 : decode cX1_growth 20 = .ok (.getfield 15, 3) := by decide +kernel
theorem dX1_growth_23 : decode cX1_growth 23 = .ok (.iload_n 2, 1) := by decide +kernel
theorem dX1_growth_24 : decode cX1_growth 24 = .ok (.iaload, 1) := by decide +kernel
theorem dX1_growth_25 : decode cX1_growth 25 = .ok (.aload_n 0, 1) := by decide +kernel
theorem dX1_growth_26 : decode cX1_growth 26 = .ok (.getfield 9, 3) := by decide +kernel
theorem dX1_growth_29 : decode cX1_growth 29 = .ok (.iload_n 2, 1) := by decide +kernel
theorem dX1_growth_30 : decode cX1_growth 30 = .ok (.iaload, 1) := by decide +kernel
theorem dX1_growth_31 : decode cX1_growth 31 = .ok (.isub, 1) := by decide +kernel
theorem dX1_growth_32 : decode cX1_growth 32 = .ok (.isub, 1) := by decide +kernel
theorem dX1_growth_33 : decode cX1_growth 33 = .ok (.iadd, 1) := by decide +kernel
theorem dX1_growth_34 : decode cX1_growth 34 = .ok (.istore_n 1, 1) := by decide +kernel
theorem dX1_growth_35 : decode cX1_growth 35 = .ok (.iinc 2 1, 3) := by decide +kernel
theorem dX1_growth_38 : decode cX1_growth 38 = .ok (.goto (-34), 3) := by decide +kernel
theorem dX1_growth_41 : decode cX1_growth 41 = .ok (.iload_n 1, 1) := by decide +kernel
theorem dX1_growth_42 : decode cX1_growth 42 = .ok (.ireturn, 1) := by decide +kernel
theorem dX1_findStillHidden_0 : decode cX1_findStillHidden 0 = .ok (.aload_n 1, 1) := by decide +kernel
theorem dX1_findStillHidden_1 : decode cX1_findStillHidden 1 = .ok (.getfield 99, 3) := by decide +kernel
theorem dX1_findStillHidden_4 : decode cX1_findStillHidden 4 = .ok (.iconst 0, 1) := by decide +kernel
theorem dX1_findStillHidden_5 : decode cX1_findStillHidden 5 = .ok (.aload_n 0, 1) := by decide +kernel
theorem dX1_findStillHidden_6 : decode cX1_findStillHidden 6 = .ok (.getfield 58, 3) := by decide +kernel
theorem dX1_findStillHidden_9 : decode cX1_findStillHidden 9 = .ok (.iconst 0, 1) := by decide +kernel
theorem dX1_findStillHidden_10 : decode cX1_findStillHidden 10 = .ok (.aload_n 1, 1) := by decide +kernel
theorem dX1_findStillHidden_11 : decode cX1_findStillHidden 11 = .ok (.getfield 102, 3) := by decide +kernel
theorem dX1_findStillHidden_14 : decode cX1_findStillHidden 14 = .ok (.invokestatic 105, 3) := by decide +kernel
theorem dX1_findStillHidden_17 : decode cX1_findStillHidden 17 = .ok (.iconst 0, 1) := by decide +kernel
theorem dX1_findStillHidden_18 : decode cX1_findStillHidden 18 = .ok (.istore_n 2, 1) := by decide +kernel
theorem dX1_findStillHidden_19 : decode cX1_findStillHidden 19 = .ok (.iload_n 2, 1) := by decide +kernel
theorem dX1_findStillHidden_20 : decode cX1_findStillHidden 20 = .ok (.aload_n 0, 1) := by decide +kernel
theorem dX1_findStillHidden_21 : decode cX1_findStillHidden 21 = .ok (.getfield 24, 3) := by decide +kernel
theorem dX1_findStillHidden_24 : decode cX1_findStillHidden 24 = .ok (.if_icmp .ge 58, 3) := by decide +kernel
theorem dX1_findStillHidden_27 : decode cX1_findStillHidden 27 = .ok (.aload_n 1, 1) := by decide +kernel
theorem dX1_findStillHidden_28 : decode cX1_findStillHidden 28 = .ok (.aload_n 0, 1) := by decide +kernel
theorem dX1_findStillHidden_29 : decode cX1_findStillHidden 29 = .ok (.getfield 15, 3) := by decide +kernel
theorem dX1_findStillHidden_32 : decode cX1_findStillHidden 32 = .ok (.iload_n 2, 1) := by decide +kernel
theorem dX1_findStillHidden_33 : decode cX1_findStillHidden 33 = .ok (.iaload, 1) := by decide +kernel
theorem dX1_findStillHidden_34 : decode cX1_findStillHidden 34 = .ok (.invokevirtual 111, 3) := by decide +kernel
theorem dX1_findStillHidden_37 : decode cX1_findStillHidden 37 = .ok (.istore_n 3, 1) := by decide +kernel
theorem dX1_findStillHidden_38 : decode cX1_findStillHidden 38 = .ok (.aload_n 1, 1) := by decide +kernel
theorem dX1_findStillHidden_39 : decode cX1_findStillHidden 39 = .ok (.aload_n 0, 1) := by decide +kernel
theorem dX1_findStillHidden_40 : decode cX1_findStillHidden 40 = .ok (.getfield 9, 3) := by decide +kernel
theorem dX1_findStillHidden_43 : decode cX1_findStillHidden 43 = .ok (.iload_n 2, 1) := by decide +kernel
theorem dX1_findStillHidden_44 : decode cX1_findStillHidden 44 = .ok (.iaload, 1) := by decide +kernel
theorem dX1_findStillHidden_45 : decode cX1_findStillHidden 45 = .ok (.invokevirtual 111, 3) := by decide +kernel
theorem dX1_findStillHidden_48 : decode cX1_findStillHidden 48 = .ok (.istore 4, 2) := by decide +kernel
theorem dX1_findStillHidden_50 : decode cX1_findStillHidden 50 = .ok (.iload 4, 2) := by decide +kernel
theorem dX1_findStillHidden_52 : decode cX1_findStillHidden 52 = .ok (.iload_n 3, 1) := by decide +kernel
theorem dX1_findStillHidden_53 : decode cX1_findStillHidden 53 = .ok (.if_icmp .gt 23, 3) := by decide +kernel
theorem dX1_findStillHidden_56 : decode cX1_findStillHidden 56 = .ok (.aload_n 0, 1) := by decide +kernel
theorem dX1_findStillHidden_57 : decode cX1_findStillHidden 57 = .ok (.getfield 58, 3) := by decide +kernel
theorem dX1_findStillHidden_60 : decode cX1_findStillHidden 60 = .ok (.aload_n 1, 1) := by decide +kernel
theorem dX1_findStillHidden_61 : decode cX1_findStillHidden 61 = .ok (.getfield 102, 3) := by decide +kernel
theorem dX1_findStillHidden_64 : decode cX1_findStillHidden 64 = .ok (.iload 4, 2) := by decide +kernel
theorem dX1_findStillHidden_66 : decode cX1_findStillHidden 66 = .ok (.invokestatic 115, 3) := by decide +kernel
theorem dX1_findStillHidden_69 : decode cX1_findStillHidden 69 = .ok (.pop, 1) := by decide +kernel
theorem dX1_findStillHidden_70 : decode cX1_findStillHidden 70 = .ok (.iinc 4 1, 3) := by decide +kernel
theorem dX1_findStillHidden_73 : decode cX1_findStillHidden 73 = .ok (.goto (-23), 3) := by decide +kernel
theorem dX1_findStillHidden_76 : decode cX1_findStillHidden 76 = .ok (.iinc 2 1, 3) := by decide +kernel
theorem dX1_findStillHidden_79 : decode cX1_findStillHidden 79 = .ok (.goto (-60), 3) := by decide +kernel
theorem dX1_findStillHidden_82 : decode cX1_findStillHidden 82 = .ok (.return_, 1) := by decide +kernel
theorem dX1_takeOver_0 : decode cX1_takeOver 0 = .ok (.aload_n 1, 1) := by decide +kernel
theorem dX1_takeOver_1 : decode cX1_takeOver 1 = .ok (.getfield 119, 3) := by decide +kernel
theorem dX1_takeOver_4 : decode cX1_takeOver 4 = .ok (.iload_n 2, 1) := by decide +kernel
theorem dX1_takeOver_5 : decode cX1_takeOver 5 = .ok (.aload_n 0, 1) := by decide +kernel
theorem dX1_takeOver_6 : decode cX1_takeOver 6 = .ok (.getfield 41, 3) := by decide +kernel
theorem dX1_takeOver_9 : decode cX1_takeOver 9 = .ok (.aload_n 0, 1) := by decide +kernel
theorem dX1_takeOver_10 : decode cX1_takeOver 10 = .ok (.getfield 45, 3) := by decide +kernel
theorem dX1_takeOver_13 : decode cX1_takeOver 13 = .ok (.iload_n 3, 1) := by decide +kernel
theorem dX1_takeOver_14 : decode cX1_takeOver 14 = .ok (.iload_n 2, 1) := by decide +kernel
theorem dX1_takeOver_15 : decode cX1_takeOver 15 = .ok (.isub, 1) := by decide +kernel
theorem dX1_takeOver_16 : decode cX1_takeOver 16 = .ok (.invokestatic 105, 3) := by decide +kernel
theorem dX1_takeOver_19 : decode cX1_takeOver 19 = .ok (.aload_n 1, 1) := by decide +kernel
theorem dX1_takeOver_20 : decode cX1_takeOver 20 = .ok (.iload_n 2, 1) := by decide +kernel
theorem dX1_takeOver_21 : decode cX1_takeOver 21 = .ok (.invokevirtual 111, 3) := by decide +kernel
theorem dX1_takeOver_24 : decode cX1_takeOver 24 = .ok (.iconst 1, 1) := by decide +kernel
theorem dX1_takeOver_25 : decode cX1_takeOver 25 = .ok (.iadd, 1) := by decide +kernel
theorem dX1_takeOver_26 : decode cX1_takeOver 26 = .ok (.istore 4, 2) := by decide +kernel
theorem dX1_takeOver_28 : decode cX1_takeOver 28 = .ok (.iload 4, 2) := by decide +kernel
theorem dX1_takeOver_30 : decode cX1_takeOver 30 = .ok (.aload_n 1, 1) := by decide +kernel
theorem dX1_takeOver_31 : decode cX1_takeOver 31 = .ok (.getfield 102, 3) := by decide +kernel
theorem dX1_takeOver_34 : decode cX1_takeOver 34 = .ok (.if_icmp .ge 48, 3) := by decide +kernel
theorem dX1_takeOver_37 : decode cX1_takeOver 37 = .ok (.aload_n 1, 1) := by decide +kernel
theorem dX1_takeOver_38 : decode cX1_takeOver 38 = .ok (.getfield 122, 3) := by decide +kernel
theorem dX1_takeOver_41 : decode cX1_takeOver 41 = .ok (.iload 4, 2) := by decide +kernel
theorem dX1_takeOver_43 : decode cX1_takeOver 43 = .ok (.iaload, 1) := by decide +kernel
theorem dX1_takeOver_44 : decode cX1_takeOver 44 = .ok (.iload_n 3, 1) := by decide +kernel
theorem dX1_takeOver_45 : decode cX1_takeOver 45 = .ok (.if_icmp .le 6, 3) := by decide +kernel
theorem dX1_takeOver_48 : decode cX1_takeOver 48 = .ok (.goto 34, 3) := by decide +kernel
theorem dX1_takeOver_51 : decode cX1_takeOver 51 = .ok (.aload_n 0, 1) := by decide +kernel
theorem dX1_takeOver_52 : decode cX1_takeOver 52 = .ok (.aload_n 0, 1) := by decide +kernel
theorem dX1_takeOver_53 : decode cX1_takeOver 53 = .ok (.getfield 45, 3) := by decide +kernel
theorem dX1_takeOver_56 : decode cX1_takeOver 56 = .ok (.aload_n 1, 1) := by decide +kernel
theorem dX1_takeOver_57 : decode cX1_takeOver 57 = .ok (.getfield 122, 3) := by decide +kernel
theorem dX1_takeOver_60 : decode cX1_takeOver 60 = .ok (.iload 4, 2) := by decide +kernel
theorem dX1_takeOver_62 : decode cX1_takeOver 62 = .ok (.iaload, 1) := by decide +kernel
theorem dX1_takeOver_63 : decode cX1_takeOver 63 = .ok (.iadd, 1) := by decide +kernel
theorem dX1_takeOver_64 : decode cX1_takeOver 64 = .ok (.iload_n 2, 1) := by decide +kernel
theorem dX1_takeOver_65 : decode cX1_takeOver 65 = .ok (.isub, 1) := by decide +kernel
theorem dX1_takeOver_66 : decode cX1_takeOver 66 = .ok (.aload_n 0, 1) := by decide +kernel
theorem dX1_takeOver_67 : decode cX1_takeOver 67 = .ok (.getfield 58, 3) := by decide +kernel
theorem dX1_takeOver_70 : decode cX1_takeOver 70 = .ok (.iload 4, 2) := by decide +kernel
theorem dX1_takeOver_72 : decode cX1_takeOver 72 = .ok (.baload, 1) := by decide +kernel
theorem dX1_takeOver_73 : decode cX1_takeOver 73 = .ok (.invokevirtual 87, 3) := by decide +kernel
theorem dX1_takeOver_76 : decode cX1_takeOver 76 = .ok (.iinc 4 1, 3) := by decide +kernel
theorem dX1_takeOver_79 : decode cX1_takeOver 79 = .ok (.goto (-51), 3) := by decide +kernel
theorem dX1_takeOver_82 : decode cX1_takeOver 82 = .ok (.aload_n 0, 1) := by decide +kernel
theorem dX1_takeOver_83 : decode cX1_takeOver 83 = .ok (.dup, 1) := by decide +kernel
theorem dX1_takeOver_84 : decode cX1_takeOver 84 = .ok (.getfield 45, 3) := by decide +kernel
theorem dX1_takeOver_87 : decode cX1_takeOver 87 = .ok (.iload_n 3, 1) := by decide +kernel
theorem dX1_takeOver_88 : decode cX1_takeOver 88 = .ok (.iload_n 2, 1) := by decide +kernel
theorem dX1_takeOver_89 : decode cX1_takeOver 89 = .ok (.isub, 1) := by decide +kernel
theorem dX1_takeOver_90 : decode cX1_takeOver 90 = .ok (.iadd, 1) := by decide +kernel
theorem dX1_takeOver_91 : decode cX1_takeOver 91 = .ok (.putfield 45, 3) := by decide +kernel
theorem dX1_takeOver_94 : decode cX1_takeOver 94 = .ok (.return_, 1) := by decide +kernel
theorem dX1_putPart_0 : decode cX1_putPart 0 = .ok (.aload_n 0, 1) := by decide +kernel
theorem dX1_putPart_1 : decode cX1_putPart 1 = .ok (.getfield 18, 3) := by decide +kernel
theorem dX1_putPart_4 : decode cX1_putPart 4 = .ok (.iload_n 1, 1) := by decide +kernel
theorem dX1_putPart_5 : decode cX1_putPart 5 = .ok (.iaload, 1) := by decide +kernel
theorem dX1_putPart_6 : decode cX1_putPart 6 = .ok (.istore_n 2, 1) := by decide +kernel
theorem dX1_putPart_7 : decode cX1_putPart 7 = .ok (.iload_n 2, 1) := by decide +kernel
theorem dX1_putPart_8 : decode cX1_putPart 8 = .ok (.istore_n 3, 1) := by decide +kernel
theorem dX1_putPart_9 : decode cX1_putPart 9 = .ok (.iload_n 3, 1) := by decide +kernel
theorem dX1_putPart_10 : decode cX1_putPart 10 = .ok (.iload_n 2, 1) := by decide +kernel
theorem dX1_putPart_11 : decode cX1_putPart 11 = .ok (.aload_n 0, 1) := by decide +kernel
theorem dX1_putPart_12 : decode cX1_putPart 12 = .ok (.getfield 21, 3) := by decide +kernel
theorem dX1_putPart_15 : decode cX1_putPart 15 = .ok (.iload_n 1, 1) := by decide +kernel
theorem dX1_putPart_16 : decode cX1_putPart 16 = .ok (.iaload, 1) := by decide +kernel
theorem dX1_putPart_17 : decode cX1_putPart 17 = .ok (.iadd, 1) := by decide +kernel
theorem dX1_putPart_18 : decode cX1_putPart 18 = .ok (.if_icmp .ge 60, 3) := by decide +kernel
theorem dX1_putPart_21 : decode cX1_putPart 21 = .ok (.aload_n 0, 1) := by decide +kernel
theorem dX1_putPart_22 : decode cX1_putPart 22 = .ok (.getfield 41, 3) := by decide +kernel
theorem dX1_putPart_25 : decode cX1_putPart 25 = .ok (.aload_n 0, 1) := by decide +kernel
theorem dX1_putPart_26 : decode cX1_putPart 26 = .ok (.getfield 45, 3) := by decide +kernel
theorem dX1_putPart_29 : decode cX1_putPart 29 = .ok (.aload_n 0, 1) := by decide +kernel
theorem dX1_putPart_30 : decode cX1_putPart 30 = .ok (.getfield 33, 3) := by decide +kernel
theorem dX1_putPart_33 : decode cX1_putPart 33 = .ok (.getfield 125, 3) := by decide +kernel
theorem dX1_putPart_36 : decode cX1_putPart 36 = .ok (.iload_n 3, 1) := by decide +kernel
theorem dX1_putPart_37 : decode cX1_putPart 37 = .ok (.baload, 1) := by decide +kernel
theorem dX1_putPart_38 : decode cX1_putPart 38 = .ok (.bastore, 1) := by decide +kernel
theorem dX1_putPart_39 : decode cX1_putPart 39 = .ok (.aload_n 0, 1) := by decide +kernel
theorem dX1_putPart_40 : decode cX1_putPart 40 = .ok (.dup, 1) := by decide +kernel
theorem dX1_putPart_41 : decode cX1_putPart 41 = .ok (.getfield 45, 3) := by decide +kernel
theorem dX1_putPart_44 : decode cX1_putPart 44 = .ok (.iconst 1, 1) := by decide +kernel
theorem dX1_putPart_45 : decode cX1_putPart 45 = .ok (.iadd, 1) := by decide +kernel
theorem dX1_putPart_46 : decode cX1_putPart 46 = .ok (.putfield 45, 3) := by decide +kernel
theorem dX1_putPart_49 : decode cX1_putPart 49 = .ok (.aload_n 0, 1) := by decide +kernel
theorem dX1_putPart_50 : decode cX1_putPart 50 = .ok (.getfield 33, 3) := by decide +kernel
theorem dX1_putPart_53 : decode cX1_putPart 53 = .ok (.getfield 125, 3) := by decide +kernel
theorem dX1_putPart_56 : decode cX1_putPart 56 = .ok (.iload_n 3, 1) := by decide +kernel
theorem dX1_putPart_57 : decode cX1_putPart 57 = .ok (.baload, 1) := by decide +kernel
theorem dX1_putPart_58 : decode cX1_putPart 58 = .ok (.bipush 10, 2) := by decide +kernel
theorem dX1_putPart_60 : decode cX1_putPart 60 = .ok (.if_icmp .ne 12, 3) := by decide +kernel
theorem dX1_putPart_63 : decode cX1_putPart 63 = .ok (.aload_n 0, 1) := by decide +kernel
theorem dX1_putPart_64 : decode cX1_putPart 64 = .ok (.aload_n 0, 1) := by decide +kernel
theorem dX1_putPart_65 : decode cX1_putPart 65 = .ok (.getfield 45, 3) := by decide +kernel
theorem dX1_putPart_68 : decode cX1_putPart 68 = .ok (.iconst 0, 1) := by decide +kernel
theorem dX1_putPart_69 : decode cX1_putPart 69 = .ok (.invokevirtual 87, 3) := by decide +kernel
theorem dX1_putPart_72 : decode cX1_putPart 72 = .ok (.iinc 3 1, 3) := by decide +kernel
theorem dX1_putPart_75 : decode cX1_putPart 75 = .ok (.goto (-66), 3) := by decide +kernel
theorem dX1_putPart_78 : decode cX1_putPart 78 = .ok (.return_, 1) := by decide +kernel
theorem dX1_addLine_0 : decode cX1_addLine 0 = .ok (.aload_n 0, 1) := by decide +kernel
theorem dX1_addLine_1 : decode cX1_addLine 1 = .ok (.getfield 55, 3) := by decide +kernel
theorem dX1_addLine_4 : decode cX1_addLine 4 = .ok (.sipush 300, 3) := by decide +kernel
theorem dX1_addLine_7 : decode cX1_addLine 7 = .ok (.if_icmp .ge 23, 3) := by decide +kernel
theorem dX1_addLine_10 : decode cX1_addLine 10 = .ok (.aload_n 0, 1) := by decide +kernel
theorem dX1_addLine_11 : decode cX1_addLine 11 = .ok (.getfield 48, 3) := by decide +kernel
theorem dX1_addLine_14 : decode cX1_addLine 14 = .ok (.aload_n 0, 1) := by decide +kernel
theorem dX1_addLine_15 : decode cX1_addLine 15 = .ok (.getfield 55, 3) := by decide +kernel
theorem dX1_addLine_18 : decode cX1_addLine 18 = .ok (.iload_n 1, 1) := by decide +kernel
theorem dX1_addLine_19 : decode cX1_addLine 19 = .ok (.iastore, 1) := by decide +kernel
theorem dX1_addLine_20 : decode cX1_addLine 20 = .ok (.aload_n 0, 1) := by decide +kernel
theorem dX1_addLine_21 : decode cX1_addLine 21 = .ok (.getfield 51, 3) := by decide +kernel
theorem dX1_addLine_24 : decode cX1_addLine 24 = .ok (.aload_n 0, 1) := by decide +kernel
theorem dX1_addLine_25 : decode cX1_addLine 25 = .ok (.getfield 55, 3) := by decide +kernel
theorem dX1_addLine_28 : decode cX1_addLine 28 = .ok (.iload_n 2, 1) := by decide +kernel
theorem dX1_addLine_29 : decode cX1_addLine 29 = .ok (.bastore, 1) := by decide +kernel
theorem dX1_addLine_30 : decode cX1_addLine 30 = .ok (.aload_n 0, 1) := by decide +kernel
theorem dX1_addLine_31 : decode cX1_addLine 31 = .ok (.dup, 1) := by decide +kernel
theorem dX1_addLine_32 : decode cX1_addLine 32 = .ok (.getfield 55, 3) := by decide +kernel
theorem dX1_addLine_35 : decode cX1_addLine 35 = .ok (.iconst 1, 1) := by decide +kernel
theorem dX1_addLine_36 : decode cX1_addLine 36 = .ok (.iadd, 1) := by decide +kernel
theorem dX1_addLine_37 : decode cX1_addLine 37 = .ok (.putfield 55, 3) := by decide +kernel
theorem dX1_addLine_40 : decode cX1_addLine 40 = .ok (.return_, 1) := by decide +kernel
theorem dX1_moveInto_0 : decode cX1_moveInto 0 = .ok (.aload_n 1, 1) := by decide +kernel
theorem dX1_moveInto_1 : decode cX1_moveInto 1 = .ok (.getfield 119, 3) := by decide +kernel
theorem dX1_moveInto_4 : decode cX1_moveInto 4 = .ok (.astore_n 2, 1) := by decide +kernel
theorem dX1_moveInto_5 : decode cX1_moveInto 5 = .ok (.aload_n 1, 1) := by decide +kernel
theorem dX1_moveInto_6 : decode cX1_moveInto 6 = .ok (.getfield 122, 3) := by decide +kernel
theorem dX1_moveInto_9 : decode cX1_moveInto 9 = .ok (.astore_n 3, 1) := by decide +kernel
theorem dX1_moveInto_10 : decode cX1_moveInto 10 = .ok (.aload_n 1, 1) := by decide +kernel
theorem dX1_moveInto_11 : decode cX1_moveInto 11 = .ok (.getfield 99, 3) := by decide +kernel
theorem dX1_moveInto_14 : decode cX1_moveInto 14 = .ok (.astore 4, 2) := by decide +kernel
theorem dX1_moveInto_16 : decode cX1_moveInto 16 = .ok (.aload_n 1, 1) := by decide +kernel
theorem dX1_moveInto_17 : decode cX1_moveInto 17 = .ok (.aload_n 0, 1) := by decide +kernel
theorem dX1_moveInto_18 : decode cX1_moveInto 18 = .ok (.getfield 41, 3) := by decide +kernel
theorem dX1_moveInto_21 : decode cX1_moveInto 21 = .ok (.putfield 119, 3) := by decide +kernel
theorem dX1_moveInto_24 : decode cX1_moveInto 24 = .ok (.aload_n 1, 1) := by decide +kernel
theorem dX1_moveInto_25 : decode cX1_moveInto 25 = .ok (.aload_n 0, 1) := by decide +kernel
theorem dX1_moveInto_26 : decode cX1_moveInto 26 = .ok (.getfield 48, 3) := by decide +kernel
theorem dX1_moveInto_29 : decode cX1_moveInto 29 = .ok (.putfield 122, 3) := by decide +kernel
theorem dX1_moveInto_32 : decode cX1_moveInto 32 = .ok (.aload_n 1, 1) := by decide +kernel
theorem dX1_moveInto_33 : decode cX1_moveInto 33 = .ok (.aload_n 0, 1) := by decide +kernel
theorem dX1_moveInto_34 : decode cX1_moveInto 34 = .ok (.getfield 51, 3) := by decide +kernel
theorem dX1_moveInto_37 : decode cX1_moveInto 37 = .ok (.putfield 99, 3) := by decide +kernel
theorem dX1_moveInto_40 : decode cX1_moveInto 40 = .ok (.aload_n 1, 1) := by decide +kernel
theorem dX1_moveInto_41 : decode cX1_moveInto 41 = .ok (.aload_n 0, 1) := by decide +kernel
theorem dX1_moveInto_42 : decode cX1_moveInto 42 = .ok (.getfield 45, 3) := by decide +kernel
theorem dX1_moveInto_45 : decode cX1_moveInto 45 = .ok (.putfield 76, 3) := by decide +kernel
theorem dX1_moveInto_48 : decode cX1_moveInto 48 = .ok (.aload_n 1, 1) := by decide +kernel
theorem dX1_moveInto_49 : decode cX1_moveInto 49 = .ok (.aload_n 0, 1) := by decide +kernel
theorem dX1_moveInto_50 : decode cX1_moveInto 50 = .ok (.getfield 55, 3) := by decide +kernel
theorem dX1_moveInto_53 : decode cX1_moveInto 53 = .ok (.putfield 102, 3) := by decide +kernel
theorem dX1_moveInto_56 : decode cX1_moveInto 56 = .ok (.aload_n 0, 1) := by decide +kernel
theorem dX1_moveInto_57 : decode cX1_moveInto 57 = .ok (.aload_n 2, 1) := by decide +kernel
theorem dX1_moveInto_58 : decode cX1_moveInto 58 = .ok (.putfield 41, 3) := by decide +kernel
theorem dX1_moveInto_61 : decode cX1_moveInto 61 = .ok (.aload_n 0, 1) := by decide +kernel
theorem dX1_moveInto_62 : decode cX1_moveInto 62 = .ok (.aload_n 3, 1) := by decide +kernel
theorem dX1_moveInto_63 : decode cX1_moveInto 63 = .ok (.putfield 48, 3) := by decide +kernel
theorem dX1_moveInto_66 : decode cX1_moveInto 66 = .ok (.aload_n 0, 1) := by decide +kernel
theorem dX1_moveInto_67 : decode cX1_moveInto 67 = .ok (.aload 4, 2) := by decide +kernel
theorem dX1_moveInto_69 : decode cX1_moveInto 69 = .ok (.putfield 51, 3) := by decide +kernel
theorem dX1_moveInto_72 : decode cX1_moveInto 72 = .ok (.iconst 0, 1) := by decide +kernel
theorem dX1_moveInto_73 : decode cX1_moveInto 73 = .ok (.istore 5, 2) := by decide +kernel
theorem dX1_moveInto_75 : decode cX1_moveInto 75 = .ok (.iload 5, 2) := by decide +kernel
theorem dX1_moveInto_77 : decode cX1_moveInto 77 = .ok (.aload_n 1, 1) := by decide +kernel
theorem dX1_moveInto_78 : decode cX1_moveInto 78 = .ok (.getfield 126, 3) := by decide +kernel
theorem dX1_moveInto_81 : decode cX1_moveInto 81 = .ok (.if_icmp .ge 28, 3) := by decide +kernel
theorem dX1_moveInto_84 : decode cX1_moveInto 84 = .ok (.aload_n 1, 1) := by decide +kernel
theorem dX1_moveInto_85 : decode cX1_moveInto 85 = .ok (.getfield 129, 3) := by decide +kernel
theorem dX1_moveInto_88 : decode cX1_moveInto 88 = .ok (.iload 5, 2) := by decide +kernel
theorem dX1_moveInto_90 : decode cX1_moveInto 90 = .ok (.aload_n 0, 1) := by decide +kernel
theorem dX1_moveInto_91 : decode cX1_moveInto 91 = .ok (.aload_n 1, 1) := by decide +kernel
theorem dX1_moveInto_92 : decode cX1_moveInto 92 = .ok (.getfield 129, 3) := by decide +kernel
theorem dX1_moveInto_95 : decode cX1_moveInto 95 = .ok (.iload 5, 2) := by decide +kernel
theorem dX1_moveInto_97 : decode cX1_moveInto 97 = .ok (.iaload, 1) := by decide +kernel
theorem dX1_moveInto_98 : decode cX1_moveInto 98 = .ok (.iconst 0, 1) := by decide +kernel
theorem dX1_moveInto_99 : decode cX1_moveInto 99 = .ok (.invokevirtual 132, 3) := by decide +kernel
theorem dX1_moveInto_102 : decode cX1_moveInto 102 = .ok (.iastore, 1) := by decide +kernel
theorem dX1_moveInto_103 : decode cX1_moveInto 103 = .ok (.iinc 5 1, 3) := by decide +kernel
theorem dX1_moveInto_106 : decode cX1_moveInto 106 = .ok (.goto (-31), 3) := by decide +kernel
theorem dX1_moveInto_109 : decode cX1_moveInto 109 = .ok (.iconst 0, 1) := by decide +kernel
theorem dX1_moveInto_110 : decode cX1_moveInto 110 = .ok (.istore 5, 2) := by decide +kernel
theorem dX1_moveInto_112 : decode cX1_moveInto 112 = .ok (.iload 5, 2) := by decide +kernel
theorem dX1_moveInto_114 : decode cX1_moveInto 114 = .ok (.bipush 16, 2) := by decide +kernel
theorem dX1_moveInto_116 : decode cX1_moveInto 116 = .ok (.if_icmp .ge 45, 3) := by decide +kernel
theorem dX1_moveInto_119 : decode cX1_moveInto 119 = .ok (.aload_n 1, 1) := by decide +kernel
theorem dX1_moveInto_120 : decode cX1_moveInto 120 = .ok (.getfield 136, 3) := by decide +kernel
theorem dX1_moveInto_123 : decode cX1_moveInto 123 = .ok (.iload 5, 2) := by decide +kernel
theorem dX1_moveInto_125 : decode cX1_moveInto 125 = .ok (.iaload, 1) := by decide +kernel
theorem dX1_moveInto_126 : decode cX1_moveInto 126 = .ok (.iconst (-1), 1) := by decide +kernel
theorem dX1_moveInto_127 : decode cX1_moveInto 127 = .ok (.if_icmp .eq 28, 3) := by decide +kernel
theorem dX1_moveInto_130 : decode cX1_moveInto 130 = .ok (.aload_n 1, 1) := by decide +kernel
theorem dX1_moveInto_131 : decode cX1_moveInto 131 = .ok (.getfield 136, 3) := by decide +kernel
theorem dX1_moveInto_134 : decode cX1_moveInto 134 = .ok (.iload 5, 2) := by decide +kernel
theorem dX1_moveInto_136 : decode cX1_moveInto 136 = .ok (.aload_n 0, 1) := by decide +kernel
theorem dX1_moveInto_137 : decode cX1_moveInto 137 = .ok (.aload_n 1, 1) := by decide +kernel
theorem dX1_moveInto_138 : decode cX1_moveInto 138 = .ok (.getfield 136, 3) := by decide +kernel
theorem dX1_moveInto_141 : decode cX1_moveInto 141 = .ok (.iload 5, 2) := by decide +kernel
theorem dX1_moveInto_143 : decode cX1_moveInto 143 = .ok (.iaload, 1) := by decide +kernel
theorem dX1_moveInto_144 : decode cX1_moveInto 144 = .ok (.aload_n 1, 1) := by decide +kernel
theorem dX1_moveInto_145 : decode cX1_moveInto 145 = .ok (.getfield 139, 3) := by decide +kernel
theorem dX1_moveInto_148 : decode cX1_moveInto 148 = .ok (.iload 5, 2) := by decide +kernel
theorem dX1_moveInto_150 : decode cX1_moveInto 150 = .ok (.baload, 1) := by decide +kernel
theorem dX1_moveInto_151 : decode cX1_moveInto 151 = .ok (.invokevirtual 132, 3) := by decide +kernel
theorem dX1_moveInto_154 : decode cX1_moveInto 154 = .ok (.iastore, 1) := by decide +kernel
theorem dX1_moveInto_155 : decode cX1_moveInto 155 = .ok (.iinc 5 1, 3) := by decide +kernel
theorem dX1_moveInto_158 : decode cX1_moveInto 158 = .ok (.goto (-46), 3) := by decide +kernel
theorem dX1_moveInto_161 : decode cX1_moveInto 161 = .ok (.aload_n 1, 1) := by decide +kernel
theorem dX1_moveInto_162 : decode cX1_moveInto 162 = .ok (.invokevirtual 142, 3) := by decide +kernel
theorem dX1_moveInto_165 : decode cX1_moveInto 165 = .ok (.return_, 1) := by decide +kernel
theorem dX1_moved_0 : decode cX1_moved 0 = .ok (.iload_n 1, 1) := by decide +kernel
theorem dX1_moved_1 : decode cX1_moved 1 = .ok (.istore_n 3, 1) := by decide +kernel
theorem dX1_moved_2 : decode cX1_moved 2 = .ok (.aload_n 0, 1) := by decide +kernel
theorem dX1_moved_3 : decode cX1_moved 3 = .ok (.getfield 24, 3) := by decide +kernel
theorem dX1_moved_6 : decode cX1_moved 6 = .ok (.iconst 1, 1) := by decide +kernel
theorem dX1_moved_7 : decode cX1_moved 7 = .ok (.isub, 1) := by decide +kernel
theorem dX1_moved_8 : decode cX1_moved 8 = .ok (.istore 4, 2) := by decide +kernel
theorem dX1_moved_10 : decode cX1_moved 10 = .ok (.iload 4, 2) := by decide +kernel
theorem dX1_moved_12 : decode cX1_moved 12 = .ok (.ifCond .lt 90, 3) := by decide +kernel
theorem dX1_moved_15 : decode cX1_moved 15 = .ok (.aload_n 0, 1) := by decide +kernel
theorem dX1_moved_16 : decode cX1_moved 16 = .ok (.getfield 9, 3) := by decide +kernel
theorem dX1_moved_19 : decode cX1_moved 19 = .ok (.iload 4, 2) := by decide +kernel
theorem dX1_moved_21 : decode cX1_moved 21 = .ok (.iaload, 1) := by decide +kernel
theorem dX1_moved_22 : decode cX1_moved 22 = .ok (.istore 5, 2) := by decide +kernel
theorem dX1_moved_24 : decode cX1_moved 24 = .ok (.aload_n 0, 1) := by decide +kernel
theorem dX1_moved_25 : decode cX1_moved 25 = .ok (.getfield 15, 3) := by decide +kernel
theorem dX1_moved_28 : decode cX1_moved 28 = .ok (.iload 4, 2) := by decide +kernel
theorem dX1_moved_30 : decode cX1_moved 30 = .ok (.iaload, 1) := by decide +kernel
theorem dX1_moved_31 : decode cX1_moved 31 = .ok (.istore 6, 2) := by decide +kernel
theorem dX1_moved_33 : decode cX1_moved 33 = .ok (.iload_n 3, 1) := by decide +kernel
theorem dX1_moved_34 : decode cX1_moved 34 = .ok (.iload 6, 2) := by decide +kernel
theorem dX1_moved_36 : decode cX1_moved 36 = .ok (.if_icmp .ne 26, 3) := by decide +kernel
theorem dX1_moved_39 : decode cX1_moved 39 = .ok (.iload_n 2, 1) := by decide +kernel
theorem dX1_moved_40 : decode cX1_moved 40 = .ok (.ifCond .eq 8, 3) := by decide +kernel
theorem dX1_moved_43 : decode cX1_moved 43 = .ok (.iload 5, 2) := by decide +kernel
theorem dX1_moved_45 : decode cX1_moved 45 = .ok (.goto 13, 3) := by decide +kernel
theorem dX1_moved_48 : decode cX1_moved 48 = .ok (.iload 5, 2) := by decide +kernel
theorem dX1_moved_50 : decode cX1_moved 50 = .ok (.aload_n 0, 1) := by decide +kernel
theorem dX1_moved_51 : decode cX1_moved 51 = .ok (.getfield 21, 3) := by decide +kernel
theorem dX1_moved_54 : decode cX1_moved 54 = .ok (.iload 4, 2) := by decide +kernel
theorem dX1_moved_56 : decode cX1_moved 56 = .ok (.iaload, 1) := by decide +kernel
theorem dX1_moved_57 : decode cX1_moved 57 = .ok (.iadd, 1) := by decide +kernel
theorem dX1_moved_58 : decode cX1_moved 58 = .ok (.istore_n 3, 1) := by decide +kernel
theorem dX1_moved_59 : decode cX1_moved 59 = .ok (.goto 37, 3) := by decide +kernel
theorem dX1_moved_62 : decode cX1_moved 62 = .ok (.iload_n 3, 1) := by decide +kernel
theorem dX1_moved_63 : decode cX1_moved 63 = .ok (.iload 6, 2) := by decide +kernel
theorem dX1_moved_65 : decode cX1_moved 65 = .ok (.if_icmp .le 22, 3) := by decide +kernel
theorem dX1_moved_68 : decode cX1_moved 68 = .ok (.iload_n 3, 1) := by decide +kernel
theorem dX1_moved_69 : decode cX1_moved 69 = .ok (.aload_n 0, 1) := by decide +kernel
theorem dX1_moved_70 : decode cX1_moved 70 = .ok (.getfield 21, 3) := by decide +kernel
theorem dX1_moved_73 : decode cX1_moved 73 = .ok (.iload 4, 2) := by decide +kernel
theorem dX1_moved_75 : decode cX1_moved 75 = .ok (.iaload, 1) := by decide +kernel
theorem dX1_moved_76 : decode cX1_moved 76 = .ok (.iload 6, 2) := by decide +kernel
theorem dX1_moved_78 : decode cX1_moved 78 = .ok (.iload 5, 2) := by decide +kernel
theorem dX1_moved_80 : decode cX1_moved 80 = .ok (.isub, 1) := by decide +kernel
theorem dX1_moved_81 : decode cX1_moved 81 = .ok (.isub, 1) := by decide +kernel
theorem dX1_moved_82 : decode cX1_moved 82 = .ok (.iadd, 1) := by decide +kernel
theorem dX1_moved_83 : decode cX1_moved 83 = .ok (.istore_n 3, 1) := by decide +kernel
theorem dX1_moved_84 : decode cX1_moved 84 = .ok (.goto 12, 3) := by decide +kernel
theorem dX1_moved_87 : decode cX1_moved 87 = .ok (.iload_n 3, 1) := by decide +kernel
theorem dX1_moved_88 : decode cX1_moved 88 = .ok (.iload 5, 2) := by decide +kernel
theorem dX1_moved_90 : decode cX1_moved 90 = .ok (.if_icmp .le 6, 3) := by decide +kernel
theorem dX1_moved_93 : decode cX1_moved 93 = .ok (.iload 5, 2) := by decide +kernel
theorem dX1_moved_95 : decode cX1_moved 95 = .ok (.istore_n 3, 1) := by decide +kernel
theorem dX1_moved_96 : decode cX1_moved 96 = .ok (.iinc 4 (-1), 3) := by decide +kernel
theorem dX1_moved_99 : decode cX1_moved 99 = .ok (.goto (-89), 3) := by decide +kernel
theorem dX1_moved_102 : decode cX1_moved 102 = .ok (.iload_n 3, 1) := by decide +kernel
theorem dX1_moved_103 : decode cX1_moved 103 = .ok (.ireturn, 1) := by decide +kernel
theorem dX2_init_0 : decode cX2_init 0 = .ok (.aload_n 0, 1) := by decide +kernel
theorem dX2_init_1 : decode cX2_init 1 = .ok (.invokespecial 3, 3) := by decide +kernel
theorem dX2_init_4 : decode cX2_init 4 = .ok (.aload_n 0, 1) := by decide +kernel
theorem dX2_init_5 : decode cX2_init 5 = .ok (.new 9, 3) := by decide +kernel
theorem dX2_init_8 : decode cX2_init 8 = .ok (.dup, 1) := by decide +kernel
theorem dX2_init_9 : decode cX2_init 9 = .ok (.sipush 12000, 3) := by decide +kernel
theorem dX2_init_12 : decode cX2_init 12 = .ok (.newarray .byte, 2) := by decide +kernel
theorem dX2_init_14 : decode cX2_init 14 = .ok (.invokespecial 11, 3) := by decide +kernel
theorem dX2_init_17 : decode cX2_init 17 = .ok (.putfield 14, 3) := by decide +kernel
theorem dX2_init_20 : decode cX2_init 20 = .ok (.aload_n 0, 1) := by decide +kernel
theorem dX2_init_21 : decode cX2_init 21 = .ok (.iconst 0, 1) := by decide +kernel
theorem dX2_init_22 : decode cX2_init 22 = .ok (.putfield 20, 3) := by decide +kernel
theorem dX2_init_25 : decode cX2_init 25 = .ok (.aload_n 0, 1) := by decide +kernel
theorem dX2_init_26 : decode cX2_init 26 = .ok (.iconst 0, 1) := by decide +kernel
theorem dX2_init_27 : decode cX2_init 27 = .ok (.putfield 24, 3) := by decide +kernel
theorem dX2_init_30 : decode cX2_init 30 = .ok (.aload_n 0, 1) := by decide +kernel
theorem dX2_init_31 : decode cX2_init 31 = .ok (.iconst 0, 1) := by decide +kernel
theorem dX2_init_32 : decode cX2_init 32 = .ok (.putfield 28, 3) := by decide +kernel
theorem dX2_init_35 : decode cX2_init 35 = .ok (.return_, 1) := by decide +kernel
theorem dX2_takeLetters_0 : decode cX2_takeLetters 0 = .ok (.aload_n 0, 1) := by decide +kernel
theorem dX2_takeLetters_1 : decode cX2_takeLetters 1 = .ok (.getfield 14, 3) := by decide +kernel
theorem dX2_takeLetters_4 : decode cX2_takeLetters 4 = .ok (.aload_n 1, 1) := by decide +kernel
theorem dX2_takeLetters_5 : decode cX2_takeLetters 5 = .ok (.iload_n 2, 1) := by decide +kernel
theorem dX2_takeLetters_6 : decode cX2_takeLetters 6 = .ok (.iload_n 3, 1) := by decide +kernel
theorem dX2_takeLetters_7 : decode cX2_takeLetters 7 = .ok (.invokevirtual 31, 3) := by decide +kernel
theorem dX2_takeLetters_10 : decode cX2_takeLetters 10 = .ok (.aload_n 0, 1) := by decide +kernel
theorem dX2_takeLetters_11 : decode cX2_takeLetters 11 = .ok (.iconst 0, 1) := by decide +kernel
theorem dX2_takeLetters_12 : decode cX2_takeLetters 12 = .ok (.putfield 20, 3) := by decide +kernel
theorem dX2_takeLetters_15 : decode cX2_takeLetters 15 = .ok (.return_, 1) := by decide +kernel
theorem dX2_takeBlock_0 : decode cX2_takeBlock 0 = .ok (.iconst 0, 1) := by decide +kernel
theorem dX2_takeBlock_1 : decode cX2_takeBlock 1 = .ok (.istore 6, 2) := by decide +kernel
theorem dX2_takeBlock_3 : decode cX2_takeBlock 3 = .ok (.aload_n 0, 1) := by decide +kernel
theorem dX2_takeBlock_4 : decode cX2_takeBlock 4 = .ok (.getfield 14, 3) := by decide +kernel
theorem dX2_takeBlock_7 : decode cX2_takeBlock 7 = .ok (.iconst 0, 1) := by decide +kernel
theorem dX2_takeBlock_8 : decode cX2_takeBlock 8 = .ok (.putfield 35, 3) := by decide +kernel
theorem dX2_takeBlock_11 : decode cX2_takeBlock 11 = .ok (.iload_n 2, 1) := by decide +kernel
theorem dX2_takeBlock_12 : decode cX2_takeBlock 12 = .ok (.istore 7, 2) := by decide +kernel
theorem dX2_takeBlock_14 : decode cX2_takeBlock 14 = .ok (.iload 7, 2) := by decide +kernel
theorem dX2_takeBlock_16 : decode cX2_takeBlock 16 = .ok (.iload_n 2, 1) := by decide +kernel
theorem dX2_takeBlock_17 : decode cX2_takeBlock 17 = .ok (.iload_n 3, 1) := by decide +kernel
theorem dX2_takeBlock_18 : decode cX2_takeBlock 18 = .ok (.iadd, 1) := by decide +kernel
theorem dX2_takeBlock_19 : decode cX2_takeBlock 19 = .ok (.if_icmp .ge 93, 3) := by decide +kernel
theorem dX2_takeBlock_22 : decode cX2_takeBlock 22 = .ok (.aload_n 1, 1) := by decide +kernel
theorem dX2_takeBlock_23 : decode cX2_takeBlock 23 = .ok (.iload 7, 2) := by decide +kernel
theorem dX2_takeBlock_25 : decode cX2_takeBlock 25 = .ok (.invokevirtual 38, 3) := by decide +kernel
theorem dX2_takeBlock_28 : decode cX2_takeBlock 28 = .ok (.istore 8, 2) := by decide +kernel
theorem dX2_takeBlock_30 : decode cX2_takeBlock 30 = .ok (.aload_n 1, 1) := by decide +kernel
theorem dX2_takeBlock_31 : decode cX2_takeBlock 31 = .ok (.getfield 44, 3) := by decide +kernel
theorem dX2_takeBlock_34 : decode cX2_takeBlock 34 = .ok (.iload 7, 2) := by decide +kernel
theorem dX2_takeBlock_36 : decode cX2_takeBlock 36 = .ok (.iaload, 1) := by decide +kernel
theorem dX2_takeBlock_37 : decode cX2_takeBlock 37 = .ok (.iload 4, 2) := by decide +kernel
theorem dX2_takeBlock_39 : decode cX2_takeBlock 39 = .ok (.iadd, 1) := by decide +kernel
theorem dX2_takeBlock_40 : decode cX2_takeBlock 40 = .ok (.istore 9, 2) := by decide +kernel
theorem dX2_takeBlock_42 : decode cX2_takeBlock 42 = .ok (.iload 9, 2) := by decide +kernel
theorem dX2_takeBlock_44 : decode cX2_takeBlock 44 = .ok (.istore 10, 2) := by decide +kernel
theorem dX2_takeBlock_46 : decode cX2_takeBlock 46 = .ok (.iload 10, 2) := by decide +kernel
theorem dX2_takeBlock_48 : decode cX2_takeBlock 48 = .ok (.iload 9, 2) := by decide +kernel
theorem dX2_takeBlock_50 : decode cX2_takeBlock 50 = .ok (.iload 5, 2) := by decide +kernel
theorem dX2_takeBlock_52 : decode cX2_takeBlock 52 = .ok (.iadd, 1) := by decide +kernel
theorem dX2_takeBlock_53 : decode cX2_takeBlock 53 = .ok (.if_icmp .ge 53, 3) := by decide +kernel
theorem dX2_takeBlock_56 : decode cX2_takeBlock 56 = .ok (.aload_n 0, 1) := by decide +kernel
theorem dX2_takeBlock_57 : decode cX2_takeBlock 57 = .ok (.getfield 14, 3) := by decide +kernel
theorem dX2_takeBlock_60 : decode cX2_takeBlock 60 = .ok (.iload 10, 2) := by decide +kernel
theorem dX2_takeBlock_62 : decode cX2_takeBlock 62 = .ok (.iload 8, 2) := by decide +kernel
theorem dX2_takeBlock_64 : decode cX2_takeBlock 64 = .ok (.if_icmp .ge 13, 3) := by decide +kernel
theorem dX2_takeBlock_67 : decode cX2_takeBlock 67 = .ok (.aload_n 1, 1) := by decide +kernel
theorem dX2_takeBlock_68 : decode cX2_takeBlock 68 = .ok (.getfield 48, 3) := by decide +kernel
theorem dX2_takeBlock_71 : decode cX2_takeBlock 71 = .ok (.iload 10, 2) := by decide +kernel
theorem dX2_takeBlock_73 : decode cX2_takeBlock 73 = .ok (.baload, 1) := by decide +kernel
theorem dX2_takeBlock_74 : decode cX2_takeBlock 74 = .ok (.goto 5, 3) := by decide +kernel
theorem dX2_takeBlock_77 : decode cX2_takeBlock 77 = .ok (.bipush 32, 2) := by decide +kernel
theorem dX2_takeBlock_79 : decode cX2_takeBlock 79 = .ok (.invokevirtual 51, 3) := by decide +kernel
theorem dX2_takeBlock_82 : decode cX2_takeBlock 82 = .ok (.pop, 1) := by decide +kernel
theorem dX2_takeBlock_83 : decode cX2_takeBlock 83 = .ok (.iload 6, 2) := by decide +kernel
theorem dX2_takeBlock_85 : decode cX2_takeBlock 85 = .ok (.iload 10, 2) := by decide +kernel
theorem dX2_takeBlock_87 : decode cX2_takeBlock 87 = .ok (.iload 8, 2) := by decide +kernel
theorem dX2_takeBlock_89 : decode cX2_takeBlock 89 = .ok (.if_icmp .ge 7, 3) := by decide +kernel
theorem dX2_takeBlock_92 : decode cX2_takeBlock 92 = .ok (.iconst 1, 1) := by decide +kernel
theorem dX2_takeBlock_93 : decode cX2_takeBlock 93 = .ok (.goto 4, 3) := by decide +kernel
theorem dX2_takeBlock_96 : decode cX2_takeBlock 96 = .ok (.iconst 0, 1) := by decide +kernel
theorem dX2_takeBlock_97 : decode cX2_takeBlock 97 = .ok (.iadd, 1) := by decide +kernel
theorem dX2_takeBlock_98 : decode cX2_takeBlock 98 = .ok (.istore 6, 2) := by decide +kernel
theorem dX2_takeBlock_100 : decode cX2_takeBlock 100 = .ok (.iinc 10 1, 3) := by decide +kernel
theorem dX2_takeBlock_103 : decode cX2_takeBlock 103 = .ok (.goto (-57), 3) := by decide +kernel
theorem dX2_takeBlock_106 : decode cX2_takeBlock 106 = .ok (.iinc 7 1, 3) := by decide +kernel
theorem dX2_takeBlock_109 : decode cX2_takeBlock 109 = .ok (.goto (-95), 3) := by decide +kernel
theorem dX2_takeBlock_112 : decode cX2_takeBlock 112 = .ok (.aload_n 0, 1) := by decide +kernel
theorem dX2_takeBlock_113 : decode cX2_takeBlock 113 = .ok (.iconst 1, 1) := by decide +kernel
theorem dX2_takeBlock_114 : decode cX2_takeBlock 114 = .ok (.putfield 20, 3) := by decide +kernel
theorem dX2_takeBlock_117 : decode cX2_takeBlock 117 = .ok (.aload_n 0, 1) := by decide +kernel
theorem dX2_takeBlock_118 : decode cX2_takeBlock 118 = .ok (.iload_n 3, 1) := by decide +kernel
theorem dX2_takeBlock_119 : decode cX2_takeBlock 119 = .ok (.putfield 24, 3) := by decide +kernel
theorem dX2_takeBlock_122 : decode cX2_takeBlock 122 = .ok (.aload_n 0, 1) := by decide +kernel
theorem dX2_takeBlock_123 : decode cX2_takeBlock 123 = .ok (.iload 5, 2) := by decide +kernel
theorem dX2_takeBlock_125 : decode cX2_takeBlock 125 = .ok (.putfield 28, 3) := by decide +kernel
theorem dX2_takeBlock_128 : decode cX2_takeBlock 128 = .ok (.iload 6, 2) := by decide +kernel
theorem dX2_takeBlock_130 : decode cX2_takeBlock 130 = .ok (.ireturn, 1) := by decide +kernel
theorem dX2_planBlock_0 : decode cX2_planBlock 0 = .ok (.aload_n 1, 1) := by decide +kernel
theorem dX2_planBlock_1 : decode cX2_planBlock 1 = .ok (.aload_n 1, 1) := by decide +kernel
theorem dX2_planBlock_2 : decode cX2_planBlock 2 = .ok (.getfield 55, 3) := by decide +kernel
theorem dX2_planBlock_5 : decode cX2_planBlock 5 = .ok (.iconst 0, 1) := by decide +kernel
theorem dX2_planBlock_6 : decode cX2_planBlock 6 = .ok (.iaload, 1) := by decide +kernel
theorem dX2_planBlock_7 : decode cX2_planBlock 7 = .ok (.invokevirtual 58, 3) := by decide +kernel
theorem dX2_planBlock_10 : decode cX2_planBlock 10 = .ok (.istore_n 3, 1) := by decide +kernel
theorem dX2_planBlock_11 : decode cX2_planBlock 11 = .ok (.aload_n 1, 1) := by decide +kernel
theorem dX2_planBlock_12 : decode cX2_planBlock 12 = .ok (.getfield 55, 3) := by decide +kernel
theorem dX2_planBlock_15 : decode cX2_planBlock 15 = .ok (.iconst 0, 1) := by decide +kernel
theorem dX2_planBlock_16 : decode cX2_planBlock 16 = .ok (.iaload, 1) := by decide +kernel
theorem dX2_planBlock_17 : decode cX2_planBlock 17 = .ok (.aload_n 1, 1) := by decide +kernel
theorem dX2_planBlock_18 : decode cX2_planBlock 18 = .ok (.getfield 44, 3) := by decide +kernel
theorem dX2_planBlock_21 : decode cX2_planBlock 21 = .ok (.iload_n 3, 1) := by decide +kernel
theorem dX2_planBlock_22 : decode cX2_planBlock 22 = .ok (.iaload, 1) := by decide +kernel
theorem dX2_planBlock_23 : decode cX2_planBlock 23 = .ok (.isub, 1) := by decide +kernel
theorem dX2_planBlock_24 : decode cX2_planBlock 24 = .ok (.istore 4, 2) := by decide +kernel
theorem dX2_planBlock_26 : decode cX2_planBlock 26 = .ok (.aload_n 2, 1) := by decide +kernel
theorem dX2_planBlock_27 : decode cX2_planBlock 27 = .ok (.aload_n 0, 1) := by decide +kernel
theorem dX2_planBlock_28 : decode cX2_planBlock 28 = .ok (.getfield 14, 3) := by decide +kernel
theorem dX2_planBlock_31 : decode cX2_planBlock 31 = .ok (.getfield 61, 3) := by decide +kernel
theorem dX2_planBlock_34 : decode cX2_planBlock 34 = .ok (.iconst 0, 1) := by decide +kernel
theorem dX2_planBlock_35 : decode cX2_planBlock 35 = .ok (.iconst 0, 1) := by decide +kernel
theorem dX2_planBlock_36 : decode cX2_planBlock 36 = .ok (.invokevirtual 62, 3) := by decide +kernel
theorem dX2_planBlock_39 : decode cX2_planBlock 39 = .ok (.iconst 0, 1) := by decide +kernel
theorem dX2_planBlock_40 : decode cX2_planBlock 40 = .ok (.istore 5, 2) := by decide +kernel
theorem dX2_planBlock_42 : decode cX2_planBlock 42 = .ok (.iload 5, 2) := by decide +kernel
theorem dX2_planBlock_44 : decode cX2_planBlock 44 = .ok (.aload_n 0, 1) := by decide +kernel
theorem dX2_planBlock_45 : decode cX2_planBlock 45 = .ok (.getfield 24, 3) := by decide +kernel
theorem dX2_planBlock_48 : decode cX2_planBlock 48 = .ok (.if_icmp .ge 109, 3) := by decide +kernel
theorem dX2_planBlock_51 : decode cX2_planBlock 51 = .ok (.aload_n 2, 1) := by decide +kernel
theorem dX2_planBlock_52 : decode cX2_planBlock 52 = .ok (.getfield 67, 3) := by decide +kernel
theorem dX2_planBlock_55 : decode cX2_planBlock 55 = .ok (.ifCond .ne 102, 3) := by decide +kernel
theorem dX2_planBlock_58 : decode cX2_planBlock 58 = .ok (.iload 4, 2) := by decide +kernel
theorem dX2_planBlock_60 : decode cX2_planBlock 60 = .ok (.istore 6, 2) := by decide +kernel
theorem dX2_planBlock_62 : decode cX2_planBlock 62 = .ok (.iload_n 3, 1) := by decide +kernel
theorem dX2_planBlock_63 : decode cX2_planBlock 63 = .ok (.iload 5, 2) := by decide +kernel
theorem dX2_planBlock_65 : decode cX2_planBlock 65 = .ok (.iadd, 1) := by decide +kernel
theorem dX2_planBlock_66 : decode cX2_planBlock 66 = .ok (.aload_n 1, 1) := by decide +kernel
theorem dX2_planBlock_67 : decode cX2_planBlock 67 = .ok (.getfield 70, 3) := by decide +kernel
theorem dX2_planBlock_70 : decode cX2_planBlock 70 = .ok (.if_icmp .ge 58, 3) := by decide +kernel
theorem dX2_planBlock_73 : decode cX2_planBlock 73 = .ok (.aload_n 1, 1) := by decide +kernel
theorem dX2_planBlock_74 : decode cX2_planBlock 74 = .ok (.iload_n 3, 1) := by decide +kernel
theorem dX2_planBlock_75 : decode cX2_planBlock 75 = .ok (.iload 5, 2) := by decide +kernel
theorem dX2_planBlock_77 : decode cX2_planBlock 77 = .ok (.iadd, 1) := by decide +kernel
theorem dX2_planBlock_78 : decode cX2_planBlock 78 = .ok (.invokevirtual 38, 3) := by decide +kernel
theorem dX2_planBlock_81 : decode cX2_planBlock 81 = .ok (.istore 7, 2) := by decide +kernel
theorem dX2_planBlock_83 : decode cX2_planBlock 83 = .ok (.iload 7, 2) := by decide +kernel
theorem dX2_planBlock_85 : decode cX2_planBlock 85 = .ok (.aload_n 1, 1) := by decide +kernel
theorem dX2_planBlock_86 : decode cX2_planBlock 86 = .ok (.getfield 44, 3) := by decide +kernel
theorem dX2_planBlock_89 : decode cX2_planBlock 89 = .ok (.iload_n 3, 1) := by decide +kernel
theorem dX2_planBlock_90 : decode cX2_planBlock 90 = .ok (.iload 5, 2) := by decide +kernel
theorem dX2_planBlock_92 : decode cX2_planBlock 92 = .ok (.iadd, 1) := by decide +kernel
theorem dX2_planBlock_93 : decode cX2_planBlock 93 = .ok (.iaload, 1) := by decide +kernel
theorem dX2_planBlock_94 : decode cX2_planBlock 94 = .ok (.iload 4, 2) := by decide +kernel
theorem dX2_planBlock_96 : decode cX2_planBlock 96 = .ok (.iadd, 1) := by decide +kernel
theorem dX2_planBlock_97 : decode cX2_planBlock 97 = .ok (.invokestatic 73, 3) := by decide +kernel
theorem dX2_planBlock_100 : decode cX2_planBlock 100 = .ok (.istore 8, 2) := by decide +kernel
theorem dX2_planBlock_102 : decode cX2_planBlock 102 = .ok (.iload 4, 2) := by decide +kernel
theorem dX2_planBlock_104 : decode cX2_planBlock 104 = .ok (.iload 8, 2) := by decide +kernel
theorem dX2_planBlock_106 : decode cX2_planBlock 106 = .ok (.aload_n 1, 1) := by decide +kernel
theorem dX2_planBlock_107 : decode cX2_planBlock 107 = .ok (.getfield 44, 3) := by decide +kernel
theorem dX2_planBlock_110 : decode cX2_planBlock 110 = .ok (.iload_n 3, 1) := by decide +kernel
theorem dX2_planBlock_111 : decode cX2_planBlock 111 = .ok (.iload 5, 2) := by decide +kernel
theorem dX2_planBlock_113 : decode cX2_planBlock 113 = .ok (.iadd, 1) := by decide +kernel
theorem dX2_planBlock_114 : decode cX2_planBlock 114 = .ok (.iaload, 1) := by decide +kernel
theorem dX2_planBlock_115 : decode cX2_planBlock 115 = .ok (.isub, 1) := by decide +kernel
theorem dX2_planBlock_116 : decode cX2_planBlock 116 = .ok (.isub, 1) := by decide +kernel
theorem dX2_planBlock_117 : decode cX2_planBlock 117 = .ok (.istore 6, 2) := by decide +kernel
theorem dX2_planBlock_119 : decode cX2_planBlock 119 = .ok (.aload_n 2, 1) := by decide +kernel
theorem dX2_planBlock_120 : decode cX2_planBlock 120 = .ok (.iload 8, 2) := by decide +kernel
theorem dX2_planBlock_122 : decode cX2_planBlock 122 = .ok (.invokevirtual 79, 3) := by decide +kernel
theorem dX2_planBlock_125 : decode cX2_planBlock 125 = .ok (.goto 17, 3) := by decide +kernel
theorem dX2_planBlock_128 : decode cX2_planBlock 128 = .ok (.aload_n 2, 1) := by decide +kernel
theorem dX2_planBlock_129 : decode cX2_planBlock 129 = .ok (.aload_n 1, 1) := by decide +kernel
theorem dX2_planBlock_130 : decode cX2_planBlock 130 = .ok (.getfield 83, 3) := by decide +kernel
theorem dX2_planBlock_133 : decode cX2_planBlock 133 = .ok (.invokevirtual 79, 3) := by decide +kernel
theorem dX2_planBlock_136 : decode cX2_planBlock 136 = .ok (.aload_n 2, 1) := by decide +kernel
theorem dX2_planBlock_137 : decode cX2_planBlock 137 = .ok (.bipush 10, 2) := by decide +kernel
theorem dX2_planBlock_139 : decode cX2_planBlock 139 = .ok (.invokevirtual 84, 3) := by decide +kernel
theorem dX2_planBlock_142 : decode cX2_planBlock 142 = .ok (.aload_n 0, 1) := by decide +kernel
theorem dX2_planBlock_143 : decode cX2_planBlock 143 = .ok (.aload_n 2, 1) := by decide +kernel
theorem dX2_planBlock_144 : decode cX2_planBlock 144 = .ok (.iload 5, 2) := by decide +kernel
theorem dX2_planBlock_146 : decode cX2_planBlock 146 = .ok (.iload 6, 2) := by decide +kernel
theorem dX2_planBlock_148 : decode cX2_planBlock 148 = .ok (.invokevirtual 87, 3) := by decide +kernel
theorem dX2_planBlock_151 : decode cX2_planBlock 151 = .ok (.iinc 5 1, 3) := by decide +kernel
theorem dX2_planBlock_154 : decode cX2_planBlock 154 = .ok (.goto (-112), 3) := by decide +kernel
theorem dX2_planBlock_157 : decode cX2_planBlock 157 = .ok (.return_, 1) := by decide +kernel
theorem dX2_putRow_0 : decode cX2_putRow 0 = .ok (.iconst 0, 1) := by decide +kernel
theorem dX2_putRow_1 : decode cX2_putRow 1 = .ok (.istore 4, 2) := by decide +kernel
theorem dX2_putRow_3 : decode cX2_putRow 3 = .ok (.iload 4, 2) := by decide +kernel
theorem dX2_putRow_5 : decode cX2_putRow 5 = .ok (.iload_n 3, 1) := by decide +kernel
theorem dX2_putRow_6 : decode cX2_putRow 6 = .ok (.if_icmp .ge 22, 3) := by decide +kernel
theorem dX2_putRow_9 : decode cX2_putRow 9 = .ok (.aload_n 1, 1) := by decide +kernel
theorem dX2_putRow_10 : decode cX2_putRow 10 = .ok (.getfield 67, 3) := by decide +kernel
theorem dX2_putRow_13 : decode cX2_putRow 13 = .ok (.ifCond .ne 15, 3) := by decide +kernel
theorem dX2_putRow_16 : decode cX2_putRow 16 = .ok (.aload_n 1, 1) := by decide +kernel
theorem dX2_putRow_17 : decode cX2_putRow 17 = .ok (.bipush 32, 2) := by decide +kernel
theorem dX2_putRow_19 : decode cX2_putRow 19 = .ok (.invokevirtual 84, 3) := by decide +kernel
theorem dX2_putRow_22 : decode cX2_putRow 22 = .ok (.iinc 4 1, 3) := by decide +kernel
theorem dX2_putRow_25 : decode cX2_putRow 25 = .ok (.goto (-22), 3) := by decide +kernel
theorem dX2_putRow_28 : decode cX2_putRow 28 = .ok (.iload_n 2, 1) := by decide +kernel
theorem dX2_putRow_29 : decode cX2_putRow 29 = .ok (.aload_n 0, 1) := by decide +kernel
theorem dX2_putRow_30 : decode cX2_putRow 30 = .ok (.getfield 28, 3) := by decide +kernel
theorem dX2_putRow_33 : decode cX2_putRow 33 = .ok (.imul, 1) := by decide +kernel
theorem dX2_putRow_34 : decode cX2_putRow 34 = .ok (.istore 4, 2) := by decide +kernel
theorem dX2_putRow_36 : decode cX2_putRow 36 = .ok (.iload 4, 2) := by decide +kernel
theorem dX2_putRow_38 : decode cX2_putRow 38 = .ok (.iload_n 2, 1) := by decide +kernel
theorem dX2_putRow_39 : decode cX2_putRow 39 = .ok (.iconst 1, 1) := by decide +kernel
theorem dX2_putRow_40 : decode cX2_putRow 40 = .ok (.iadd, 1) := by decide +kernel
theorem dX2_putRow_41 : decode cX2_putRow 41 = .ok (.aload_n 0, 1) := by decide +kernel
theorem dX2_putRow_42 : decode cX2_putRow 42 = .ok (.getfield 28, 3) := by decide +kernel
theorem dX2_putRow_45 : decode cX2_putRow 45 = .ok (.imul, 1) := by decide +kernel
theorem dX2_putRow_46 : decode cX2_putRow 46 = .ok (.if_icmp .ge 30, 3) := by decide +kernel
theorem dX2_putRow_49 : decode cX2_putRow 49 = .ok (.aload_n 1, 1) := by decide +kernel
theorem dX2_putRow_50 : decode cX2_putRow 50 = .ok (.getfield 67, 3) := by decide +kernel
theorem dX2_putRow_53 : decode cX2_putRow 53 = .ok (.ifCond .ne 23, 3) := by decide +kernel
theorem dX2_putRow_56 : decode cX2_putRow 56 = .ok (.aload_n 1, 1) := by decide +kernel
theorem dX2_putRow_57 : decode cX2_putRow 57 = .ok (.aload_n 0, 1) := by decide +kernel
theorem dX2_putRow_58 : decode cX2_putRow 58 = .ok (.getfield 14, 3) := by decide +kernel
theorem dX2_putRow_61 : decode cX2_putRow 61 = .ok (.getfield 61, 3) := by decide +kernel
theorem dX2_putRow_64 : decode cX2_putRow 64 = .ok (.iload 4, 2) := by decide +kernel
theorem dX2_putRow_66 : decode cX2_putRow 66 = .ok (.baload, 1) := by decide +kernel
theorem dX2_putRow_67 : decode cX2_putRow 67 = .ok (.invokevirtual 84, 3) := by decide +kernel
theorem dX2_putRow_70 : decode cX2_putRow 70 = .ok (.iinc 4 1, 3) := by decide +kernel
theorem dX2_putRow_73 : decode cX2_putRow 73 = .ok (.goto (-37), 3) := by decide +kernel
theorem dX2_putRow_76 : decode cX2_putRow 76 = .ok (.return_, 1) := by decide +kernel
theorem dX3_init_0 : decode cX3_init 0 = .ok (.aload_n 0, 1) := by decide +kernel
theorem dX3_init_1 : decode cX3_init 1 = .ok (.invokespecial 3, 3) := by decide +kernel
theorem dX3_init_4 : decode cX3_init 4 = .ok (.aload_n 0, 1) := by decide +kernel
theorem dX3_init_5 : decode cX3_init 5 = .ok (.new 9, 3) := by decide +kernel
theorem dX3_init_8 : decode cX3_init 8 = .ok (.dup, 1) := by decide +kernel
theorem dX3_init_9 : decode cX3_init 9 = .ok (.invokespecial 11, 3) := by decide +kernel
theorem dX3_init_12 : decode cX3_init 12 = .ok (.putfield 12, 3) := by decide +kernel
theorem dX3_init_15 : decode cX3_init 15 = .ok (.aload_n 0, 1) := by decide +kernel
theorem dX3_init_16 : decode cX3_init 16 = .ok (.new 9, 3) := by decide +kernel
theorem dX3_init_19 : decode cX3_init 19 = .ok (.dup, 1) := by decide +kernel
theorem dX3_init_20 : decode cX3_init 20 = .ok (.invokespecial 11, 3) := by decide +kernel
theorem dX3_init_23 : decode cX3_init 23 = .ok (.putfield 18, 3) := by decide +kernel
theorem dX3_init_26 : decode cX3_init 26 = .ok (.aload_n 0, 1) := by decide +kernel
theorem dX3_init_27 : decode cX3_init 27 = .ok (.sipush 300, 3) := by decide +kernel
theorem dX3_init_30 : decode cX3_init 30 = .ok (.newarray .int, 2) := by decide +kernel
theorem dX3_init_32 : decode cX3_init 32 = .ok (.putfield 21, 3) := by decide +kernel
theorem dX3_init_35 : decode cX3_init 35 = .ok (.aload_n 0, 1) := by decide +kernel
theorem dX3_init_36 : decode cX3_init 36 = .ok (.sipush 300, 3) := by decide +kernel
theorem dX3_init_39 : decode cX3_init 39 = .ok (.newarray .int, 2) := by decide +kernel
theorem dX3_init_41 : decode cX3_init 41 = .ok (.putfield 25, 3) := by decide +kernel
theorem dX3_init_44 : decode cX3_init 44 = .ok (.aload_n 0, 1) := by decide +kernel
theorem dX3_init_45 : decode cX3_init 45 = .ok (.sipush 301, 3) := by decide +kernel
theorem dX3_init_48 : decode cX3_init 48 = .ok (.newarray .int, 2) := by decide +kernel
theorem dX3_init_50 : decode cX3_init 50 = .ok (.putfield 28, 3) := by decide +kernel
theorem dX3_init_53 : decode cX3_init 53 = .ok (.return_, 1) := by decide +kernel
theorem dX3_countSame_0 : decode cX3_countSame 0 = .ok (.aload_n 0, 1) := by decide +kernel
theorem dX3_countSame_1 : decode cX3_countSame 1 = .ok (.getfield 12, 3) := by decide +kernel
theorem dX3_countSame_4 : decode cX3_countSame 4 = .ok (.aload_n 0, 1) := by decide +kernel
theorem dX3_countSame_5 : decode cX3_countSame 5 = .ok (.getfield 21, 3) := by decide +kernel
theorem dX3_countSame_8 : decode cX3_countSame 8 = .ok (.invokestatic 31, 3) := by decide +kernel
theorem dX3_countSame_11 : decode cX3_countSame 11 = .ok (.aload_n 1, 1) := by decide +kernel
theorem dX3_countSame_12 : decode cX3_countSame 12 = .ok (.aload_n 0, 1) := by decide +kernel
theorem dX3_countSame_13 : decode cX3_countSame 13 = .ok (.getfield 25, 3) := by decide +kernel
theorem dX3_countSame_16 : decode cX3_countSame 16 = .ok (.invokestatic 31, 3) := by decide +kernel
theorem dX3_countSame_19 : decode cX3_countSame 19 = .ok (.iconst 0, 1) := by decide +kernel
theorem dX3_countSame_20 : decode cX3_countSame 20 = .ok (.istore_n 2, 1) := by decide +kernel
theorem dX3_countSame_21 : decode cX3_countSame 21 = .ok (.iload_n 2, 1) := by decide +kernel
theorem dX3_countSame_22 : decode cX3_countSame 22 = .ok (.aload_n 1, 1) := by decide +kernel
theorem dX3_countSame_23 : decode cX3_countSame 23 = .ok (.getfield 35, 3) := by decide +kernel
theorem dX3_countSame_26 : decode cX3_countSame 26 = .ok (.if_icmp .gt 16, 3) := by decide +kernel
theorem dX3_countSame_29 : decode cX3_countSame 29 = .ok (.aload_n 0, 1) := by decide +kernel
theorem dX3_countSame_30 : decode cX3_countSame 30 = .ok (.getfield 28, 3) := by decide +kernel
theorem dX3_countSame_33 : decode cX3_countSame 33 = .ok (.iload_n 2, 1) := by decide +kernel
theorem dX3_countSame_34 : decode cX3_countSame 34 = .ok (.iconst 0, 1) := by decide +kernel
theorem dX3_countSame_35 : decode cX3_countSame 35 = .ok (.iastore, 1) := by decide +kernel
theorem dX3_countSame_36 : decode cX3_countSame 36 = .ok (.iinc 2 1, 3) := by decide +kernel
theorem dX3_countSame_39 : decode cX3_countSame 39 = .ok (.goto (-18), 3) := by decide +kernel
theorem dX3_countSame_42 : decode cX3_countSame 42 = .ok (.iconst 0, 1) := by decide +kernel
theorem dX3_countSame_43 : decode cX3_countSame 43 = .ok (.istore_n 2, 1) := by decide +kernel
theorem dX3_countSame_44 : decode cX3_countSame 44 = .ok (.iload_n 2, 1) := by decide +kernel
theorem dX3_countSame_45 : decode cX3_countSame 45 = .ok (.aload_n 0, 1) := by decide +kernel
theorem dX3_countSame_46 : decode cX3_countSame 46 = .ok (.getfield 12, 3) := by decide +kernel
theorem dX3_countSame_49 : decode cX3_countSame 49 = .ok (.getfield 35, 3) := by decide +kernel
theorem dX3_countSame_52 : decode cX3_countSame 52 = .ok (.if_icmp .ge 90, 3) := by decide +kernel
theorem dX3_countSame_55 : decode cX3_countSame 55 = .ok (.iconst 0, 1) := by decide +kernel
theorem dX3_countSame_56 : decode cX3_countSame 56 = .ok (.istore_n 3, 1) := by decide +kernel
theorem dX3_countSame_57 : decode cX3_countSame 57 = .ok (.iconst 0, 1) := by decide +kernel
theorem dX3_countSame_58 : decode cX3_countSame 58 = .ok (.istore 4, 2) := by decide +kernel
theorem dX3_countSame_60 : decode cX3_countSame 60 = .ok (.iload 4, 2) := by decide +kernel
theorem dX3_countSame_62 : decode cX3_countSame 62 = .ok (.aload_n 1, 1) := by decide +kernel
theorem dX3_countSame_63 : decode cX3_countSame 63 = .ok (.getfield 35, 3) := by decide +kernel
theorem dX3_countSame_66 : decode cX3_countSame 66 = .ok (.if_icmp .ge 70, 3) := by decide +kernel
theorem dX3_countSame_69 : decode cX3_countSame 69 = .ok (.aload_n 0, 1) := by decide +kernel
theorem dX3_countSame_70 : decode cX3_countSame 70 = .ok (.getfield 28, 3) := by decide +kernel
theorem dX3_countSame_73 : decode cX3_countSame 73 = .ok (.iload 4, 2) := by decide +kernel
theorem dX3_countSame_75 : decode cX3_countSame 75 = .ok (.iconst 1, 1) := by decide +kernel
theorem dX3_countSame_76 : decode cX3_countSame 76 = .ok (.iadd, 1) := by decide +kernel
theorem dX3_countSame_77 : decode cX3_countSame 77 = .ok (.iaload, 1) := by decide +kernel
theorem dX3_countSame_78 : decode cX3_countSame 78 = .ok (.istore 5, 2) := by decide +kernel
theorem dX3_countSame_80 : decode cX3_countSame 80 = .ok (.aload_n 0, 1) := by decide +kernel
theorem dX3_countSame_81 : decode cX3_countSame 81 = .ok (.iload_n 2, 1) := by decide +kernel
theorem dX3_countSame_82 : decode cX3_countSame 82 = .ok (.aload_n 1, 1) := by decide +kernel
theorem dX3_countSame_83 : decode cX3_countSame 83 = .ok (.iload 4, 2) := by decide +kernel
theorem dX3_countSame_85 : decode cX3_countSame 85 = .ok (.invokevirtual 39, 3) := by decide +kernel
theorem dX3_countSame_88 : decode cX3_countSame 88 = .ok (.ifCond .eq 18, 3) := by decide +kernel
theorem dX3_countSame_91 : decode cX3_countSame 91 = .ok (.aload_n 0, 1) := by decide +kernel
theorem dX3_countSame_92 : decode cX3_countSame 92 = .ok (.getfield 28, 3) := by decide +kernel
theorem dX3_countSame_95 : decode cX3_countSame 95 = .ok (.iload 4, 2) := by decide +kernel
theorem dX3_countSame_97 : decode cX3_countSame 97 = .ok (.iconst 1, 1) := by decide +kernel
theorem dX3_countSame_98 : decode cX3_countSame 98 = .ok (.iadd, 1) := by decide +kernel
theorem dX3_countSame_99 : decode cX3_countSame 99 = .ok (.iload_n 3, 1) := by decide +kernel
theorem dX3_countSame_100 : decode cX3_countSame 100 = .ok (.iconst 1, 1) := by decide +kernel
theorem dX3_countSame_101 : decode cX3_countSame 101 = .ok (.iadd, 1) := by decide +kernel
theorem dX3_countSame_102 : decode cX3_countSame 102 = .ok (.iastore, 1) := by decide +kernel
theorem dX3_countSame_103 : decode cX3_countSame 103 = .ok (.goto 24, 3) := by decide +kernel
theorem dX3_countSame_106 : decode cX3_countSame 106 = .ok (.aload_n 0, 1) := by decide +kernel
theorem dX3_countSame_107 : decode cX3_countSame 107 = .ok (.getfield 28, 3) := by decide +kernel
theorem dX3_countSame_110 : decode cX3_countSame 110 = .ok (.iload 4, 2) := by decide +kernel
theorem dX3_countSame_112 : decode cX3_countSame 112 = .ok (.iconst 1, 1) := by decide +kernel
theorem dX3_countSame_113 : decode cX3_countSame 113 = .ok (.iadd, 1) := by decide +kernel
theorem dX3_countSame_114 : decode cX3_countSame 114 = .ok (.iload 5, 2) := by decide +kernel
theorem dX3_countSame_116 : decode cX3_countSame 116 = .ok (.aload_n 0, 1) := by decide +kernel
theorem dX3_countSame_117 : decode cX3_countSame 117 = .ok (.getfield 28, 3) := by decide +kernel
theorem dX3_countSame_120 : decode cX3_countSame 120 = .ok (.iload 4, 2) := by decide +kernel
theorem dX3_countSame_122 : decode cX3_countSame 122 = .ok (.iaload, 1) := by decide +kernel
theorem dX3_countSame_123 : decode cX3_countSame 123 = .ok (.invokestatic 43, 3) := by decide +kernel
theorem dX3_countSame_126 : decode cX3_countSame 126 = .ok (.iastore, 1) := by decide +kernel
theorem dX3_countSame_127 : decode cX3_countSame 127 = .ok (.iload 5, 2) := by decide +kernel
theorem dX3_countSame_129 : decode cX3_countSame 129 = .ok (.istore_n 3, 1) := by decide +kernel
theorem dX3_countSame_130 : decode cX3_countSame 130 = .ok (.iinc 4 1, 3) := by decide +kernel
theorem dX3_countSame_133 : decode cX3_countSame 133 = .ok (.goto (-73), 3) := by decide +kernel
theorem dX3_countSame_136 : decode cX3_countSame 136 = .ok (.iinc 2 1, 3) := by decide +kernel
theorem dX3_countSame_139 : decode cX3_countSame 139 = .ok (.goto (-95), 3) := by decide +kernel
theorem dX3_countSame_142 : decode cX3_countSame 142 = .ok (.aload_n 0, 1) := by decide +kernel
theorem dX3_countSame_143 : decode cX3_countSame 143 = .ok (.getfield 28, 3) := by decide +kernel
theorem dX3_countSame_146 : decode cX3_countSame 146 = .ok (.aload_n 1, 1) := by decide +kernel
theorem dX3_countSame_147 : decode cX3_countSame 147 = .ok (.getfield 35, 3) := by decide +kernel
theorem dX3_countSame_150 : decode cX3_countSame 150 = .ok (.iaload, 1) := by decide +kernel
theorem dX3_countSame_151 : decode cX3_countSame 151 = .ok (.ireturn, 1) := by decide +kernel
theorem dX3_fillSums_0 : decode cX3_fillSums 0 = .ok (.iconst 0, 1) := by decide +kernel
theorem dX3_fillSums_1 : decode cX3_fillSums 1 = .ok (.istore_n 2, 1) := by decide +kernel
theorem dX3_fillSums_2 : decode cX3_fillSums 2 = .ok (.iload_n 2, 1) := by decide +kernel
theorem dX3_fillSums_3 : decode cX3_fillSums 3 = .ok (.aload_n 0, 1) := by decide +kernel
theorem dX3_fillSums_4 : decode cX3_fillSums 4 = .ok (.getfield 35, 3) := by decide +kernel
theorem dX3_fillSums_7 : decode cX3_fillSums 7 = .ok (.if_icmp .ge 27, 3) := by decide +kernel
theorem dX3_fillSums_10 : decode cX3_fillSums 10 = .ok (.aload_n 1, 1) := by decide +kernel
theorem dX3_fillSums_11 : decode cX3_fillSums 11 = .ok (.iload_n 2, 1) := by decide +kernel
theorem dX3_fillSums_12 : decode cX3_fillSums 12 = .ok (.aload_n 0, 1) := by decide +kernel
theorem dX3_fillSums_13 : decode cX3_fillSums 13 = .ok (.aload_n 0, 1) := by decide +kernel
theorem dX3_fillSums_14 : decode cX3_fillSums 14 = .ok (.getfield 49, 3) := by decide +kernel
theorem dX3_fillSums_17 : decode cX3_fillSums 17 = .ok (.iload_n 2, 1) := by decide +kernel
theorem dX3_fillSums_18 : decode cX3_fillSums 18 = .ok (.iaload, 1) := by decide +kernel
theorem dX3_fillSums_19 : decode cX3_fillSums 19 = .ok (.aload_n 0, 1) := by decide +kernel
theorem dX3_fillSums_20 : decode cX3_fillSums 20 = .ok (.iload_n 2, 1) := by decide +kernel
theorem dX3_fillSums_21 : decode cX3_fillSums 21 = .ok (.invokevirtual 52, 3) := by decide +kernel
theorem dX3_fillSums_24 : decode cX3_fillSums 24 = .ok (.invokevirtual 56, 3) := by decide +kernel
theorem dX3_fillSums_27 : decode cX3_fillSums 27 = .ok (.iastore, 1) := by decide +kernel
theorem dX3_fillSums_28 : decode cX3_fillSums 28 = .ok (.iinc 2 1, 3) := by decide +kernel
theorem dX3_fillSums_31 : decode cX3_fillSums 31 = .ok (.goto (-29), 3) := by decide +kernel
theorem dX3_fillSums_34 : decode cX3_fillSums 34 = .ok (.return_, 1) := by decide +kernel
theorem dX3_isSame_0 : decode cX3_isSame 0 = .ok (.aload_n 0, 1) := by decide +kernel
theorem dX3_isSame_1 : decode cX3_isSame 1 = .ok (.getfield 21, 3) := by decide +kernel
theorem dX3_isSame_4 : decode cX3_isSame 4 = .ok (.iload_n 1, 1) := by decide +kernel
theorem dX3_isSame_5 : decode cX3_isSame 5 = .ok (.iaload, 1) := by decide +kernel
theorem dX3_isSame_6 : decode cX3_isSame 6 = .ok (.aload_n 0, 1) := by decide +kernel
theorem dX3_isSame_7 : decode cX3_isSame 7 = .ok (.getfield 25, 3) := by decide +kernel
theorem dX3_isSame_10 : decode cX3_isSame 10 = .ok (.iload_n 3, 1) := by decide +kernel
theorem dX3_isSame_11 : decode cX3_isSame 11 = .ok (.iaload, 1) := by decide +kernel
theorem dX3_isSame_12 : decode cX3_isSame 12 = .ok (.if_icmp .eq 5, 3) := by decide +kernel
theorem dX3_isSame_15 : decode cX3_isSame 15 = .ok (.iconst 0, 1) := by decide +kernel
theorem dX3_isSame_16 : decode cX3_isSame 16 = .ok (.ireturn, 1) := by decide +kernel
theorem dX3_isSame_17 : decode cX3_isSame 17 = .ok (.aload_n 0, 1) := by decide +kernel
theorem dX3_isSame_18 : decode cX3_isSame 18 = .ok (.getfield 12, 3) := by decide +kernel
theorem dX3_isSame_21 : decode cX3_isSame 21 = .ok (.getfield 49, 3) := by decide +kernel
theorem dX3_isSame_24 : decode cX3_isSame 24 = .ok (.iload_n 1, 1) := by decide +kernel
theorem dX3_isSame_25 : decode cX3_isSame 25 = .ok (.iaload, 1) := by decide +kernel
theorem dX3_isSame_26 : decode cX3_isSame 26 = .ok (.istore 4, 2) := by decide +kernel
theorem dX3_isSame_28 : decode cX3_isSame 28 = .ok (.aload_n 2, 1) := by decide +kernel
theorem dX3_isSame_29 : decode cX3_isSame 29 = .ok (.getfield 49, 3) := by decide +kernel
theorem dX3_isSame_32 : decode cX3_isSame 32 = .ok (.iload_n 3, 1) := by decide +kernel
theorem dX3_isSame_33 : decode cX3_isSame 33 = .ok (.iaload, 1) := by decide +kernel
theorem dX3_isSame_34 : decode cX3_isSame 34 = .ok (.istore 5, 2) := by decide +kernel
theorem dX3_isSame_36 : decode cX3_isSame 36 = .ok (.aload_n 2, 1) := by decide +kernel
theorem dX3_isSame_37 : decode cX3_isSame 37 = .ok (.iload_n 3, 1) := by decide +kernel
theorem dX3_isSame_38 : decode cX3_isSame 38 = .ok (.invokevirtual 52, 3) := by decide +kernel
theorem dX3_isSame_41 : decode cX3_isSame 41 = .ok (.iload 5, 2) := by decide +kernel
theorem dX3_isSame_43 : decode cX3_isSame 43 = .ok (.isub, 1) := by decide +kernel
theorem dX3_isSame_44 : decode cX3_isSame 44 = .ok (.istore 6, 2) := by decide +kernel
theorem dX3_isSame_46 : decode cX3_isSame 46 = .ok (.aload_n 0, 1) := by decide +kernel
theorem dX3_isSame_47 : decode cX3_isSame 47 = .ok (.getfield 12, 3) := by decide +kernel
theorem dX3_isSame_50 : decode cX3_isSame 50 = .ok (.iload_n 1, 1) := by decide +kernel
theorem dX3_isSame_51 : decode cX3_isSame 51 = .ok (.invokevirtual 52, 3) := by decide +kernel
theorem dX3_isSame_54 : decode cX3_isSame 54 = .ok (.iload 4, 2) := by decide +kernel
theorem dX3_isSame_56 : decode cX3_isSame 56 = .ok (.isub, 1) := by decide +kernel
theorem dX3_isSame_57 : decode cX3_isSame 57 = .ok (.iload 6, 2) := by decide +kernel
theorem dX3_isSame_59 : decode cX3_isSame 59 = .ok (.if_icmp .ne 7, 3) := by decide +kernel
theorem dX3_isSame_62 : decode cX3_isSame 62 = .ok (.iconst 1, 1) := by decide +kernel
theorem dX3_isSame_63 : decode cX3_isSame 63 = .ok (.goto 4, 3) := by decide +kernel
theorem dX3_isSame_66 : decode cX3_isSame 66 = .ok (.iconst 0, 1) := by decide +kernel
theorem dX3_isSame_67 : decode cX3_isSame 67 = .ok (.istore 7, 2) := by decide +kernel
theorem dX3_isSame_69 : decode cX3_isSame 69 = .ok (.iconst 0, 1) := by decide +kernel
theorem dX3_isSame_70 : decode cX3_isSame 70 = .ok (.istore 8, 2) := by decide +kernel
theorem dX3_isSame_72 : decode cX3_isSame 72 = .ok (.iload 7, 2) := by decide +kernel
theorem dX3_isSame_74 : decode cX3_isSame 74 = .ok (.ifCond .eq 49, 3) := by decide +kernel
theorem dX3_isSame_77 : decode cX3_isSame 77 = .ok (.iload 8, 2) := by decide +kernel
theorem dX3_isSame_79 : decode cX3_isSame 79 = .ok (.iload 6, 2) := by decide +kernel
theorem dX3_isSame_81 : decode cX3_isSame 81 = .ok (.if_icmp .ge 42, 3) := by decide +kernel
theorem dX3_isSame_84 : decode cX3_isSame 84 = .ok (.aload_n 0, 1) := by decide +kernel
theorem dX3_isSame_85 : decode cX3_isSame 85 = .ok (.getfield 12, 3) := by decide +kernel
theorem dX3_isSame_88 : decode cX3_isSame 88 = .ok (.getfield 59, 3) := by decide +kernel
theorem dX3_isSame_91 : decode cX3_isSame 91 = .ok (.iload 4, 2) := by decide +kernel
theorem dX3_isSame_93 : decode cX3_isSame 93 = .ok (.iload 8, 2) := by decide +kernel
theorem dX3_isSame_95 : decode cX3_isSame 95 = .ok (.iadd, 1) := by decide +kernel
theorem dX3_isSame_96 : decode cX3_isSame 96 = .ok (.baload, 1) := by decide +kernel
theorem dX3_isSame_97 : decode cX3_isSame 97 = .ok (.aload_n 2, 1) := by decide +kernel
theorem dX3_isSame_98 : decode cX3_isSame 98 = .ok (.getfield 59, 3) := by decide +kernel
theorem dX3_isSame_101 : decode cX3_isSame 101 = .ok (.iload 5, 2) := by decide +kernel
theorem dX3_isSame_103 : decode cX3_isSame 103 = .ok (.iload 8, 2) := by decide +kernel
theorem dX3_isSame_105 : decode cX3_isSame 105 = .ok (.iadd, 1) := by decide +kernel
theorem dX3_isSame_106 : decode cX3_isSame 106 = .ok (.baload, 1) := by decide +kernel
theorem dX3_isSame_107 : decode cX3_isSame 107 = .ok (.if_icmp .ne 7, 3) := by decide +kernel
theorem dX3_isSame_110 : decode cX3_isSame 110 = .ok (.iconst 1, 1) := by decide +kernel
theorem dX3_isSame_111 : decode cX3_isSame 111 = .ok (.goto 4, 3) := by decide +kernel
theorem dX3_isSame_114 : decode cX3_isSame 114 = .ok (.iconst 0, 1) := by decide +kernel
theorem dX3_isSame_115 : decode cX3_isSame 115 = .ok (.istore 7, 2) := by decide +kernel
theorem dX3_isSame_117 : decode cX3_isSame 117 = .ok (.iinc 8 1, 3) := by decide +kernel
theorem dX3_isSame_120 : decode cX3_isSame 120 = .ok (.goto (-48), 3) := by decide +kernel
theorem dX3_isSame_123 : decode cX3_isSame 123 = .ok (.iload 7, 2) := by decide +kernel
theorem dX3_isSame_125 : decode cX3_isSame 125 = .ok (.ireturn, 1) := by decide +kernel
theorem dX4_init_0 : decode cX4_init 0 = .ok (.aload_n 0, 1) := by decide +kernel
theorem dX4_init_1 : decode cX4_init 1 = .ok (.invokespecial 3, 3) := by decide +kernel
theorem dX4_init_4 : decode cX4_init 4 = .ok (.aload_n 0, 1) := by decide +kernel
theorem dX4_init_5 : decode cX4_init 5 = .ok (.sipush 150, 3) := by decide +kernel
theorem dX4_init_8 : decode cX4_init 8 = .ok (.anewarray 9, 3) := by decide +kernel
theorem dX4_init_11 : decode cX4_init 11 = .ok (.putfield 11, 3) := by decide +kernel
theorem dX4_init_14 : decode cX4_init 14 = .ok (.aload_n 0, 1) := by decide +kernel
theorem dX4_init_15 : decode cX4_init 15 = .ok (.iconst 0, 1) := by decide +kernel
theorem dX4_init_16 : decode cX4_init 16 = .ok (.putfield 17, 3) := by decide +kernel
theorem dX4_init_19 : decode cX4_init 19 = .ok (.aload_n 0, 1) := by decide +kernel
theorem dX4_init_20 : decode cX4_init 20 = .ok (.new 9, 3) := by decide +kernel
theorem dX4_init_23 : decode cX4_init 23 = .ok (.dup, 1) := by decide +kernel
theorem dX4_init_24 : decode cX4_init 24 = .ok (.invokespecial 21, 3) := by decide +kernel
theorem dX4_init_27 : decode cX4_init 27 = .ok (.putfield 22, 3) := by decide +kernel
theorem dX4_init_30 : decode cX4_init 30 = .ok (.aload_n 0, 1) := by decide +kernel
theorem dX4_init_31 : decode cX4_init 31 = .ok (.iconst 0, 1) := by decide +kernel
theorem dX4_init_32 : decode cX4_init 32 = .ok (.putfield 26, 3) := by decide +kernel
theorem dX4_init_35 : decode cX4_init 35 = .ok (.aload_n 0, 1) := by decide +kernel
theorem dX4_init_36 : decode cX4_init 36 = .ok (.iconst 0, 1) := by decide +kernel
theorem dX4_init_37 : decode cX4_init 37 = .ok (.putfield 30, 3) := by decide +kernel
theorem dX4_init_40 : decode cX4_init 40 = .ok (.iconst 0, 1) := by decide +kernel
theorem dX4_init_41 : decode cX4_init 41 = .ok (.istore_n 1, 1) := by decide +kernel
theorem dX4_init_42 : decode cX4_init 42 = .ok (.iload_n 1, 1) := by decide +kernel
theorem dX4_init_43 : decode cX4_init 43 = .ok (.sipush 150, 3) := by decide +kernel
theorem dX4_init_46 : decode cX4_init 46 = .ok (.if_icmp .ge 22, 3) := by decide +kernel
theorem dX4_init_49 : decode cX4_init 49 = .ok (.aload_n 0, 1) := by decide +kernel
theorem dX4_init_50 : decode cX4_init 50 = .ok (.getfield 11, 3) := by decide +kernel
theorem dX4_init_53 : decode cX4_init 53 = .ok (.iload_n 1, 1) := by decide +kernel
theorem dX4_init_54 : decode cX4_init 54 = .ok (.new 9, 3) := by decide +kernel
theorem dX4_init_57 : decode cX4_init 57 = .ok (.dup, 1) := by decide +kernel
theorem dX4_init_58 : decode cX4_init 58 = .ok (.invokespecial 21, 3) := by decide +kernel
theorem dX4_init_61 : decode cX4_init 61 = .ok (.aastore, 1) := by decide +kernel
theorem dX4_init_62 : decode cX4_init 62 = .ok (.iinc 1 1, 3) := by decide +kernel
theorem dX4_init_65 : decode cX4_init 65 = .ok (.goto (-23), 3) := by decide +kernel
theorem dX4_init_68 : decode cX4_init 68 = .ok (.return_, 1) := by decide +kernel
theorem dX4_closeGroup_0 : decode cX4_closeGroup 0 = .ok (.aload_n 0, 1) := by decide +kernel
theorem dX4_closeGroup_1 : decode cX4_closeGroup 1 = .ok (.iconst 0, 1) := by decide +kernel
theorem dX4_closeGroup_2 : decode cX4_closeGroup 2 = .ok (.putfield 26, 3) := by decide +kernel
theorem dX4_closeGroup_5 : decode cX4_closeGroup 5 = .ok (.aload_n 0, 1) := by decide +kernel
theorem dX4_closeGroup_6 : decode cX4_closeGroup 6 = .ok (.iconst 0, 1) := by decide +kernel
theorem dX4_closeGroup_7 : decode cX4_closeGroup 7 = .ok (.putfield 30, 3) := by decide +kernel
theorem dX4_closeGroup_10 : decode cX4_closeGroup 10 = .ok (.return_, 1) := by decide +kernel
theorem dX4_hasRoom_0 : decode cX4_hasRoom 0 = .ok (.aload_n 0, 1) := by decide +kernel
theorem dX4_hasRoom_1 : decode cX4_hasRoom 1 = .ok (.getfield 30, 3) := by decide +kernel
theorem dX4_hasRoom_4 : decode cX4_hasRoom 4 = .ok (.ifCond .ne 13, 3) := by decide +kernel
theorem dX4_hasRoom_7 : decode cX4_hasRoom 7 = .ok (.aload_n 0, 1) := by decide +kernel
theorem dX4_hasRoom_8 : decode cX4_hasRoom 8 = .ok (.getfield 17, 3) := by decide +kernel
theorem dX4_hasRoom_11 : decode cX4_hasRoom 11 = .ok (.sipush 150, 3) := by decide +kernel
theorem dX4_hasRoom_14 : decode cX4_hasRoom 14 = .ok (.if_icmp .ge 7, 3) := by decide +kernel
theorem dX4_hasRoom_17 : decode cX4_hasRoom 17 = .ok (.iconst 1, 1) := by decide +kernel
theorem dX4_hasRoom_18 : decode cX4_hasRoom 18 = .ok (.goto 4, 3) := by decide +kernel
theorem dX4_hasRoom_21 : decode cX4_hasRoom 21 = .ok (.iconst 0, 1) := by decide +kernel
theorem dX4_hasRoom_22 : decode cX4_hasRoom 22 = .ok (.ireturn, 1) := by decide +kernel
theorem dX4_keepAct_0 : decode cX4_keepAct 0 = .ok (.aload_n 0, 1) := by decide +kernel
theorem dX4_keepAct_1 : decode cX4_keepAct 1 = .ok (.getfield 17, 3) := by decide +kernel
theorem dX4_keepAct_4 : decode cX4_keepAct 4 = .ok (.sipush 150, 3) := by decide +kernel
theorem dX4_keepAct_7 : decode cX4_keepAct 7 = .ok (.if_icmp .ge 15, 3) := by decide +kernel
theorem dX4_keepAct_10 : decode cX4_keepAct 10 = .ok (.aload_n 0, 1) := by decide +kernel
theorem dX4_keepAct_11 : decode cX4_keepAct 11 = .ok (.getfield 11, 3) := by decide +kernel
theorem dX4_keepAct_14 : decode cX4_keepAct 14 = .ok (.aload_n 0, 1) := by decide +kernel
theorem dX4_keepAct_15 : decode cX4_keepAct 15 = .ok (.getfield 17, 3) := by decide +kernel
theorem dX4_keepAct_18 : decode cX4_keepAct 18 = .ok (.aaload, 1) := by decide +kernel
theorem dX4_keepAct_19 : decode cX4_keepAct 19 = .ok (.goto 4, 3) := by decide +kernel
theorem dX4_keepAct_22 : decode cX4_keepAct 22 = .ok (.aconst_null, 1) := by decide +kernel
theorem dX4_keepAct_23 : decode cX4_keepAct 23 = .ok (.astore_n 2, 1) := by decide +kernel
theorem dX4_keepAct_24 : decode cX4_keepAct 24 = .ok (.aload_n 0, 1) := by decide +kernel
theorem dX4_keepAct_25 : decode cX4_keepAct 25 = .ok (.getfield 30, 3) := by decide +kernel
theorem dX4_keepAct_28 : decode cX4_keepAct 28 = .ok (.ifCond .ne 7, 3) := by decide +kernel
theorem dX4_keepAct_31 : decode cX4_keepAct 31 = .ok (.aload_n 2, 1) := by decide +kernel
theorem dX4_keepAct_32 : decode cX4_keepAct 32 = .ok (.ifnonnull 4, 3) := by decide +kernel
theorem dX4_keepAct_35 : decode cX4_keepAct 35 = .ok (.return_, 1) := by decide +kernel
theorem dX4_keepAct_36 : decode cX4_keepAct 36 = .ok (.aload_n 2, 1) := by decide +kernel
theorem dX4_keepAct_37 : decode cX4_keepAct 37 = .ok (.getfield 33, 3) := by decide +kernel
theorem dX4_keepAct_40 : decode cX4_keepAct 40 = .ok (.aload_n 1, 1) := by decide +kernel
theorem dX4_keepAct_41 : decode cX4_keepAct 41 = .ok (.invokevirtual 37, 3) := by decide +kernel
theorem dX4_keepAct_44 : decode cX4_keepAct 44 = .ok (.aload_n 2, 1) := by decide +kernel
theorem dX4_keepAct_45 : decode cX4_keepAct 45 = .ok (.aload_n 0, 1) := by decide +kernel
theorem dX4_keepAct_46 : decode cX4_keepAct 46 = .ok (.getfield 22, 3) := by decide +kernel
theorem dX4_keepAct_49 : decode cX4_keepAct 49 = .ok (.putfield 43, 3) := by decide +kernel
theorem dX4_keepAct_52 : decode cX4_keepAct 52 = .ok (.aload_n 0, 1) := by decide +kernel
theorem dX4_keepAct_53 : decode cX4_keepAct 53 = .ok (.getfield 22, 3) := by decide +kernel
theorem dX4_keepAct_56 : decode cX4_keepAct 56 = .ok (.aload_n 2, 1) := by decide +kernel
theorem dX4_keepAct_57 : decode cX4_keepAct 57 = .ok (.putfield 46, 3) := by decide +kernel
theorem dX4_keepAct_60 : decode cX4_keepAct 60 = .ok (.aload_n 0, 1) := by decide +kernel
theorem dX4_keepAct_61 : decode cX4_keepAct 61 = .ok (.aload_n 2, 1) := by decide +kernel
theorem dX4_keepAct_62 : decode cX4_keepAct 62 = .ok (.putfield 22, 3) := by decide +kernel
theorem dX4_keepAct_65 : decode cX4_keepAct 65 = .ok (.aload_n 0, 1) := by decide +kernel
theorem dX4_keepAct_66 : decode cX4_keepAct 66 = .ok (.dup, 1) := by decide +kernel
theorem dX4_keepAct_67 : decode cX4_keepAct 67 = .ok (.getfield 17, 3) := by decide +kernel
theorem dX4_keepAct_70 : decode cX4_keepAct 70 = .ok (.iconst 1, 1) := by decide +kernel
theorem dX4_keepAct_71 : decode cX4_keepAct 71 = .ok (.iadd, 1) := by decide +kernel
theorem dX4_keepAct_72 : decode cX4_keepAct 72 = .ok (.putfield 17, 3) := by decide +kernel
theorem dX4_keepAct_75 : decode cX4_keepAct 75 = .ok (.aload_n 0, 1) := by decide +kernel
theorem dX4_keepAct_76 : decode cX4_keepAct 76 = .ok (.aload_n 0, 1) := by decide +kernel
theorem dX4_keepAct_77 : decode cX4_keepAct 77 = .ok (.getfield 26, 3) := by decide +kernel
theorem dX4_keepAct_80 : decode cX4_keepAct 80 = .ok (.putfield 30, 3) := by decide +kernel
theorem dX4_keepAct_83 : decode cX4_keepAct 83 = .ok (.return_, 1) := by decide +kernel
theorem dX4_goBack_0 : decode cX4_goBack 0 = .ok (.iconst 0, 1) := by decide +kernel
theorem dX4_goBack_1 : decode cX4_goBack 1 = .ok (.istore_n 3, 1) := by decide +kernel
theorem dX4_goBack_2 : decode cX4_goBack 2 = .ok (.aload_n 0, 1) := by decide +kernel
theorem dX4_goBack_3 : decode cX4_goBack 3 = .ok (.getfield 22, 3) := by decide +kernel
theorem dX4_goBack_6 : decode cX4_goBack 6 = .ok (.getfield 49, 3) := by decide +kernel
theorem dX4_goBack_9 : decode cX4_goBack 9 = .ok (.aload_n 1, 1) := by decide +kernel
theorem dX4_goBack_10 : decode cX4_goBack 10 = .ok (.invokevirtual 37, 3) := by decide +kernel
theorem dX4_goBack_13 : decode cX4_goBack 13 = .ok (.aload_n 0, 1) := by decide +kernel
theorem dX4_goBack_14 : decode cX4_goBack 14 = .ok (.getfield 22, 3) := by decide +kernel
theorem dX4_goBack_17 : decode cX4_goBack 17 = .ok (.getfield 43, 3) := by decide +kernel
theorem dX4_goBack_20 : decode cX4_goBack 20 = .ok (.astore 4, 2) := by decide +kernel
theorem dX4_goBack_22 : decode cX4_goBack 22 = .ok (.iload_n 3, 1) := by decide +kernel
theorem dX4_goBack_23 : decode cX4_goBack 23 = .ok (.iload_n 2, 1) := by decide +kernel
theorem dX4_goBack_24 : decode cX4_goBack 24 = .ok (.if_icmp .ge 44, 3) := by decide +kernel
theorem dX4_goBack_27 : decode cX4_goBack 27 = .ok (.aload 4, 2) := by decide +kernel
theorem dX4_goBack_29 : decode cX4_goBack 29 = .ok (.ifnull 39, 3) := by decide +kernel
theorem dX4_goBack_32 : decode cX4_goBack 32 = .ok (.aload 4, 2) := by decide +kernel
theorem dX4_goBack_34 : decode cX4_goBack 34 = .ok (.getfield 49, 3) := by decide +kernel
theorem dX4_goBack_37 : decode cX4_goBack 37 = .ok (.aload_n 0, 1) := by decide +kernel
theorem dX4_goBack_38 : decode cX4_goBack 38 = .ok (.getfield 22, 3) := by decide +kernel
theorem dX4_goBack_41 : decode cX4_goBack 41 = .ok (.getfield 33, 3) := by decide +kernel
theorem dX4_goBack_44 : decode cX4_goBack 44 = .ok (.invokevirtual 52, 3) := by decide +kernel
theorem dX4_goBack_47 : decode cX4_goBack 47 = .ok (.aload_n 0, 1) := by decide +kernel
theorem dX4_goBack_48 : decode cX4_goBack 48 = .ok (.aload 4, 2) := by decide +kernel
theorem dX4_goBack_50 : decode cX4_goBack 50 = .ok (.putfield 22, 3) := by decide +kernel
theorem dX4_goBack_53 : decode cX4_goBack 53 = .ok (.aload_n 0, 1) := by decide +kernel
theorem dX4_goBack_54 : decode cX4_goBack 54 = .ok (.getfield 22, 3) := by decide +kernel
theorem dX4_goBack_57 : decode cX4_goBack 57 = .ok (.getfield 43, 3) := by decide +kernel
theorem dX4_goBack_60 : decode cX4_goBack 60 = .ok (.astore 4, 2) := by decide +kernel
theorem dX4_goBack_62 : decode cX4_goBack 62 = .ok (.iinc 3 1, 3) := by decide +kernel
theorem dX4_goBack_65 : decode cX4_goBack 65 = .ok (.goto (-43), 3) := by decide +kernel
theorem dX4_goBack_68 : decode cX4_goBack 68 = .ok (.aload_n 0, 1) := by decide +kernel
theorem dX4_goBack_69 : decode cX4_goBack 69 = .ok (.getfield 22, 3) := by decide +kernel
theorem dX4_goBack_72 : decode cX4_goBack 72 = .ok (.getfield 49, 3) := by decide +kernel
theorem dX4_goBack_75 : decode cX4_goBack 75 = .ok (.aload_n 1, 1) := by decide +kernel
theorem dX4_goBack_76 : decode cX4_goBack 76 = .ok (.invokevirtual 56, 3) := by decide +kernel
theorem dX4_goBack_79 : decode cX4_goBack 79 = .ok (.iload_n 3, 1) := by decide +kernel
theorem dX4_goBack_80 : decode cX4_goBack 80 = .ok (.ireturn, 1) := by decide +kernel
theorem dX4_goOn_0 : decode cX4_goOn 0 = .ok (.iconst 0, 1) := by decide +kernel
theorem dX4_goOn_1 : decode cX4_goOn 1 = .ok (.istore_n 3, 1) := by decide +kernel
theorem dX4_goOn_2 : decode cX4_goOn 2 = .ok (.aload_n 0, 1) := by decide +kernel
theorem dX4_goOn_3 : decode cX4_goOn 3 = .ok (.getfield 22, 3) := by decide +kernel
theorem dX4_goOn_6 : decode cX4_goOn 6 = .ok (.getfield 46, 3) := by decide +kernel
theorem dX4_goOn_9 : decode cX4_goOn 9 = .ok (.astore 4, 2) := by decide +kernel
theorem dX4_goOn_11 : decode cX4_goOn 11 = .ok (.iload_n 3, 1) := by decide +kernel
theorem dX4_goOn_12 : decode cX4_goOn 12 = .ok (.iload_n 2, 1) := by decide +kernel
theorem dX4_goOn_13 : decode cX4_goOn 13 = .ok (.if_icmp .ge 29, 3) := by decide +kernel
theorem dX4_goOn_16 : decode cX4_goOn 16 = .ok (.aload 4, 2) := by decide +kernel
theorem dX4_goOn_18 : decode cX4_goOn 18 = .ok (.ifnull 24, 3) := by decide +kernel
theorem dX4_goOn_21 : decode cX4_goOn 21 = .ok (.aload_n 0, 1) := by decide +kernel
theorem dX4_goOn_22 : decode cX4_goOn 22 = .ok (.aload 4, 2) := by decide +kernel
theorem dX4_goOn_24 : decode cX4_goOn 24 = .ok (.putfield 22, 3) := by decide +kernel
theorem dX4_goOn_27 : decode cX4_goOn 27 = .ok (.aload_n 0, 1) := by decide +kernel
theorem dX4_goOn_28 : decode cX4_goOn 28 = .ok (.getfield 22, 3) := by decide +kernel
theorem dX4_goOn_31 : decode cX4_goOn 31 = .ok (.getfield 46, 3) := by decide +kernel
theorem dX4_goOn_34 : decode cX4_goOn 34 = .ok (.astore 4, 2) := by decide +kernel
theorem dX4_goOn_36 : decode cX4_goOn 36 = .ok (.iinc 3 1, 3) := by decide +kernel
theorem dX4_goOn_39 : decode cX4_goOn 39 = .ok (.goto (-28), 3) := by decide +kernel
theorem dX4_goOn_42 : decode cX4_goOn 42 = .ok (.iload_n 3, 1) := by decide +kernel
theorem dX4_goOn_43 : decode cX4_goOn 43 = .ok (.ifCond .le 14, 3) := by decide +kernel
theorem dX4_goOn_46 : decode cX4_goOn 46 = .ok (.aload_n 0, 1) := by decide +kernel
theorem dX4_goOn_47 : decode cX4_goOn 47 = .ok (.getfield 22, 3) := by decide +kernel
theorem dX4_goOn_50 : decode cX4_goOn 50 = .ok (.getfield 49, 3) := by decide +kernel
theorem dX4_goOn_53 : decode cX4_goOn 53 = .ok (.aload_n 1, 1) := by decide +kernel
theorem dX4_goOn_54 : decode cX4_goOn 54 = .ok (.invokevirtual 56, 3) := by decide +kernel
theorem dX4_goOn_57 : decode cX4_goOn 57 = .ok (.iload_n 3, 1) := by decide +kernel
theorem dX4_goOn_58 : decode cX4_goOn 58 = .ok (.ireturn, 1) := by decide +kernel
theorem dX4_countBehind_0 : decode cX4_countBehind 0 = .ok (.iconst 0, 1) := by decide +kernel
theorem dX4_countBehind_1 : decode cX4_countBehind 1 = .ok (.istore_n 1, 1) := by decide +kernel
theorem dX4_countBehind_2 : decode cX4_countBehind 2 = .ok (.aload_n 0, 1) := by decide +kernel
theorem dX4_countBehind_3 : decode cX4_countBehind 3 = .ok (.getfield 22, 3) := by decide +kernel
theorem dX4_countBehind_6 : decode cX4_countBehind 6 = .ok (.getfield 43, 3) := by decide +kernel
theorem dX4_countBehind_9 : decode cX4_countBehind 9 = .ok (.astore_n 2, 1) := by decide +kernel
theorem dX4_countBehind_10 : decode cX4_countBehind 10 = .ok (.aload_n 2, 1) := by decide +kernel
theorem dX4_countBehind_11 : decode cX4_countBehind 11 = .ok (.ifnull 14, 3) := by decide +kernel
theorem dX4_countBehind_14 : decode cX4_countBehind 14 = .ok (.iinc 1 1, 3) := by decide +kernel
theorem dX4_countBehind_17 : decode cX4_countBehind 17 = .ok (.aload_n 2, 1) := by decide +kernel
theorem dX4_countBehind_18 : decode cX4_countBehind 18 = .ok (.getfield 43, 3) := by decide +kernel
theorem dX4_countBehind_21 : decode cX4_countBehind 21 = .ok (.astore_n 2, 1) := by decide +kernel
theorem dX4_countBehind_22 : decode cX4_countBehind 22 = .ok (.goto (-12), 3) := by decide +kernel
theorem dX4_countBehind_25 : decode cX4_countBehind 25 = .ok (.iload_n 1, 1) := by decide +kernel
theorem dX4_countBehind_26 : decode cX4_countBehind 26 = .ok (.ireturn, 1) := by decide +kernel
theorem dX4_countAhead_0 : decode cX4_countAhead 0 = .ok (.iconst 0, 1) := by decide +kernel
theorem dX4_countAhead_1 : decode cX4_countAhead 1 = .ok (.istore_n 1, 1) := by decide +kernel
theorem dX4_countAhead_2 : decode cX4_countAhead 2 = .ok (.aload_n 0, 1) := by decide +kernel
theorem dX4_countAhead_3 : decode cX4_countAhead 3 = .ok (.getfield 22, 3) := by decide +kernel
theorem dX4_countAhead_6 : decode cX4_countAhead 6 = .ok (.getfield 46, 3) := by decide +kernel
theorem dX4_countAhead_9 : decode cX4_countAhead 9 = .ok (.astore_n 2, 1) := by decide +kernel
theorem dX4_countAhead_10 : decode cX4_countAhead 10 = .ok (.aload_n 2, 1) := by decide +kernel
theorem dX4_countAhead_11 : decode cX4_countAhead 11 = .ok (.ifnull 14, 3) := by decide +kernel
theorem dX4_countAhead_14 : decode cX4_countAhead 14 = .ok (.iinc 1 1, 3) := by decide +kernel
theorem dX4_countAhead_17 : decode cX4_countAhead 17 = .ok (.aload_n 2, 1) := by decide +kernel
theorem dX4_countAhead_18 : decode cX4_countAhead 18 = .ok (.getfield 46, 3) := by decide +kernel
theorem dX4_countAhead_21 : decode cX4_countAhead 21 = .ok (.astore_n 2, 1) := by decide +kernel
theorem dX4_countAhead_22 : decode cX4_countAhead 22 = .ok (.goto (-12), 3) := by decide +kernel
theorem dX4_countAhead_25 : decode cX4_countAhead 25 = .ok (.iload_n 1, 1) := by decide +kernel
theorem dX4_countAhead_26 : decode cX4_countAhead 26 = .ok (.ireturn, 1) := by decide +kernel
theorem dX4_countContinuations_0 : decode cX4_countContinuations 0 = .ok (.iconst 0, 1) := by decide +kernel
theorem dX4_countContinuations_1 : decode cX4_countContinuations 1 = .ok (.istore_n 1, 1) := by decide +kernel
theorem dX4_countContinuations_2 : decode cX4_countContinuations 2 = .ok (.iconst 0, 1) := by decide +kernel
theorem dX4_countContinuations_3 : decode cX4_countContinuations 3 = .ok (.istore_n 2, 1) := by decide +kernel
theorem dX4_countContinuations_4 : decode cX4_countContinuations 4 = .ok (.iload_n 2, 1) := by decide +kernel
theorem dX4_countContinuations_5 : decode cX4_countContinuations 5 = .ok (.aload_n 0, 1) := by decide +kernel
theorem dX4_countContinuations_6 : decode cX4_countContinuations 6 = .ok (.getfield 17, 3) := by decide +kernel
theorem dX4_countContinuations_9 : decode cX4_countContinuations 9 = .ok (.if_icmp .ge 42, 3) := by decide +kernel
theorem dX4_countContinuations_12 : decode cX4_countContinuations 12 = .ok (.iload_n 1, 1) := by decide +kernel
theorem dX4_countContinuations_13 : decode cX4_countContinuations 13 = .ok (.aload_n 0, 1) := by decide +kernel
theorem dX4_countContinuations_14 : decode cX4_countContinuations 14 = .ok (.getfield 11, 3) := by decide +kernel
theorem dX4_countContinuations_17 : decode cX4_countContinuations 17 = .ok (.iload_n 2, 1) := by decide +kernel
theorem dX4_countContinuations_18 : decode cX4_countContinuations 18 = .ok (.aaload, 1) := by decide +kernel
theorem dX4_countContinuations_19 : decode cX4_countContinuations 19 = .ok (.ifnull 23, 3) := by decide +kernel
theorem dX4_countContinuations_22 : decode cX4_countContinuations 22 = .ok (.aload_n 0, 1) := by decide +kernel
theorem dX4_countContinuations_23 : decode cX4_countContinuations 23 = .ok (.getfield 11, 3) := by decide +kernel
theorem dX4_countContinuations_26 : decode cX4_countContinuations 26 = .ok (.iload_n 2, 1) := by decide +kernel
theorem dX4_countContinuations_27 : decode cX4_countContinuations 27 = .ok (.aaload, 1) := by decide +kernel
theorem dX4_countContinuations_28 : decode cX4_countContinuations 28 = .ok (.getfield 43, 3) := by decide +kernel
theorem dX4_countContinuations_31 : decode cX4_countContinuations 31 = .ok (.aload_n 0, 1) := by decide +kernel
theorem dX4_countContinuations_32 : decode cX4_countContinuations 32 = .ok (.getfield 22, 3) := by decide +kernel
theorem dX4_countContinuations_35 : decode cX4_countContinuations 35 = .ok (.if_acmp .ne 7, 3) := by decide +kernel
theorem dX4_countContinuations_38 : decode cX4_countContinuations 38 = .ok (.iconst 1, 1) := by decide +kernel
theorem dX4_countContinuations_39 : decode cX4_countContinuations 39 = .ok (.goto 4, 3) := by decide +kernel
theorem dX4_countContinuations_42 : decode cX4_countContinuations 42 = .ok (.iconst 0, 1) := by decide +kernel
theorem dX4_countContinuations_43 : decode cX4_countContinuations 43 = .ok (.iadd, 1) := by decide +kernel
theorem dX4_countContinuations_44 : decode cX4_countContinuations 44 = .ok (.istore_n 1, 1) := by decide +kernel
theorem dX4_countContinuations_45 : decode cX4_countContinuations 45 = .ok (.iinc 2 1, 3) := by decide +kernel
theorem dX4_countContinuations_48 : decode cX4_countContinuations 48 = .ok (.goto (-44), 3) := by decide +kernel
theorem dX4_countContinuations_51 : decode cX4_countContinuations 51 = .ok (.iload_n 1, 1) := by decide +kernel
theorem dX4_countContinuations_52 : decode cX4_countContinuations 52 = .ok (.ireturn, 1) := by decide +kernel
theorem dX4_continuation_0 : decode cX4_continuation 0 = .ok (.iconst 0, 1) := by decide +kernel
theorem dX4_continuation_1 : decode cX4_continuation 1 = .ok (.istore_n 2, 1) := by decide +kernel
theorem dX4_continuation_2 : decode cX4_continuation 2 = .ok (.iconst 0, 1) := by decide +kernel
theorem dX4_continuation_3 : decode cX4_continuation 3 = .ok (.istore_n 3, 1) := by decide +kernel
theorem dX4_continuation_4 : decode cX4_continuation 4 = .ok (.iload_n 3, 1) := by decide +kernel
theorem dX4_continuation_5 : decode cX4_continuation 5 = .ok (.aload_n 0, 1) := by decide +kernel
theorem dX4_continuation_6 : decode cX4_continuation 6 = .ok (.getfield 17, 3) := by decide +kernel
theorem dX4_continuation_9 : decode cX4_continuation 9 = .ok (.if_icmp .ge 45, 3) := by decide +kernel
theorem dX4_continuation_12 : decode cX4_continuation 12 = .ok (.aload_n 0, 1) := by decide +kernel
theorem dX4_continuation_13 : decode cX4_continuation 13 = .ok (.getfield 11, 3) := by decide +kernel
theorem dX4_continuation_16 : decode cX4_continuation 16 = .ok (.iload_n 3, 1) := by decide +kernel
theorem dX4_continuation_17 : decode cX4_continuation 17 = .ok (.aaload, 1) := by decide +kernel
theorem dX4_continuation_18 : decode cX4_continuation 18 = .ok (.astore 4, 2) := by decide +kernel
theorem dX4_continuation_20 : decode cX4_continuation 20 = .ok (.aload 4, 2) := by decide +kernel
theorem dX4_continuation_22 : decode cX4_continuation 22 = .ok (.ifnull 26, 3) := by decide +kernel
theorem dX4_continuation_25 : decode cX4_continuation 25 = .ok (.aload 4, 2) := by decide +kernel
theorem dX4_continuation_27 : decode cX4_continuation 27 = .ok (.getfield 43, 3) := by decide +kernel
theorem dX4_continuation_30 : decode cX4_continuation 30 = .ok (.aload_n 0, 1) := by decide +kernel
theorem dX4_continuation_31 : decode cX4_continuation 31 = .ok (.getfield 22, 3) := by decide +kernel
theorem dX4_continuation_34 : decode cX4_continuation 34 = .ok (.if_acmp .ne 14, 3) := by decide +kernel
theorem dX4_continuation_37 : decode cX4_continuation 37 = .ok (.iload_n 2, 1) := by decide +kernel
theorem dX4_continuation_38 : decode cX4_continuation 38 = .ok (.iload_n 1, 1) := by decide +kernel
theorem dX4_continuation_39 : decode cX4_continuation 39 = .ok (.if_icmp .ne 6, 3) := by decide +kernel
theorem dX4_continuation_42 : decode cX4_continuation 42 = .ok (.aload 4, 2) := by decide +kernel
theorem dX4_continuation_44 : decode cX4_continuation 44 = .ok (.areturn, 1) := by decide +kernel
theorem dX4_continuation_45 : decode cX4_continuation 45 = .ok (.iinc 2 1, 3) := by decide +kernel
theorem dX4_continuation_48 : decode cX4_continuation 48 = .ok (.iinc 3 1, 3) := by decide +kernel
theorem dX4_continuation_51 : decode cX4_continuation 51 = .ok (.goto (-47), 3) := by decide +kernel
theorem dX4_continuation_54 : decode cX4_continuation 54 = .ok (.aconst_null, 1) := by decide +kernel
theorem dX4_continuation_55 : decode cX4_continuation 55 = .ok (.areturn, 1) := by decide +kernel
theorem dX5_init_0 : decode cX5_init 0 = .ok (.aload_n 0, 1) := by decide +kernel
theorem dX5_init_1 : decode cX5_init 1 = .ok (.invokespecial 3, 3) := by decide +kernel
theorem dX5_init_4 : decode cX5_init 4 = .ok (.aload_n 0, 1) := by decide +kernel
theorem dX5_init_5 : decode cX5_init 5 = .ok (.sipush 375, 3) := by decide +kernel
theorem dX5_init_8 : decode cX5_init 8 = .ok (.newarray .long, 2) := by decide +kernel
theorem dX5_init_10 : decode cX5_init 10 = .ok (.putfield 9, 3) := by decide +kernel
theorem dX5_init_13 : decode cX5_init 13 = .ok (.aload_n 0, 1) := by decide +kernel
theorem dX5_init_14 : decode cX5_init 14 = .ok (.iconst 0, 1) := by decide +kernel
theorem dX5_init_15 : decode cX5_init 15 = .ok (.putfield 15, 3) := by decide +kernel
theorem dX5_init_18 : decode cX5_init 18 = .ok (.aload_n 0, 1) := by decide +kernel
theorem dX5_init_19 : decode cX5_init 19 = .ok (.iconst 5, 1) := by decide +kernel
theorem dX5_init_20 : decode cX5_init 20 = .ok (.newarray .long, 2) := by decide +kernel
theorem dX5_init_22 : decode cX5_init 22 = .ok (.putfield 19, 3) := by decide +kernel
theorem dX5_init_25 : decode cX5_init 25 = .ok (.aload_n 0, 1) := by decide +kernel
theorem dX5_init_26 : decode cX5_init 26 = .ok (.bipush 8, 2) := by decide +kernel
theorem dX5_init_28 : decode cX5_init 28 = .ok (.newarray .int, 2) := by decide +kernel
theorem dX5_init_30 : decode cX5_init 30 = .ok (.putfield 22, 3) := by decide +kernel
theorem dX5_init_33 : decode cX5_init 33 = .ok (.aload_n 0, 1) := by decide +kernel
theorem dX5_init_34 : decode cX5_init 34 = .ok (.iconst 0, 1) := by decide +kernel
theorem dX5_init_35 : decode cX5_init 35 = .ok (.putfield 26, 3) := by decide +kernel
theorem dX5_init_38 : decode cX5_init 38 = .ok (.aload_n 0, 1) := by decide +kernel
theorem dX5_init_39 : decode cX5_init 39 = .ok (.bipush 16, 2) := by decide +kernel
theorem dX5_init_41 : decode cX5_init 41 = .ok (.newarray .int, 2) := by decide +kernel
theorem dX5_init_43 : decode cX5_init 43 = .ok (.putfield 29, 3) := by decide +kernel
theorem dX5_init_46 : decode cX5_init 46 = .ok (.aload_n 0, 1) := by decide +kernel
theorem dX5_init_47 : decode cX5_init 47 = .ok (.bipush 16, 2) := by decide +kernel
theorem dX5_init_49 : decode cX5_init 49 = .ok (.newarray .boolean, 2) := by decide +kernel
theorem dX5_init_51 : decode cX5_init 51 = .ok (.putfield 32, 3) := by decide +kernel
theorem dX5_init_54 : decode cX5_init 54 = .ok (.return_, 1) := by decide +kernel
theorem dX5_take_0 : decode cX5_take 0 = .ok (.aload_n 0, 1) := by decide +kernel
theorem dX5_take_1 : decode cX5_take 1 = .ok (.aload_n 1, 1) := by decide +kernel
theorem dX5_take_2 : decode cX5_take 2 = .ok (.getfield 36, 3) := by decide +kernel
theorem dX5_take_5 : decode cX5_take 5 = .ok (.putfield 15, 3) := by decide +kernel
theorem dX5_take_8 : decode cX5_take 8 = .ok (.iconst 0, 1) := by decide +kernel
theorem dX5_take_9 : decode cX5_take 9 = .ok (.istore_n 2, 1) := by decide +kernel
theorem dX5_take_10 : decode cX5_take 10 = .ok (.iload_n 2, 1) := by decide +kernel
theorem dX5_take_11 : decode cX5_take 11 = .ok (.aload_n 0, 1) := by decide +kernel
theorem dX5_take_12 : decode cX5_take 12 = .ok (.getfield 15, 3) := by decide +kernel
theorem dX5_take_15 : decode cX5_take 15 = .ok (.if_icmp .ge 56, 3) := by decide +kernel
theorem dX5_take_18 : decode cX5_take 18 = .ok (.iload_n 2, 1) := by decide +kernel
theorem dX5_take_19 : decode cX5_take 19 = .ok (.bipush 8, 2) := by decide +kernel
theorem dX5_take_21 : decode cX5_take 21 = .ok (.irem, 1) := by decide +kernel
theorem dX5_take_22 : decode cX5_take 22 = .ok (.ifCond .ne 7, 3) := by decide +kernel
theorem dX5_take_25 : decode cX5_take 25 = .ok (.lconst 0, 1) := by decide +kernel
theorem dX5_take_26 : decode cX5_take 26 = .ok (.goto 12, 3) := by decide +kernel
theorem dX5_take_29 : decode cX5_take 29 = .ok (.aload_n 0, 1) := by decide +kernel
theorem dX5_take_30 : decode cX5_take 30 = .ok (.getfield 9, 3) := by decide +kernel
theorem dX5_take_33 : decode cX5_take 33 = .ok (.iload_n 2, 1) := by decide +kernel
theorem dX5_take_34 : decode cX5_take 34 = .ok (.bipush 8, 2) := by decide +kernel
theorem dX5_take_36 : decode cX5_take 36 = .ok (.idiv, 1) := by decide +kernel
theorem dX5_take_37 : decode cX5_take 37 = .ok (.laload, 1) := by decide +kernel
theorem dX5_take_38 : decode cX5_take 38 = .ok (.lstore_n 3, 1) := by decide +kernel
theorem dX5_take_39 : decode cX5_take 39 = .ok (.aload_n 0, 1) := by decide +kernel
theorem dX5_take_40 : decode cX5_take 40 = .ok (.getfield 9, 3) := by decide +kernel
theorem dX5_take_43 : decode cX5_take 43 = .ok (.iload_n 2, 1) := by decide +kernel
theorem dX5_take_44 : decode cX5_take 44 = .ok (.bipush 8, 2) := by decide +kernel
theorem dX5_take_46 : decode cX5_take 46 = .ok (.idiv, 1) := by decide +kernel
theorem dX5_take_47 : decode cX5_take 47 = .ok (.lload_n 3, 1) := by decide +kernel
theorem dX5_take_48 : decode cX5_take 48 = .ok (.aload_n 1, 1) := by decide +kernel
theorem dX5_take_49 : decode cX5_take 49 = .ok (.getfield 39, 3) := by decide +kernel
theorem dX5_take_52 : decode cX5_take 52 = .ok (.iload_n 2, 1) := by decide +kernel
theorem dX5_take_53 : decode cX5_take 53 = .ok (.baload, 1) := by decide +kernel
theorem dX5_take_54 : decode cX5_take 54 = .ok (.i2l, 1) := by decide +kernel
theorem dX5_take_55 : decode cX5_take 55 = .ok (.iload_n 2, 1) := by decide +kernel
theorem dX5_take_56 : decode cX5_take 56 = .ok (.bipush 8, 2) := by decide +kernel
theorem dX5_take_58 : decode cX5_take 58 = .ok (.irem, 1) := by decide +kernel
theorem dX5_take_59 : decode cX5_take 59 = .ok (.bipush 8, 2) := by decide +kernel
theorem dX5_take_61 : decode cX5_take 61 = .ok (.imul, 1) := by decide +kernel
theorem dX5_take_62 : decode cX5_take 62 = .ok (.lshl, 1) := by decide +kernel
theorem dX5_take_63 : decode cX5_take 63 = .ok (.lor, 1) := by decide +kernel
theorem dX5_take_64 : decode cX5_take 64 = .ok (.lastore, 1) := by decide +kernel
theorem dX5_take_65 : decode cX5_take 65 = .ok (.iinc 2 1, 3) := by decide +kernel
theorem dX5_take_68 : decode cX5_take 68 = .ok (.goto (-58), 3) := by decide +kernel
theorem dX5_take_71 : decode cX5_take 71 = .ok (.iconst 0, 1) := by decide +kernel
theorem dX5_take_72 : decode cX5_take 72 = .ok (.istore_n 2, 1) := by decide +kernel
theorem dX5_take_73 : decode cX5_take 73 = .ok (.iload_n 2, 1) := by decide +kernel
theorem dX5_take_74 : decode cX5_take 74 = .ok (.aload_n 1, 1) := by decide +kernel
theorem dX5_take_75 : decode cX5_take 75 = .ok (.getfield 42, 3) := by decide +kernel
theorem dX5_take_78 : decode cX5_take 78 = .ok (.if_icmp .ge 60, 3) := by decide +kernel
theorem dX5_take_81 : decode cX5_take 81 = .ok (.iload_n 2, 1) := by decide +kernel
theorem dX5_take_82 : decode cX5_take 82 = .ok (.bipush 64, 2) := by decide +kernel
theorem dX5_take_84 : decode cX5_take 84 = .ok (.irem, 1) := by decide +kernel
theorem dX5_take_85 : decode cX5_take 85 = .ok (.ifCond .ne 7, 3) := by decide +kernel
theorem dX5_take_88 : decode cX5_take 88 = .ok (.lconst 0, 1) := by decide +kernel
theorem dX5_take_89 : decode cX5_take 89 = .ok (.goto 12, 3) := by decide +kernel
theorem dX5_take_92 : decode cX5_take 92 = .ok (.aload_n 0, 1) := by decide +kernel
theorem dX5_take_93 : decode cX5_take 93 = .ok (.getfield 19, 3) := by decide +kernel
theorem dX5_take_96 : decode cX5_take 96 = .ok (.iload_n 2, 1) := by decide +kernel
theorem dX5_take_97 : decode cX5_take 97 = .ok (.bipush 64, 2) := by decide +kernel
theorem dX5_take_99 : decode cX5_take 99 = .ok (.idiv, 1) := by decide +kernel
theorem dX5_take_100 : decode cX5_take 100 = .ok (.laload, 1) := by decide +kernel
theorem dX5_take_101 : decode cX5_take 101 = .ok (.lstore_n 3, 1) := by decide +kernel
theorem dX5_take_102 : decode cX5_take 102 = .ok (.aload_n 0, 1) := by decide +kernel
theorem dX5_take_103 : decode cX5_take 103 = .ok (.getfield 19, 3) := by decide +kernel
theorem dX5_take_106 : decode cX5_take 106 = .ok (.iload_n 2, 1) := by decide +kernel
theorem dX5_take_107 : decode cX5_take 107 = .ok (.bipush 64, 2) := by decide +kernel
theorem dX5_take_109 : decode cX5_take 109 = .ok (.idiv, 1) := by decide +kernel
theorem dX5_take_110 : decode cX5_take 110 = .ok (.lload_n 3, 1) := by decide +kernel
theorem dX5_take_111 : decode cX5_take 111 = .ok (.aload_n 1, 1) := by decide +kernel
theorem dX5_take_112 : decode cX5_take 112 = .ok (.getfield 45, 3) := by decide +kernel
theorem dX5_take_115 : decode cX5_take 115 = .ok (.iload_n 2, 1) := by decide +kernel
theorem dX5_take_116 : decode cX5_take 116 = .ok (.baload, 1) := by decide +kernel
theorem dX5_take_117 : decode cX5_take 117 = .ok (.ifCond .eq 7, 3) := by decide +kernel
theorem dX5_take_120 : decode cX5_take 120 = .ok (.lconst 1, 1) := by decide +kernel
theorem dX5_take_121 : decode cX5_take 121 = .ok (.goto 4, 3) := by decide +kernel
theorem dX5_take_124 : decode cX5_take 124 = .ok (.lconst 0, 1) := by decide +kernel
theorem dX5_take_125 : decode cX5_take 125 = .ok (.iload_n 2, 1) := by decide +kernel
theorem dX5_take_126 : decode cX5_take 126 = .ok (.bipush 64, 2) := by decide +kernel
theorem dX5_take_128 : decode cX5_take 128 = .ok (.irem, 1) := by decide +kernel
theorem dX5_take_129 : decode cX5_take 129 = .ok (.lshl, 1) := by decide +kernel
theorem dX5_take_130 : decode cX5_take 130 = .ok (.lor, 1) := by decide +kernel
theorem dX5_take_131 : decode cX5_take 131 = .ok (.lastore, 1) := by decide +kernel
theorem dX5_take_132 : decode cX5_take 132 = .ok (.iinc 2 1, 3) := by decide +kernel
theorem dX5_take_135 : decode cX5_take 135 = .ok (.goto (-62), 3) := by decide +kernel
theorem dX5_take_138 : decode cX5_take 138 = .ok (.aload_n 1, 1) := by decide +kernel
theorem dX5_take_139 : decode cX5_take 139 = .ok (.getfield 47, 3) := by decide +kernel
theorem dX5_take_142 : decode cX5_take 142 = .ok (.iconst 0, 1) := by decide +kernel
theorem dX5_take_143 : decode cX5_take 143 = .ok (.aload_n 0, 1) := by decide +kernel
theorem dX5_take_144 : decode cX5_take 144 = .ok (.getfield 22, 3) := by decide +kernel
theorem dX5_take_147 : decode cX5_take 147 = .ok (.iconst 0, 1) := by decide +kernel
theorem dX5_take_148 : decode cX5_take 148 = .ok (.bipush 8, 2) := by decide +kernel
theorem dX5_take_150 : decode cX5_take 150 = .ok (.invokestatic 48, 3) := by decide +kernel
theorem dX5_take_153 : decode cX5_take 153 = .ok (.aload_n 1, 1) := by decide +kernel
theorem dX5_take_154 : decode cX5_take 154 = .ok (.getfield 54, 3) := by decide +kernel
theorem dX5_take_157 : decode cX5_take 157 = .ok (.iconst 0, 1) := by decide +kernel
theorem dX5_take_158 : decode cX5_take 158 = .ok (.aload_n 0, 1) := by decide +kernel
theorem dX5_take_159 : decode cX5_take 159 = .ok (.getfield 29, 3) := by decide +kernel
theorem dX5_take_162 : decode cX5_take 162 = .ok (.iconst 0, 1) := by decide +kernel
theorem dX5_take_163 : decode cX5_take 163 = .ok (.bipush 16, 2) := by decide +kernel
theorem dX5_take_165 : decode cX5_take 165 = .ok (.invokestatic 48, 3) := by decide +kernel
theorem dX5_take_168 : decode cX5_take 168 = .ok (.aload_n 1, 1) := by decide +kernel
theorem dX5_take_169 : decode cX5_take 169 = .ok (.getfield 55, 3) := by decide +kernel
theorem dX5_take_172 : decode cX5_take 172 = .ok (.iconst 0, 1) := by decide +kernel
theorem dX5_take_173 : decode cX5_take 173 = .ok (.aload_n 0, 1) := by decide +kernel
theorem dX5_take_174 : decode cX5_take 174 = .ok (.getfield 32, 3) := by decide +kernel
theorem dX5_take_177 : decode cX5_take 177 = .ok (.iconst 0, 1) := by decide +kernel
theorem dX5_take_178 : decode cX5_take 178 = .ok (.bipush 16, 2) := by decide +kernel
theorem dX5_take_180 : decode cX5_take 180 = .ok (.invokestatic 48, 3) := by decide +kernel
theorem dX5_take_183 : decode cX5_take 183 = .ok (.aload_n 0, 1) := by decide +kernel
theorem dX5_take_184 : decode cX5_take 184 = .ok (.aload_n 1, 1) := by decide +kernel
theorem dX5_take_185 : decode cX5_take 185 = .ok (.getfield 56, 3) := by decide +kernel
theorem dX5_take_188 : decode cX5_take 188 = .ok (.putfield 26, 3) := by decide +kernel
theorem dX5_take_191 : decode cX5_take 191 = .ok (.return_, 1) := by decide +kernel
theorem dX5_bringBack_0 : decode cX5_bringBack 0 = .ok (.iconst 0, 1) := by decide +kernel
theorem dX5_bringBack_1 : decode cX5_bringBack 1 = .ok (.istore_n 2, 1) := by decide +kernel
theorem dX5_bringBack_2 : decode cX5_bringBack 2 = .ok (.iload_n 2, 1) := by decide +kernel
theorem dX5_bringBack_3 : decode cX5_bringBack 3 = .ok (.aload_n 0, 1) := by decide +kernel
theorem dX5_bringBack_4 : decode cX5_bringBack 4 = .ok (.getfield 15, 3) := by decide +kernel
theorem dX5_bringBack_7 : decode cX5_bringBack 7 = .ok (.if_icmp .ge 34, 3) := by decide +kernel
theorem dX5_bringBack_10 : decode cX5_bringBack 10 = .ok (.aload_n 1, 1) := by decide +kernel
theorem dX5_bringBack_11 : decode cX5_bringBack 11 = .ok (.getfield 39, 3) := by decide +kernel
theorem dX5_bringBack_14 : decode cX5_bringBack 14 = .ok (.iload_n 2, 1) := by decide +kernel
theorem dX5_bringBack_15 : decode cX5_bringBack 15 = .ok (.aload_n 0, 1) := by decide +kernel
theorem dX5_bringBack_16 : decode cX5_bringBack 16 = .ok (.getfield 9, 3) := by decide +kernel
theorem dX5_bringBack_19 : decode cX5_bringBack 19 = .ok (.iload_n 2, 1) := by decide +kernel
theorem dX5_bringBack_20 : decode cX5_bringBack 20 = .ok (.bipush 8, 2) := by decide +kernel
theorem dX5_bringBack_22 : decode cX5_bringBack 22 = .ok (.idiv, 1) := by decide +kernel
theorem dX5_bringBack_23 : decode cX5_bringBack 23 = .ok (.laload, 1) := by decide +kernel
theorem dX5_bringBack_24 : decode cX5_bringBack 24 = .ok (.iload_n 2, 1) := by decide +kernel
theorem dX5_bringBack_25 : decode cX5_bringBack 25 = .ok (.bipush 8, 2) := by decide +kernel
theorem dX5_bringBack_27 : decode cX5_bringBack 27 = .ok (.irem, 1) := by decide +kernel
theorem dX5_bringBack_28 : decode cX5_bringBack 28 = .ok (.bipush 8, 2) := by decide +kernel
theorem dX5_bringBack_30 : decode cX5_bringBack 30 = .ok (.imul, 1) := by decide +kernel
theorem dX5_bringBack_31 : decode cX5_bringBack 31 = .ok (.lushr, 1) := by decide +kernel
theorem dX5_bringBack_32 : decode cX5_bringBack 32 = .ok (.l2i, 1) := by decide +kernel
theorem dX5_bringBack_33 : decode cX5_bringBack 33 = .ok (.i2b, 1) := by decide +kernel
theorem dX5_bringBack_34 : decode cX5_bringBack 34 = .ok (.bastore, 1) := by decide +kernel
theorem dX5_bringBack_35 : decode cX5_bringBack 35 = .ok (.iinc 2 1, 3) := by decide +kernel
theorem dX5_bringBack_38 : decode cX5_bringBack 38 = .ok (.goto (-36), 3) := by decide +kernel
theorem dX5_bringBack_41 : decode cX5_bringBack 41 = .ok (.aload_n 1, 1) := by decide +kernel
theorem dX5_bringBack_42 : decode cX5_bringBack 42 = .ok (.aload_n 0, 1) := by decide +kernel
theorem dX5_bringBack_43 : decode cX5_bringBack 43 = .ok (.getfield 15, 3) := by decide +kernel
theorem dX5_bringBack_46 : decode cX5_bringBack 46 = .ok (.putfield 36, 3) := by decide +kernel
theorem dX5_bringBack_49 : decode cX5_bringBack 49 = .ok (.aload_n 1, 1) := by decide +kernel
theorem dX5_bringBack_50 : decode cX5_bringBack 50 = .ok (.invokevirtual 57, 3) := by decide +kernel
theorem dX5_bringBack_53 : decode cX5_bringBack 53 = .ok (.iconst 0, 1) := by decide +kernel
theorem dX5_bringBack_54 : decode cX5_bringBack 54 = .ok (.istore_n 2, 1) := by decide +kernel
theorem dX5_bringBack_55 : decode cX5_bringBack 55 = .ok (.iload_n 2, 1) := by decide +kernel
theorem dX5_bringBack_56 : decode cX5_bringBack 56 = .ok (.aload_n 1, 1) := by decide +kernel
theorem dX5_bringBack_57 : decode cX5_bringBack 57 = .ok (.getfield 42, 3) := by decide +kernel
theorem dX5_bringBack_60 : decode cX5_bringBack 60 = .ok (.if_icmp .ge 41, 3) := by decide +kernel
theorem dX5_bringBack_63 : decode cX5_bringBack 63 = .ok (.aload_n 1, 1) := by decide +kernel
theorem dX5_bringBack_64 : decode cX5_bringBack 64 = .ok (.getfield 45, 3) := by decide +kernel
theorem dX5_bringBack_67 : decode cX5_bringBack 67 = .ok (.iload_n 2, 1) := by decide +kernel
theorem dX5_bringBack_68 : decode cX5_bringBack 68 = .ok (.aload_n 0, 1) := by decide +kernel
theorem dX5_bringBack_69 : decode cX5_bringBack 69 = .ok (.getfield 19, 3) := by decide +kernel
theorem dX5_bringBack_72 : decode cX5_bringBack 72 = .ok (.iload_n 2, 1) := by decide +kernel
theorem dX5_bringBack_73 : decode cX5_bringBack 73 = .ok (.bipush 64, 2) := by decide +kernel
theorem dX5_bringBack_75 : decode cX5_bringBack 75 = .ok (.idiv, 1) := by decide +kernel
theorem dX5_bringBack_76 : decode cX5_bringBack 76 = .ok (.laload, 1) := by decide +kernel
theorem dX5_bringBack_77 : decode cX5_bringBack 77 = .ok (.iload_n 2, 1) := by decide +kernel
theorem dX5_bringBack_78 : decode cX5_bringBack 78 = .ok (.bipush 64, 2) := by decide +kernel
theorem dX5_bringBack_80 : decode cX5_bringBack 80 = .ok (.irem, 1) := by decide +kernel
theorem dX5_bringBack_81 : decode cX5_bringBack 81 = .ok (.lushr, 1) := by decide +kernel
theorem dX5_bringBack_82 : decode cX5_bringBack 82 = .ok (.lconst 1, 1) := by decide +kernel
theorem dX5_bringBack_83 : decode cX5_bringBack 83 = .ok (.land, 1) := by decide +kernel
theorem dX5_bringBack_84 : decode cX5_bringBack 84 = .ok (.lconst 1, 1) := by decide +kernel
theorem dX5_bringBack_85 : decode cX5_bringBack 85 = .ok (.lcmp, 1) := by decide +kernel
theorem dX5_bringBack_86 : decode cX5_bringBack 86 = .ok (.ifCond .ne 7, 3) := by decide +kernel
theorem dX5_bringBack_89 : decode cX5_bringBack 89 = .ok (.iconst 1, 1) := by decide +kernel
theorem dX5_bringBack_90 : decode cX5_bringBack 90 = .ok (.goto 4, 3) := by decide +kernel
theorem dX5_bringBack_93 : decode cX5_bringBack 93 = .ok (.iconst 0, 1) := by decide +kernel
theorem dX5_bringBack_94 : decode cX5_bringBack 94 = .ok (.bastore, 1) := by decide +kernel
theorem dX5_bringBack_95 : decode cX5_bringBack 95 = .ok (.iinc 2 1, 3) := by decide +kernel
theorem dX5_bringBack_98 : decode cX5_bringBack 98 = .ok (.goto (-43), 3) := by decide +kernel
theorem dX5_bringBack_101 : decode cX5_bringBack 101 = .ok (.aload_n 0, 1) := by decide +kernel
theorem dX5_bringBack_102 : decode cX5_bringBack 102 = .ok (.getfield 22, 3) := by decide +kernel
theorem dX5_bringBack_105 : decode cX5_bringBack 105 = .ok (.iconst 0, 1) := by decide +kernel
theorem dX5_bringBack_106 : decode cX5_bringBack 106 = .ok (.aload_n 1, 1) := by decide +kernel
theorem dX5_bringBack_107 : decode cX5_bringBack 107 = .ok (.getfield 47, 3) := by decide +kernel
theorem dX5_bringBack_110 : decode cX5_bringBack 110 = .ok (.iconst 0, 1) := by decide +kernel
theorem dX5_bringBack_111 : decode cX5_bringBack 111 = .ok (.bipush 8, 2) := by decide +kernel
theorem dX5_bringBack_113 : decode cX5_bringBack 113 = .ok (.invokestatic 48, 3) := by decide +kernel
theorem dX5_bringBack_116 : decode cX5_bringBack 116 = .ok (.aload_n 0, 1) := by decide +kernel
theorem dX5_bringBack_117 : decode cX5_bringBack 117 = .ok (.getfield 29, 3) := by decide +kernel
theorem dX5_bringBack_120 : decode cX5_bringBack 120 = .ok (.iconst 0, 1) := by decide +kernel
theorem dX5_bringBack_121 : decode cX5_bringBack 121 = .ok (.aload_n 1, 1) := by decide +kernel
theorem dX5_bringBack_122 : decode cX5_bringBack 122 = .ok (.getfield 54, 3) := by decide +kernel
theorem dX5_bringBack_125 : decode cX5_bringBack 125 = .ok (.iconst 0, 1) := by decide +kernel
theorem dX5_bringBack_126 : decode cX5_bringBack 126 = .ok (.bipush 16, 2) := by decide +kernel
theorem dX5_bringBack_128 : decode cX5_bringBack 128 = .ok (.invokestatic 48, 3) := by decide +kernel
theorem dX5_bringBack_131 : decode cX5_bringBack 131 = .ok (.aload_n 0, 1) := by decide +kernel
theorem dX5_bringBack_132 : decode cX5_bringBack 132 = .ok (.getfield 32, 3) := by decide +kernel
theorem dX5_bringBack_135 : decode cX5_bringBack 135 = .ok (.iconst 0, 1) := by decide +kernel
theorem dX5_bringBack_136 : decode cX5_bringBack 136 = .ok (.aload_n 1, 1) := by decide +kernel
theorem dX5_bringBack_137 : decode cX5_bringBack 137 = .ok (.getfield 55, 3) := by decide +kernel
theorem dX5_bringBack_140 : decode cX5_bringBack 140 = .ok (.iconst 0, 1) := by decide +kernel
theorem dX5_bringBack_141 : decode cX5_bringBack 141 = .ok (.bipush 16, 2) := by decide +kernel
theorem dX5_bringBack_143 : decode cX5_bringBack 143 = .ok (.invokestatic 48, 3) := by decide +kernel
theorem dX5_bringBack_146 : decode cX5_bringBack 146 = .ok (.aload_n 1, 1) := by decide +kernel
theorem dX5_bringBack_147 : decode cX5_bringBack 147 = .ok (.aload_n 0, 1) := by decide +kernel
theorem dX5_bringBack_148 : decode cX5_bringBack 148 = .ok (.getfield 26, 3) := by decide +kernel
theorem dX5_bringBack_151 : decode cX5_bringBack 151 = .ok (.putfield 56, 3) := by decide +kernel
theorem dX5_bringBack_154 : decode cX5_bringBack 154 = .ok (.return_, 1) := by decide +kernel
theorem dX5_become_0 : decode cX5_become 0 = .ok (.aload_n 1, 1) := by decide +kernel
theorem dX5_become_1 : decode cX5_become 1 = .ok (.getfield 9, 3) := by decide +kernel
theorem dX5_become_4 : decode cX5_become 4 = .ok (.iconst 0, 1) := by decide +kernel
theorem dX5_become_5 : decode cX5_become 5 = .ok (.aload_n 0, 1) := by decide +kernel
theorem dX5_become_6 : decode cX5_become 6 = .ok (.getfield 9, 3) := by decide +kernel
theorem dX5_become_9 : decode cX5_become 9 = .ok (.iconst 0, 1) := by decide +kernel
theorem dX5_become_10 : decode cX5_become 10 = .ok (.aload_n 0, 1) := by decide +kernel
theorem dX5_become_11 : decode cX5_become 11 = .ok (.getfield 9, 3) := by decide +kernel
theorem dX5_become_14 : decode cX5_become 14 = .ok (.arraylength, 1) := by decide +kernel
theorem dX5_become_15 : decode cX5_become 15 = .ok (.invokestatic 48, 3) := by decide +kernel
theorem dX5_become_18 : decode cX5_become 18 = .ok (.aload_n 1, 1) := by decide +kernel
theorem dX5_become_19 : decode cX5_become 19 = .ok (.getfield 19, 3) := by decide +kernel
theorem dX5_become_22 : decode cX5_become 22 = .ok (.iconst 0, 1) := by decide +kernel
theorem dX5_become_23 : decode cX5_become 23 = .ok (.aload_n 0, 1) := by decide +kernel
theorem dX5_become_24 : decode cX5_become 24 = .ok (.getfield 19, 3) := by decide +kernel
theorem dX5_become_27 : decode cX5_become 27 = .ok (.iconst 0, 1) := by decide +kernel
theorem dX5_become_28 : decode cX5_become 28 = .ok (.aload_n 0, 1) := by decide +kernel
theorem dX5_become_29 : decode cX5_become 29 = .ok (.getfield 19, 3) := by decide +kernel
theorem dX5_become_32 : decode cX5_become 32 = .ok (.arraylength, 1) := by decide +kernel
theorem dX5_become_33 : decode cX5_become 33 = .ok (.invokestatic 48, 3) := by decide +kernel
theorem dX5_become_36 : decode cX5_become 36 = .ok (.aload_n 1, 1) := by decide +kernel
theorem dX5_become_37 : decode cX5_become 37 = .ok (.getfield 22, 3) := by decide +kernel
theorem dX5_become_40 : decode cX5_become 40 = .ok (.iconst 0, 1) := by decide +kernel
theorem dX5_become_41 : decode cX5_become 41 = .ok (.aload_n 0, 1) := by decide +kernel
theorem dX5_become_42 : decode cX5_become 42 = .ok (.getfield 22, 3) := by decide +kernel
theorem dX5_become_45 : decode cX5_become 45 = .ok (.iconst 0, 1) := by decide +kernel
theorem dX5_become_46 : decode cX5_become 46 = .ok (.bipush 8, 2) := by decide +kernel
theorem dX5_become_48 : decode cX5_become 48 = .ok (.invokestatic 48, 3) := by decide +kernel
theorem dX5_become_51 : decode cX5_become 51 = .ok (.aload_n 1, 1) := by decide +kernel
theorem dX5_become_52 : decode cX5_become 52 = .ok (.getfield 29, 3) := by decide +kernel
theorem dX5_become_55 : decode cX5_become 55 = .ok (.iconst 0, 1) := by decide +kernel
theorem dX5_become_56 : decode cX5_become 56 = .ok (.aload_n 0, 1) := by decide +kernel
theorem dX5_become_57 : decode cX5_become 57 = .ok (.getfield 29, 3) := by decide +kernel
theorem dX5_become_60 : decode cX5_become 60 = .ok (.iconst 0, 1) := by decide +kernel
theorem dX5_become_61 : decode cX5_become 61 = .ok (.bipush 16, 2) := by decide +kernel
theorem dX5_become_63 : decode cX5_become 63 = .ok (.invokestatic 48, 3) := by decide +kernel
theorem dX5_become_66 : decode cX5_become 66 = .ok (.aload_n 1, 1) := by decide +kernel
theorem dX5_become_67 : decode cX5_become 67 = .ok (.getfield 32, 3) := by decide +kernel
theorem dX5_become_70 : decode cX5_become 70 = .ok (.iconst 0, 1) := by decide +kernel
theorem dX5_become_71 : decode cX5_become 71 = .ok (.aload_n 0, 1) := by decide +kernel
theorem dX5_become_72 : decode cX5_become 72 = .ok (.getfield 32, 3) := by decide +kernel
theorem dX5_become_75 : decode cX5_become 75 = .ok (.iconst 0, 1) := by decide +kernel
theorem dX5_become_76 : decode cX5_become 76 = .ok (.bipush 16, 2) := by decide +kernel
theorem dX5_become_78 : decode cX5_become 78 = .ok (.invokestatic 48, 3) := by decide +kernel
theorem dX5_become_81 : decode cX5_become 81 = .ok (.aload_n 0, 1) := by decide +kernel
theorem dX5_become_82 : decode cX5_become 82 = .ok (.aload_n 1, 1) := by decide +kernel
theorem dX5_become_83 : decode cX5_become 83 = .ok (.getfield 15, 3) := by decide +kernel
theorem dX5_become_86 : decode cX5_become 86 = .ok (.putfield 15, 3) := by decide +kernel
theorem dX5_become_89 : decode cX5_become 89 = .ok (.aload_n 0, 1) := by decide +kernel
theorem dX5_become_90 : decode cX5_become 90 = .ok (.aload_n 1, 1) := by decide +kernel
theorem dX5_become_91 : decode cX5_become 91 = .ok (.getfield 26, 3) := by decide +kernel
theorem dX5_become_94 : decode cX5_become 94 = .ok (.putfield 26, 3) := by decide +kernel
theorem dX5_become_97 : decode cX5_become 97 = .ok (.return_, 1) := by decide +kernel
theorem dX6_init_0 : decode cX6_init 0 = .ok (.aload_n 0, 1) := by decide +kernel
theorem dX6_init_1 : decode cX6_init 1 = .ok (.invokespecial 1, 3) := by decide +kernel
theorem dX6_init_4 : decode cX6_init 4 = .ok (.aload_n 0, 1) := by decide +kernel
theorem dX6_init_5 : decode cX6_init 5 = .ok (.aload_n 1, 1) := by decide +kernel
theorem dX6_init_6 : decode cX6_init 6 = .ok (.putfield 7, 3) := by decide +kernel
theorem dX6_init_9 : decode cX6_init 9 = .ok (.return_, 1) := by decide +kernel
theorem dX6_add_0 : decode cX6_add 0 = .ok (.aload_n 0, 1) := by decide +kernel
theorem dX6_add_1 : decode cX6_add 1 = .ok (.getfield 13, 3) := by decide +kernel
theorem dX6_add_4 : decode cX6_add 4 = .ok (.aload_n 0, 1) := by decide +kernel
theorem dX6_add_5 : decode cX6_add 5 = .ok (.getfield 7, 3) := by decide +kernel
theorem dX6_add_8 : decode cX6_add 8 = .ok (.arraylength, 1) := by decide +kernel
theorem dX6_add_9 : decode cX6_add 9 = .ok (.if_icmp .lt 5, 3) := by decide +kernel
theorem dX6_add_12 : decode cX6_add 12 = .ok (.iconst 0, 1) := by decide +kernel
theorem dX6_add_13 : decode cX6_add 13 = .ok (.ireturn, 1) := by decide +kernel
theorem dX6_add_14 : decode cX6_add 14 = .ok (.aload_n 0, 1) := by decide +kernel
theorem dX6_add_15 : decode cX6_add 15 = .ok (.getfield 7, 3) := by decide +kernel
theorem dX6_add_18 : decode cX6_add 18 = .ok (.aload_n 0, 1) := by decide +kernel
theorem dX6_add_19 : decode cX6_add 19 = .ok (.getfield 13, 3) := by decide +kernel
theorem dX6_add_22 : decode cX6_add 22 = .ok (.iload_n 1, 1) := by decide +kernel
theorem dX6_add_23 : decode cX6_add 23 = .ok (.i2b, 1) := by decide +kernel
theorem dX6_add_24 : decode cX6_add 24 = .ok (.bastore, 1) := by decide +kernel
theorem dX6_add_25 : decode cX6_add 25 = .ok (.aload_n 0, 1) := by decide +kernel
theorem dX6_add_26 : decode cX6_add 26 = .ok (.dup, 1) := by decide +kernel
theorem dX6_add_27 : decode cX6_add 27 = .ok (.getfield 13, 3) := by decide +kernel
theorem dX6_add_30 : decode cX6_add 30 = .ok (.iconst 1, 1) := by decide +kernel
theorem dX6_add_31 : decode cX6_add 31 = .ok (.iadd, 1) := by decide +kernel
theorem dX6_add_32 : decode cX6_add 32 = .ok (.putfield 13, 3) := by decide +kernel
theorem dX6_add_35 : decode cX6_add 35 = .ok (.iconst 1, 1) := by decide +kernel
theorem dX6_add_36 : decode cX6_add 36 = .ok (.ireturn, 1) := by decide +kernel
theorem dX6_become_0 : decode cX6_become 0 = .ok (.aload_n 1, 1) := by decide +kernel
theorem dX6_become_1 : decode cX6_become 1 = .ok (.iload_n 2, 1) := by decide +kernel
theorem dX6_become_2 : decode cX6_become 2 = .ok (.aload_n 0, 1) := by decide +kernel
theorem dX6_become_3 : decode cX6_become 3 = .ok (.getfield 7, 3) := by decide +kernel
theorem dX6_become_6 : decode cX6_become 6 = .ok (.iconst 0, 1) := by decide +kernel
theorem dX6_become_7 : decode cX6_become 7 = .ok (.iload_n 3, 1) := by decide +kernel
theorem dX6_become_8 : decode cX6_become 8 = .ok (.invokestatic 17, 3) := by decide +kernel
theorem dX6_become_11 : decode cX6_become 11 = .ok (.aload_n 0, 1) := by decide +kernel
theorem dX6_become_12 : decode cX6_become 12 = .ok (.iload_n 3, 1) := by decide +kernel
theorem dX6_become_13 : decode cX6_become 13 = .ok (.putfield 13, 3) := by decide +kernel
theorem dX6_become_16 : decode cX6_become 16 = .ok (.return_, 1) := by decide +kernel
theorem dX7_init_0 : decode cX7_init 0 = .ok (.aload_n 0, 1) := by decide +kernel
theorem dX7_init_1 : decode cX7_init 1 = .ok (.invokespecial 3, 3) := by decide +kernel
theorem dX7_init_4 : decode cX7_init 4 = .ok (.aload_n 0, 1) := by decide +kernel
theorem dX7_init_5 : decode cX7_init 5 = .ok (.new 9, 3) := by decide +kernel
theorem dX7_init_8 : decode cX7_init 8 = .ok (.dup, 1) := by decide +kernel
theorem dX7_init_9 : decode cX7_init 9 = .ok (.bipush 40, 2) := by decide +kernel
theorem dX7_init_11 : decode cX7_init 11 = .ok (.newarray .byte, 2) := by decide +kernel
theorem dX7_init_13 : decode cX7_init 13 = .ok (.invokespecial 11, 3) := by decide +kernel
theorem dX7_init_16 : decode cX7_init 16 = .ok (.putfield 14, 3) := by decide +kernel
theorem dX7_init_19 : decode cX7_init 19 = .ok (.aload_n 0, 1) := by decide +kernel
theorem dX7_init_20 : decode cX7_init 20 = .ok (.iconst 0, 1) := by decide +kernel
theorem dX7_init_21 : decode cX7_init 21 = .ok (.putfield 20, 3) := by decide +kernel
theorem dX7_init_24 : decode cX7_init 24 = .ok (.return_, 1) := by decide +kernel
theorem dX7_isSet_0 : decode cX7_isSet 0 = .ok (.aload_n 0, 1) := by decide +kernel
theorem dX7_isSet_1 : decode cX7_isSet 1 = .ok (.getfield 14, 3) := by decide +kernel
theorem dX7_isSet_4 : decode cX7_isSet 4 = .ok (.getfield 24, 3) := by decide +kernel
theorem dX7_isSet_7 : decode cX7_isSet 7 = .ok (.ifCond .le 7, 3) := by decide +kernel
theorem dX7_isSet_10 : decode cX7_isSet 10 = .ok (.iconst 1, 1) := by decide +kernel
theorem dX7_isSet_11 : decode cX7_isSet 11 = .ok (.goto 4, 3) := by decide +kernel
theorem dX7_isSet_14 : decode cX7_isSet 14 = .ok (.iconst 0, 1) := by decide +kernel
theorem dX7_isSet_15 : decode cX7_isSet 15 = .ok (.ireturn, 1) := by decide +kernel
theorem dX7_next_0 : decode cX7_next 0 = .ok (.iload_n 2, 1) := by decide +kernel
theorem dX7_next_1 : decode cX7_next 1 = .ok (.istore_n 3, 1) := by decide +kernel
theorem dX7_next_2 : decode cX7_next 2 = .ok (.iload_n 3, 1) := by decide +kernel
theorem dX7_next_3 : decode cX7_next 3 = .ok (.aload_n 1, 1) := by decide +kernel
theorem dX7_next_4 : decode cX7_next 4 = .ok (.getfield 28, 3) := by decide +kernel
theorem dX7_next_7 : decode cX7_next 7 = .ok (.aload_n 0, 1) := by decide +kernel
theorem dX7_next_8 : decode cX7_next 8 = .ok (.getfield 14, 3) := by decide +kernel
theorem dX7_next_11 : decode cX7_next 11 = .ok (.getfield 24, 3) := by decide +kernel
theorem dX7_next_14 : decode cX7_next 14 = .ok (.isub, 1) := by decide +kernel
theorem dX7_next_15 : decode cX7_next 15 = .ok (.if_icmp .gt 20, 3) := by decide +kernel
theorem dX7_next_18 : decode cX7_next 18 = .ok (.aload_n 0, 1) := by decide +kernel
theorem dX7_next_19 : decode cX7_next 19 = .ok (.aload_n 1, 1) := by decide +kernel
theorem dX7_next_20 : decode cX7_next 20 = .ok (.iload_n 3, 1) := by decide +kernel
theorem dX7_next_21 : decode cX7_next 21 = .ok (.invokevirtual 31, 3) := by decide +kernel
theorem dX7_next_24 : decode cX7_next 24 = .ok (.ifCond .eq 5, 3) := by decide +kernel
theorem dX7_next_27 : decode cX7_next 27 = .ok (.iload_n 3, 1) := by decide +kernel
theorem dX7_next_28 : decode cX7_next 28 = .ok (.ireturn, 1) := by decide +kernel
theorem dX7_next_29 : decode cX7_next 29 = .ok (.iinc 3 1, 3) := by decide +kernel
theorem dX7_next_32 : decode cX7_next 32 = .ok (.goto (-30), 3) := by decide +kernel
theorem dX7_next_35 : decode cX7_next 35 = .ok (.iconst (-1), 1) := by decide +kernel
theorem dX7_next_36 : decode cX7_next 36 = .ok (.ireturn, 1) := by decide +kernel
theorem dX7_before_0 : decode cX7_before 0 = .ok (.iload_n 2, 1) := by decide +kernel
theorem dX7_before_1 : decode cX7_before 1 = .ok (.iconst 1, 1) := by decide +kernel
theorem dX7_before_2 : decode cX7_before 2 = .ok (.isub, 1) := by decide +kernel
theorem dX7_before_3 : decode cX7_before 3 = .ok (.aload_n 1, 1) := by decide +kernel
theorem dX7_before_4 : decode cX7_before 4 = .ok (.getfield 28, 3) := by decide +kernel
theorem dX7_before_7 : decode cX7_before 7 = .ok (.aload_n 0, 1) := by decide +kernel
theorem dX7_before_8 : decode cX7_before 8 = .ok (.getfield 14, 3) := by decide +kernel
theorem dX7_before_11 : decode cX7_before 11 = .ok (.getfield 24, 3) := by decide +kernel
theorem dX7_before_14 : decode cX7_before 14 = .ok (.isub, 1) := by decide +kernel
theorem dX7_before_15 : decode cX7_before 15 = .ok (.invokestatic 35, 3) := by decide +kernel
theorem dX7_before_18 : decode cX7_before 18 = .ok (.istore_n 3, 1) := by decide +kernel
theorem dX7_before_19 : decode cX7_before 19 = .ok (.iload_n 3, 1) := by decide +kernel
theorem dX7_before_20 : decode cX7_before 20 = .ok (.ifCond .lt 20, 3) := by decide +kernel
theorem dX7_before_23 : decode cX7_before 23 = .ok (.aload_n 0, 1) := by decide +kernel
theorem dX7_before_24 : decode cX7_before 24 = .ok (.aload_n 1, 1) := by decide +kernel
theorem dX7_before_25 : decode cX7_before 25 = .ok (.iload_n 3, 1) := by decide +kernel
theorem dX7_before_26 : decode cX7_before 26 = .ok (.invokevirtual 31, 3) := by decide +kernel
theorem dX7_before_29 : decode cX7_before 29 = .ok (.ifCond .eq 5, 3) := by decide +kernel
theorem dX7_before_32 : decode cX7_before 32 = .ok (.iload_n 3, 1) := by decide +kernel
theorem dX7_before_33 : decode cX7_before 33 = .ok (.ireturn, 1) := by decide +kernel
theorem dX7_before_34 : decode cX7_before 34 = .ok (.iinc 3 (-1), 3) := by decide +kernel
theorem dX7_before_37 : decode cX7_before 37 = .ok (.goto (-18), 3) := by decide +kernel
theorem dX7_before_40 : decode cX7_before 40 = .ok (.iconst (-1), 1) := by decide +kernel
theorem dX7_before_41 : decode cX7_before 41 = .ok (.ireturn, 1) := by decide +kernel
theorem dX7_countFinds_0 : decode cX7_countFinds 0 = .ok (.iconst 0, 1) := by decide +kernel
theorem dX7_countFinds_1 : decode cX7_countFinds 1 = .ok (.istore_n 2, 1) := by decide +kernel
theorem dX7_countFinds_2 : decode cX7_countFinds 2 = .ok (.iconst 0, 1) := by decide +kernel
theorem dX7_countFinds_3 : decode cX7_countFinds 3 = .ok (.istore_n 3, 1) := by decide +kernel
theorem dX7_countFinds_4 : decode cX7_countFinds 4 = .ok (.iload_n 3, 1) := by decide +kernel
theorem dX7_countFinds_5 : decode cX7_countFinds 5 = .ok (.aload_n 1, 1) := by decide +kernel
theorem dX7_countFinds_6 : decode cX7_countFinds 6 = .ok (.getfield 28, 3) := by decide +kernel
theorem dX7_countFinds_9 : decode cX7_countFinds 9 = .ok (.aload_n 0, 1) := by decide +kernel
theorem dX7_countFinds_10 : decode cX7_countFinds 10 = .ok (.getfield 14, 3) := by decide +kernel
theorem dX7_countFinds_13 : decode cX7_countFinds 13 = .ok (.getfield 24, 3) := by decide +kernel
theorem dX7_countFinds_16 : decode cX7_countFinds 16 = .ok (.isub, 1) := by decide +kernel
theorem dX7_countFinds_17 : decode cX7_countFinds 17 = .ok (.if_icmp .gt 26, 3) := by decide +kernel
theorem dX7_countFinds_20 : decode cX7_countFinds 20 = .ok (.iload_n 2, 1) := by decide +kernel
theorem dX7_countFinds_21 : decode cX7_countFinds 21 = .ok (.aload_n 0, 1) := by decide +kernel
theorem dX7_countFinds_22 : decode cX7_countFinds 22 = .ok (.aload_n 1, 1) := by decide +kernel
theorem dX7_countFinds_23 : decode cX7_countFinds 23 = .ok (.iload_n 3, 1) := by decide +kernel
theorem dX7_countFinds_24 : decode cX7_countFinds 24 = .ok (.invokevirtual 31, 3) := by decide +kernel
theorem dX7_countFinds_27 : decode cX7_countFinds 27 = .ok (.ifCond .eq 7, 3) := by decide +kernel
theorem dX7_countFinds_30 : decode cX7_countFinds 30 = .ok (.iconst 1, 1) := by decide +kernel
theorem dX7_countFinds_31 : decode cX7_countFinds 31 = .ok (.goto 4, 3) := by decide +kernel
theorem dX7_countFinds_34 : decode cX7_countFinds 34 = .ok (.iconst 0, 1) := by decide +kernel
theorem dX7_countFinds_35 : decode cX7_countFinds 35 = .ok (.iadd, 1) := by decide +kernel
theorem dX7_countFinds_36 : decode cX7_countFinds 36 = .ok (.istore_n 2, 1) := by decide +kernel
theorem dX7_countFinds_37 : decode cX7_countFinds 37 = .ok (.iinc 3 1, 3) := by decide +kernel
theorem dX7_countFinds_40 : decode cX7_countFinds 40 = .ok (.goto (-36), 3) := by decide +kernel
theorem dX7_countFinds_43 : decode cX7_countFinds 43 = .ok (.iload_n 2, 1) := by decide +kernel
theorem dX7_countFinds_44 : decode cX7_countFinds 44 = .ok (.ireturn, 1) := by decide +kernel
theorem dX7_isFind_0 : decode cX7_isFind 0 = .ok (.iconst 0, 1) := by decide +kernel
theorem dX7_isFind_1 : decode cX7_isFind 1 = .ok (.istore_n 3, 1) := by decide +kernel
theorem dX7_isFind_2 : decode cX7_isFind 2 = .ok (.iload_n 3, 1) := by decide +kernel
theorem dX7_isFind_3 : decode cX7_isFind 3 = .ok (.aload_n 0, 1) := by decide +kernel
theorem dX7_isFind_4 : decode cX7_isFind 4 = .ok (.getfield 14, 3) := by decide +kernel
theorem dX7_isFind_7 : decode cX7_isFind 7 = .ok (.getfield 24, 3) := by decide +kernel
theorem dX7_isFind_10 : decode cX7_isFind 10 = .ok (.if_icmp .ge 31, 3) := by decide +kernel
theorem dX7_isFind_13 : decode cX7_isFind 13 = .ok (.aload_n 1, 1) := by decide +kernel
theorem dX7_isFind_14 : decode cX7_isFind 14 = .ok (.getfield 41, 3) := by decide +kernel
theorem dX7_isFind_17 : decode cX7_isFind 17 = .ok (.iload_n 2, 1) := by decide +kernel
theorem dX7_isFind_18 : decode cX7_isFind 18 = .ok (.iload_n 3, 1) := by decide +kernel
theorem dX7_isFind_19 : decode cX7_isFind 19 = .ok (.iadd, 1) := by decide +kernel
theorem dX7_isFind_20 : decode cX7_isFind 20 = .ok (.baload, 1) := by decide +kernel
theorem dX7_isFind_21 : decode cX7_isFind 21 = .ok (.aload_n 0, 1) := by decide +kernel
theorem dX7_isFind_22 : decode cX7_isFind 22 = .ok (.getfield 14, 3) := by decide +kernel
theorem dX7_isFind_25 : decode cX7_isFind 25 = .ok (.getfield 45, 3) := by decide +kernel
theorem dX7_isFind_28 : decode cX7_isFind 28 = .ok (.iload_n 3, 1) := by decide +kernel
theorem dX7_isFind_29 : decode cX7_isFind 29 = .ok (.baload, 1) := by decide +kernel
theorem dX7_isFind_30 : decode cX7_isFind 30 = .ok (.if_icmp .eq 5, 3) := by decide +kernel
theorem dX7_isFind_33 : decode cX7_isFind 33 = .ok (.iconst 0, 1) := by decide +kernel
theorem dX7_isFind_34 : decode cX7_isFind 34 = .ok (.ireturn, 1) := by decide +kernel
theorem dX7_isFind_35 : decode cX7_isFind 35 = .ok (.iinc 3 1, 3) := by decide +kernel
theorem dX7_isFind_38 : decode cX7_isFind 38 = .ok (.goto (-36), 3) := by decide +kernel
theorem dX7_isFind_41 : decode cX7_isFind 41 = .ok (.aload_n 0, 1) := by decide +kernel
theorem dX7_isFind_42 : decode cX7_isFind 42 = .ok (.getfield 20, 3) := by decide +kernel
theorem dX7_isFind_45 : decode cX7_isFind 45 = .ok (.ifCond .ne 5, 3) := by decide +kernel
theorem dX7_isFind_48 : decode cX7_isFind 48 = .ok (.iconst 1, 1) := by decide +kernel
theorem dX7_isFind_49 : decode cX7_isFind 49 = .ok (.ireturn, 1) := by decide +kernel
theorem dX7_isFind_50 : decode cX7_isFind 50 = .ok (.iload_n 2, 1) := by decide +kernel
theorem dX7_isFind_51 : decode cX7_isFind 51 = .ok (.aload_n 0, 1) := by decide +kernel
theorem dX7_isFind_52 : decode cX7_isFind 52 = .ok (.getfield 14, 3) := by decide +kernel
theorem dX7_isFind_55 : decode cX7_isFind 55 = .ok (.getfield 24, 3) := by decide +kernel
theorem dX7_isFind_58 : decode cX7_isFind 58 = .ok (.iadd, 1) := by decide +kernel
theorem dX7_isFind_59 : decode cX7_isFind 59 = .ok (.istore_n 3, 1) := by decide +kernel
theorem dX7_isFind_60 : decode cX7_isFind 60 = .ok (.iload_n 2, 1) := by decide +kernel
theorem dX7_isFind_61 : decode cX7_isFind 61 = .ok (.ifCond .le 21, 3) := by decide +kernel
theorem dX7_isFind_64 : decode cX7_isFind 64 = .ok (.aload_n 1, 1) := by decide +kernel
theorem dX7_isFind_65 : decode cX7_isFind 65 = .ok (.getfield 41, 3) := by decide +kernel
theorem dX7_isFind_68 : decode cX7_isFind 68 = .ok (.iload_n 2, 1) := by decide +kernel
theorem dX7_isFind_69 : decode cX7_isFind 69 = .ok (.iconst 1, 1) := by decide +kernel
theorem dX7_isFind_70 : decode cX7_isFind 70 = .ok (.isub, 1) := by decide +kernel
theorem dX7_isFind_71 : decode cX7_isFind 71 = .ok (.baload, 1) := by decide +kernel
theorem dX7_isFind_72 : decode cX7_isFind 72 = .ok (.invokestatic 46, 3) := by decide +kernel
theorem dX7_isFind_75 : decode cX7_isFind 75 = .ok (.ifCond .eq 7, 3) := by decide +kernel
theorem dX7_isFind_78 : decode cX7_isFind 78 = .ok (.iconst 1, 1) := by decide +kernel
theorem dX7_isFind_79 : decode cX7_isFind 79 = .ok (.goto 4, 3) := by decide +kernel
theorem dX7_isFind_82 : decode cX7_isFind 82 = .ok (.iconst 0, 1) := by decide +kernel
theorem dX7_isFind_83 : decode cX7_isFind 83 = .ok (.istore 4, 2) := by decide +kernel
theorem dX7_isFind_85 : decode cX7_isFind 85 = .ok (.iload 4, 2) := by decide +kernel
theorem dX7_isFind_87 : decode cX7_isFind 87 = .ok (.ifCond .ne 27, 3) := by decide +kernel
theorem dX7_isFind_90 : decode cX7_isFind 90 = .ok (.iload_n 3, 1) := by decide +kernel
theorem dX7_isFind_91 : decode cX7_isFind 91 = .ok (.aload_n 1, 1) := by decide +kernel
theorem dX7_isFind_92 : decode cX7_isFind 92 = .ok (.getfield 28, 3) := by decide +kernel
theorem dX7_isFind_95 : decode cX7_isFind 95 = .ok (.if_icmp .ge 15, 3) := by decide +kernel
theorem dX7_isFind_98 : decode cX7_isFind 98 = .ok (.aload_n 1, 1) := by decide +kernel
theorem dX7_isFind_99 : decode cX7_isFind 99 = .ok (.getfield 41, 3) := by decide +kernel
theorem dX7_isFind_102 : decode cX7_isFind 102 = .ok (.iload_n 3, 1) := by decide +kernel
theorem dX7_isFind_103 : decode cX7_isFind 103 = .ok (.baload, 1) := by decide +kernel
theorem dX7_isFind_104 : decode cX7_isFind 104 = .ok (.invokestatic 46, 3) := by decide +kernel
theorem dX7_isFind_107 : decode cX7_isFind 107 = .ok (.ifCond .ne 7, 3) := by decide +kernel
theorem dX7_isFind_110 : decode cX7_isFind 110 = .ok (.iconst 1, 1) := by decide +kernel
theorem dX7_isFind_111 : decode cX7_isFind 111 = .ok (.goto 4, 3) := by decide +kernel
theorem dX7_isFind_114 : decode cX7_isFind 114 = .ok (.iconst 0, 1) := by decide +kernel
theorem dX7_isFind_115 : decode cX7_isFind 115 = .ok (.ireturn, 1) := by decide +kernel
theorem dX8_init_0 : decode cX8_init 0 = .ok (.aload_n 0, 1) := by decide +kernel
theorem dX8_init_1 : decode cX8_init 1 = .ok (.invokespecial 3, 3) := by decide +kernel
theorem dX8_init_4 : decode cX8_init 4 = .ok (.aload_n 0, 1) := by decide +kernel
theorem dX8_init_5 : decode cX8_init 5 = .ok (.sipush 3000, 3) := by decide +kernel
theorem dX8_init_8 : decode cX8_init 8 = .ok (.newarray .byte, 2) := by decide +kernel
theorem dX8_init_10 : decode cX8_init 10 = .ok (.putfield 9, 3) := by decide +kernel
theorem dX8_init_13 : decode cX8_init 13 = .ok (.aload_n 0, 1) := by decide +kernel
theorem dX8_init_14 : decode cX8_init 14 = .ok (.iconst 0, 1) := by decide +kernel
theorem dX8_init_15 : decode cX8_init 15 = .ok (.putfield 15, 3) := by decide +kernel
theorem dX8_init_18 : decode cX8_init 18 = .ok (.aload_n 0, 1) := by decide +kernel
theorem dX8_init_19 : decode cX8_init 19 = .ok (.sipush 300, 3) := by decide +kernel
theorem dX8_init_22 : decode cX8_init 22 = .ok (.newarray .int, 2) := by decide +kernel
theorem dX8_init_24 : decode cX8_init 24 = .ok (.putfield 19, 3) := by decide +kernel
theorem dX8_init_27 : decode cX8_init 27 = .ok (.aload_n 0, 1) := by decide +kernel
theorem dX8_init_28 : decode cX8_init 28 = .ok (.sipush 300, 3) := by decide +kernel
theorem dX8_init_31 : decode cX8_init 31 = .ok (.newarray .boolean, 2) := by decide +kernel
theorem dX8_init_33 : decode cX8_init 33 = .ok (.putfield 23, 3) := by decide +kernel
theorem dX8_init_36 : decode cX8_init 36 = .ok (.aload_n 0, 1) := by decide +kernel
theorem dX8_init_37 : decode cX8_init 37 = .ok (.iconst 1, 1) := by decide +kernel
theorem dX8_init_38 : decode cX8_init 38 = .ok (.putfield 27, 3) := by decide +kernel
theorem dX8_init_41 : decode cX8_init 41 = .ok (.aload_n 0, 1) := by decide +kernel
theorem dX8_init_42 : decode cX8_init 42 = .ok (.bipush 8, 2) := by decide +kernel
theorem dX8_init_44 : decode cX8_init 44 = .ok (.newarray .int, 2) := by decide +kernel
theorem dX8_init_46 : decode cX8_init 46 = .ok (.putfield 30, 3) := by decide +kernel
theorem dX8_init_49 : decode cX8_init 49 = .ok (.aload_n 0, 1) := by decide +kernel
theorem dX8_init_50 : decode cX8_init 50 = .ok (.iconst 1, 1) := by decide +kernel
theorem dX8_init_51 : decode cX8_init 51 = .ok (.putfield 33, 3) := by decide +kernel
theorem dX8_init_54 : decode cX8_init 54 = .ok (.aload_n 0, 1) := by decide +kernel
theorem dX8_init_55 : decode cX8_init 55 = .ok (.bipush 16, 2) := by decide +kernel
theorem dX8_init_57 : decode cX8_init 57 = .ok (.newarray .int, 2) := by decide +kernel
theorem dX8_init_59 : decode cX8_init 59 = .ok (.putfield 36, 3) := by decide +kernel
theorem dX8_init_62 : decode cX8_init 62 = .ok (.aload_n 0, 1) := by decide +kernel
theorem dX8_init_63 : decode cX8_init 63 = .ok (.bipush 16, 2) := by decide +kernel
theorem dX8_init_65 : decode cX8_init 65 = .ok (.newarray .boolean, 2) := by decide +kernel
theorem dX8_init_67 : decode cX8_init 67 = .ok (.putfield 39, 3) := by decide +kernel
theorem dX8_init_70 : decode cX8_init 70 = .ok (.iconst 0, 1) := by decide +kernel
theorem dX8_init_71 : decode cX8_init 71 = .ok (.istore_n 1, 1) := by decide +kernel
theorem dX8_init_72 : decode cX8_init 72 = .ok (.iload_n 1, 1) := by decide +kernel
theorem dX8_init_73 : decode cX8_init 73 = .ok (.bipush 16, 2) := by decide +kernel
theorem dX8_init_75 : decode cX8_init 75 = .ok (.if_icmp .ge 16, 3) := by decide +kernel
theorem dX8_init_78 : decode cX8_init 78 = .ok (.aload_n 0, 1) := by decide +kernel
theorem dX8_init_79 : decode cX8_init 79 = .ok (.getfield 36, 3) := by decide +kernel
theorem dX8_init_82 : decode cX8_init 82 = .ok (.iload_n 1, 1) := by decide +kernel
theorem dX8_init_83 : decode cX8_init 83 = .ok (.iconst (-1), 1) := by decide +kernel
theorem dX8_init_84 : decode cX8_init 84 = .ok (.iastore, 1) := by decide +kernel
theorem dX8_init_85 : decode cX8_init 85 = .ok (.iinc 1 1, 3) := by decide +kernel
theorem dX8_init_88 : decode cX8_init 88 = .ok (.goto (-16), 3) := by decide +kernel
theorem dX8_init_91 : decode cX8_init 91 = .ok (.return_, 1) := by decide +kernel
theorem dX8_become_0 : decode cX8_become 0 = .ok (.aload_n 1, 1) := by decide +kernel
theorem dX8_become_1 : decode cX8_become 1 = .ok (.getfield 9, 3) := by decide +kernel
theorem dX8_become_4 : decode cX8_become 4 = .ok (.iconst 0, 1) := by decide +kernel
theorem dX8_become_5 : decode cX8_become 5 = .ok (.aload_n 0, 1) := by decide +kernel
theorem dX8_become_6 : decode cX8_become 6 = .ok (.getfield 9, 3) := by decide +kernel
theorem dX8_become_9 : decode cX8_become 9 = .ok (.iconst 0, 1) := by decide +kernel
theorem dX8_become_10 : decode cX8_become 10 = .ok (.aload_n 1, 1) := by decide +kernel
theorem dX8_become_11 : decode cX8_become 11 = .ok (.getfield 15, 3) := by decide +kernel
theorem dX8_become_14 : decode cX8_become 14 = .ok (.invokestatic 42, 3) := by decide +kernel
theorem dX8_become_17 : decode cX8_become 17 = .ok (.aload_n 1, 1) := by decide +kernel
theorem dX8_become_18 : decode cX8_become 18 = .ok (.getfield 19, 3) := by decide +kernel
theorem dX8_become_21 : decode cX8_become 21 = .ok (.iconst 0, 1) := by decide +kernel
theorem dX8_become_22 : decode cX8_become 22 = .ok (.aload_n 0, 1) := by decide +kernel
theorem dX8_become_23 : decode cX8_become 23 = .ok (.getfield 19, 3) := by decide +kernel
theorem dX8_become_26 : decode cX8_become 26 = .ok (.iconst 0, 1) := by decide +kernel
theorem dX8_become_27 : decode cX8_become 27 = .ok (.aload_n 1, 1) := by decide +kernel
theorem dX8_become_28 : decode cX8_become 28 = .ok (.getfield 27, 3) := by decide +kernel
theorem dX8_become_31 : decode cX8_become 31 = .ok (.invokestatic 42, 3) := by decide +kernel
theorem dX8_become_34 : decode cX8_become 34 = .ok (.aload_n 1, 1) := by decide +kernel
theorem dX8_become_35 : decode cX8_become 35 = .ok (.getfield 23, 3) := by decide +kernel
theorem dX8_become_38 : decode cX8_become 38 = .ok (.iconst 0, 1) := by decide +kernel
theorem dX8_become_39 : decode cX8_become 39 = .ok (.aload_n 0, 1) := by decide +kernel
theorem dX8_become_40 : decode cX8_become 40 = .ok (.getfield 23, 3) := by decide +kernel
theorem dX8_become_43 : decode cX8_become 43 = .ok (.iconst 0, 1) := by decide +kernel
theorem dX8_become_44 : decode cX8_become 44 = .ok (.aload_n 1, 1) := by decide +kernel
theorem dX8_become_45 : decode cX8_become 45 = .ok (.getfield 27, 3) := by decide +kernel
theorem dX8_become_48 : decode cX8_become 48 = .ok (.invokestatic 42, 3) := by decide +kernel
theorem dX8_become_51 : decode cX8_become 51 = .ok (.aload_n 1, 1) := by decide +kernel
theorem dX8_become_52 : decode cX8_become 52 = .ok (.getfield 30, 3) := by decide +kernel
theorem dX8_become_55 : decode cX8_become 55 = .ok (.iconst 0, 1) := by decide +kernel
theorem dX8_become_56 : decode cX8_become 56 = .ok (.aload_n 0, 1) := by decide +kernel
theorem dX8_become_57 : decode cX8_become 57 = .ok (.getfield 30, 3) := by decide +kernel
theorem dX8_become_60 : decode cX8_become 60 = .ok (.iconst 0, 1) := by decide +kernel
theorem dX8_become_61 : decode cX8_become 61 = .ok (.aload_n 1, 1) := by decide +kernel
theorem dX8_become_62 : decode cX8_become 62 = .ok (.getfield 33, 3) := by decide +kernel
theorem dX8_become_65 : decode cX8_become 65 = .ok (.invokestatic 42, 3) := by decide +kernel
theorem dX8_become_68 : decode cX8_become 68 = .ok (.aload_n 1, 1) := by decide +kernel
theorem dX8_become_69 : decode cX8_become 69 = .ok (.getfield 36, 3) := by decide +kernel
theorem dX8_become_72 : decode cX8_become 72 = .ok (.iconst 0, 1) := by decide +kernel
theorem dX8_become_73 : decode cX8_become 73 = .ok (.aload_n 0, 1) := by decide +kernel
theorem dX8_become_74 : decode cX8_become 74 = .ok (.getfield 36, 3) := by decide +kernel
theorem dX8_become_77 : decode cX8_become 77 = .ok (.iconst 0, 1) := by decide +kernel
theorem dX8_become_78 : decode cX8_become 78 = .ok (.bipush 16, 2) := by decide +kernel
theorem dX8_become_80 : decode cX8_become 80 = .ok (.invokestatic 42, 3) := by decide +kernel
theorem dX8_become_83 : decode cX8_become 83 = .ok (.aload_n 1, 1) := by decide +kernel
theorem dX8_become_84 : decode cX8_become 84 = .ok (.getfield 39, 3) := by decide +kernel
theorem dX8_become_87 : decode cX8_become 87 = .ok (.iconst 0, 1) := by decide +kernel
theorem dX8_become_88 : decode cX8_become 88 = .ok (.aload_n 0, 1) := by decide +kernel
theorem dX8_become_89 : decode cX8_become 89 = .ok (.getfield 39, 3) := by decide +kernel
theorem dX8_become_92 : decode cX8_become 92 = .ok (.iconst 0, 1) := by decide +kernel
theorem dX8_become_93 : decode cX8_become 93 = .ok (.bipush 16, 2) := by decide +kernel
theorem dX8_become_95 : decode cX8_become 95 = .ok (.invokestatic 42, 3) := by decide +kernel
theorem dX8_become_98 : decode cX8_become 98 = .ok (.aload_n 0, 1) := by decide +kernel
theorem dX8_become_99 : decode cX8_become 99 = .ok (.aload_n 1, 1) := by decide +kernel
theorem dX8_become_100 : decode cX8_become 100 = .ok (.getfield 15, 3) := by decide +kernel
theorem dX8_become_103 : decode cX8_become 103 = .ok (.putfield 15, 3) := by decide +kernel
theorem dX8_become_106 : decode cX8_become 106 = .ok (.aload_n 0, 1) := by decide +kernel
theorem dX8_become_107 : decode cX8_become 107 = .ok (.aload_n 1, 1) := by decide +kernel
theorem dX8_become_108 : decode cX8_become 108 = .ok (.getfield 27, 3) := by decide +kernel
theorem dX8_become_111 : decode cX8_become 111 = .ok (.putfield 27, 3) := by decide +kernel
theorem dX8_become_114 : decode cX8_become 114 = .ok (.aload_n 0, 1) := by decide +kernel
theorem dX8_become_115 : decode cX8_become 115 = .ok (.aload_n 1, 1) := by decide +kernel
theorem dX8_become_116 : decode cX8_become 116 = .ok (.getfield 33, 3) := by decide +kernel
theorem dX8_become_119 : decode cX8_become 119 = .ok (.putfield 33, 3) := by decide +kernel
theorem dX8_become_122 : decode cX8_become 122 = .ok (.return_, 1) := by decide +kernel
theorem dX8_findLines_0 : decode cX8_findLines 0 = .ok (.aload_n 0, 1) := by decide +kernel
theorem dX8_findLines_1 : decode cX8_findLines 1 = .ok (.getfield 19, 3) := by decide +kernel
theorem dX8_findLines_4 : decode cX8_findLines 4 = .ok (.iconst 0, 1) := by decide +kernel
theorem dX8_findLines_5 : decode cX8_findLines 5 = .ok (.iconst 0, 1) := by decide +kernel
theorem dX8_findLines_6 : decode cX8_findLines 6 = .ok (.iastore, 1) := by decide +kernel
theorem dX8_findLines_7 : decode cX8_findLines 7 = .ok (.aload_n 0, 1) := by decide +kernel
theorem dX8_findLines_8 : decode cX8_findLines 8 = .ok (.iconst 1, 1) := by decide +kernel
theorem dX8_findLines_9 : decode cX8_findLines 9 = .ok (.putfield 27, 3) := by decide +kernel
theorem dX8_findLines_12 : decode cX8_findLines 12 = .ok (.iconst 0, 1) := by decide +kernel
theorem dX8_findLines_13 : decode cX8_findLines 13 = .ok (.istore_n 1, 1) := by decide +kernel
theorem dX8_findLines_14 : decode cX8_findLines 14 = .ok (.iload_n 1, 1) := by decide +kernel
theorem dX8_findLines_15 : decode cX8_findLines 15 = .ok (.aload_n 0, 1) := by decide +kernel
theorem dX8_findLines_16 : decode cX8_findLines 16 = .ok (.getfield 15, 3) := by decide +kernel
theorem dX8_findLines_19 : decode cX8_findLines 19 = .ok (.if_icmp .ge 52, 3) := by decide +kernel
theorem dX8_findLines_22 : decode cX8_findLines 22 = .ok (.aload_n 0, 1) := by decide +kernel
theorem dX8_findLines_23 : decode cX8_findLines 23 = .ok (.getfield 27, 3) := by decide +kernel
theorem dX8_findLines_26 : decode cX8_findLines 26 = .ok (.sipush 300, 3) := by decide +kernel
theorem dX8_findLines_29 : decode cX8_findLines 29 = .ok (.if_icmp .ge 42, 3) := by decide +kernel
theorem dX8_findLines_32 : decode cX8_findLines 32 = .ok (.aload_n 0, 1) := by decide +kernel
theorem dX8_findLines_33 : decode cX8_findLines 33 = .ok (.getfield 9, 3) := by decide +kernel
theorem dX8_findLines_36 : decode cX8_findLines 36 = .ok (.iload_n 1, 1) := by decide +kernel
theorem dX8_findLines_37 : decode cX8_findLines 37 = .ok (.baload, 1) := by decide +kernel
theorem dX8_findLines_38 : decode cX8_findLines 38 = .ok (.bipush 10, 2) := by decide +kernel
theorem dX8_findLines_40 : decode cX8_findLines 40 = .ok (.if_icmp .ne 25, 3) := by decide +kernel
theorem dX8_findLines_43 : decode cX8_findLines 43 = .ok (.aload_n 0, 1) := by decide +kernel
theorem dX8_findLines_44 : decode cX8_findLines 44 = .ok (.getfield 19, 3) := by decide +kernel
theorem dX8_findLines_47 : decode cX8_findLines 47 = .ok (.aload_n 0, 1) := by decide +kernel
theorem dX8_findLines_48 : decode cX8_findLines 48 = .ok (.getfield 27, 3) := by decide +kernel
theorem dX8_findLines_51 : decode cX8_findLines 51 = .ok (.iload_n 1, 1) := by decide +kernel
theorem dX8_findLines_52 : decode cX8_findLines 52 = .ok (.iconst 1, 1) := by decide +kernel
theorem dX8_findLines_53 : decode cX8_findLines 53 = .ok (.iadd, 1) := by decide +kernel
theorem dX8_findLines_54 : decode cX8_findLines 54 = .ok (.iastore, 1) := by decide +kernel
theorem dX8_findLines_55 : decode cX8_findLines 55 = .ok (.aload_n 0, 1) := by decide +kernel
theorem dX8_findLines_56 : decode cX8_findLines 56 = .ok (.dup, 1) := by decide +kernel
theorem dX8_findLines_57 : decode cX8_findLines 57 = .ok (.getfield 27, 3) := by decide +kernel
theorem dX8_findLines_60 : decode cX8_findLines 60 = .ok (.iconst 1, 1) := by decide +kernel
theorem dX8_findLines_61 : decode cX8_findLines 61 = .ok (.iadd, 1) := by decide +kernel
theorem dX8_findLines_62 : decode cX8_findLines 62 = .ok (.putfield 27, 3) := by decide +kernel
theorem dX8_findLines_65 : decode cX8_findLines 65 = .ok (.iinc 1 1, 3) := by decide +kernel
theorem dX8_findLines_68 : decode cX8_findLines 68 = .ok (.goto (-54), 3) := by decide +kernel
theorem dX8_findLines_71 : decode cX8_findLines 71 = .ok (.return_, 1) := by decide +kernel
theorem dX8_lineWith_0 : decode cX8_lineWith 0 = .ok (.iconst 0, 1) := by decide +kernel
theorem dX8_lineWith_1 : decode cX8_lineWith 1 = .ok (.istore_n 2, 1) := by decide +kernel
theorem dX8_lineWith_2 : decode cX8_lineWith 2 = .ok (.sipush 256, 3) := by decide +kernel
theorem dX8_lineWith_5 : decode cX8_lineWith 5 = .ok (.istore_n 3, 1) := by decide +kernel
theorem dX8_lineWith_6 : decode cX8_lineWith 6 = .ok (.iload_n 3, 1) := by decide +kernel
theorem dX8_lineWith_7 : decode cX8_lineWith 7 = .ok (.ifCond .le 36, 3) := by decide +kernel
theorem dX8_lineWith_10 : decode cX8_lineWith 10 = .ok (.iload_n 2, 1) := by decide +kernel
theorem dX8_lineWith_11 : decode cX8_lineWith 11 = .ok (.iload_n 3, 1) := by decide +kernel
theorem dX8_lineWith_12 : decode cX8_lineWith 12 = .ok (.iadd, 1) := by decide +kernel
theorem dX8_lineWith_13 : decode cX8_lineWith 13 = .ok (.aload_n 0, 1) := by decide +kernel
theorem dX8_lineWith_14 : decode cX8_lineWith 14 = .ok (.getfield 27, 3) := by decide +kernel
theorem dX8_lineWith_17 : decode cX8_lineWith 17 = .ok (.if_icmp .ge 19, 3) := by decide +kernel
theorem dX8_lineWith_20 : decode cX8_lineWith 20 = .ok (.aload_n 0, 1) := by decide +kernel
theorem dX8_lineWith_21 : decode cX8_lineWith 21 = .ok (.getfield 19, 3) := by decide +kernel
theorem dX8_lineWith_24 : decode cX8_lineWith 24 = .ok (.iload_n 2, 1) := by decide +kernel
theorem dX8_lineWith_25 : decode cX8_lineWith 25 = .ok (.iload_n 3, 1) := by decide +kernel
theorem dX8_lineWith_26 : decode cX8_lineWith 26 = .ok (.iadd, 1) := by decide +kernel
theorem dX8_lineWith_27 : decode cX8_lineWith 27 = .ok (.iaload, 1) := by decide +kernel
theorem dX8_lineWith_28 : decode cX8_lineWith 28 = .ok (.iload_n 1, 1) := by decide +kernel
theorem dX8_lineWith_29 : decode cX8_lineWith 29 = .ok (.if_icmp .gt 7, 3) := by decide +kernel
theorem dX8_lineWith_32 : decode cX8_lineWith 32 = .ok (.iload_n 2, 1) := by decide +kernel
theorem dX8_lineWith_33 : decode cX8_lineWith 33 = .ok (.iload_n 3, 1) := by decide +kernel
theorem dX8_lineWith_34 : decode cX8_lineWith 34 = .ok (.iadd, 1) := by decide +kernel
theorem dX8_lineWith_35 : decode cX8_lineWith 35 = .ok (.istore_n 2, 1) := by decide +kernel
theorem dX8_lineWith_36 : decode cX8_lineWith 36 = .ok (.iload_n 3, 1) := by decide +kernel
theorem dX8_lineWith_37 : decode cX8_lineWith 37 = .ok (.iconst 1, 1) := by decide +kernel
theorem dX8_lineWith_38 : decode cX8_lineWith 38 = .ok (.ishr, 1) := by decide +kernel
theorem dX8_lineWith_39 : decode cX8_lineWith 39 = .ok (.istore_n 3, 1) := by decide +kernel
theorem dX8_lineWith_40 : decode cX8_lineWith 40 = .ok (.goto (-34), 3) := by decide +kernel
theorem dX8_lineWith_43 : decode cX8_lineWith 43 = .ok (.iload_n 2, 1) := by decide +kernel
theorem dX8_lineWith_44 : decode cX8_lineWith 44 = .ok (.ireturn, 1) := by decide +kernel
theorem dX8_endOf_0 : decode cX8_endOf 0 = .ok (.iload_n 1, 1) := by decide +kernel
theorem dX8_endOf_1 : decode cX8_endOf 1 = .ok (.iconst 1, 1) := by decide +kernel
theorem dX8_endOf_2 : decode cX8_endOf 2 = .ok (.iadd, 1) := by decide +kernel
theorem dX8_endOf_3 : decode cX8_endOf 3 = .ok (.aload_n 0, 1) := by decide +kernel
theorem dX8_endOf_4 : decode cX8_endOf 4 = .ok (.getfield 27, 3) := by decide +kernel
theorem dX8_endOf_7 : decode cX8_endOf 7 = .ok (.if_icmp .ge 16, 3) := by decide +kernel
theorem dX8_endOf_10 : decode cX8_endOf 10 = .ok (.aload_n 0, 1) := by decide +kernel
theorem dX8_endOf_11 : decode cX8_endOf 11 = .ok (.getfield 19, 3) := by decide +kernel
theorem dX8_endOf_14 : decode cX8_endOf 14 = .ok (.iload_n 1, 1) := by decide +kernel
theorem dX8_endOf_15 : decode cX8_endOf 15 = .ok (.iconst 1, 1) := by decide +kernel
theorem dX8_endOf_16 : decode cX8_endOf 16 = .ok (.iadd, 1) := by decide +kernel
theorem dX8_endOf_17 : decode cX8_endOf 17 = .ok (.iaload, 1) := by decide +kernel
theorem dX8_endOf_18 : decode cX8_endOf 18 = .ok (.iconst 1, 1) := by decide +kernel
theorem dX8_endOf_19 : decode cX8_endOf 19 = .ok (.isub, 1) := by decide +kernel
theorem dX8_endOf_20 : decode cX8_endOf 20 = .ok (.goto 7, 3) := by decide +kernel
theorem dX8_endOf_23 : decode cX8_endOf 23 = .ok (.aload_n 0, 1) := by decide +kernel
theorem dX8_endOf_24 : decode cX8_endOf 24 = .ok (.getfield 15, 3) := by decide +kernel
theorem dX8_endOf_27 : decode cX8_endOf 27 = .ok (.ireturn, 1) := by decide +kernel
theorem dX8_columnWith_0 : decode cX8_columnWith 0 = .ok (.iconst 0, 1) := by decide +kernel
theorem dX8_columnWith_1 : decode cX8_columnWith 1 = .ok (.istore_n 3, 1) := by decide +kernel
theorem dX8_columnWith_2 : decode cX8_columnWith 2 = .ok (.aload_n 0, 1) := by decide +kernel
theorem dX8_columnWith_3 : decode cX8_columnWith 3 = .ok (.getfield 19, 3) := by decide +kernel
theorem dX8_columnWith_6 : decode cX8_columnWith 6 = .ok (.aload_n 0, 1) := by decide +kernel
theorem dX8_columnWith_7 : decode cX8_columnWith 7 = .ok (.iload_n 1, 1) := by decide +kernel
theorem dX8_columnWith_8 : decode cX8_columnWith 8 = .ok (.invokevirtual 48, 3) := by decide +kernel
theorem dX8_columnWith_11 : decode cX8_columnWith 11 = .ok (.iaload, 1) := by decide +kernel
theorem dX8_columnWith_12 : decode cX8_columnWith 12 = .ok (.istore 4, 2) := by decide +kernel
theorem dX8_columnWith_14 : decode cX8_columnWith 14 = .ok (.iload 4, 2) := by decide +kernel
theorem dX8_columnWith_16 : decode cX8_columnWith 16 = .ok (.iload_n 1, 1) := by decide +kernel
theorem dX8_columnWith_17 : decode cX8_columnWith 17 = .ok (.if_icmp .ge 22, 3) := by decide +kernel
theorem dX8_columnWith_20 : decode cX8_columnWith 20 = .ok (.iload_n 3, 1) := by decide +kernel
theorem dX8_columnWith_21 : decode cX8_columnWith 21 = .ok (.aload_n 0, 1) := by decide +kernel
theorem dX8_columnWith_22 : decode cX8_columnWith 22 = .ok (.getfield 9, 3) := by decide +kernel
theorem dX8_columnWith_25 : decode cX8_columnWith 25 = .ok (.iload 4, 2) := by decide +kernel
theorem dX8_columnWith_27 : decode cX8_columnWith 27 = .ok (.baload, 1) := by decide +kernel
theorem dX8_columnWith_28 : decode cX8_columnWith 28 = .ok (.iload_n 2, 1) := by decide +kernel
theorem dX8_columnWith_29 : decode cX8_columnWith 29 = .ok (.invokestatic 52, 3) := by decide +kernel
theorem dX8_columnWith_32 : decode cX8_columnWith 32 = .ok (.istore_n 3, 1) := by decide +kernel
theorem dX8_columnWith_33 : decode cX8_columnWith 33 = .ok (.iinc 4 1, 3) := by decide +kernel
theorem dX8_columnWith_36 : decode cX8_columnWith 36 = .ok (.goto (-22), 3) := by decide +kernel
theorem dX8_columnWith_39 : decode cX8_columnWith 39 = .ok (.iload_n 3, 1) := by decide +kernel
theorem dX8_columnWith_40 : decode cX8_columnWith 40 = .ok (.ireturn, 1) := by decide +kernel
theorem dX8_placeWith_0 : decode cX8_placeWith 0 = .ok (.aload_n 0, 1) := by decide +kernel
theorem dX8_placeWith_1 : decode cX8_placeWith 1 = .ok (.iload_n 1, 1) := by decide +kernel
theorem dX8_placeWith_2 : decode cX8_placeWith 2 = .ok (.invokevirtual 56, 3) := by decide +kernel
theorem dX8_placeWith_5 : decode cX8_placeWith 5 = .ok (.istore 4, 2) := by decide +kernel
theorem dX8_placeWith_7 : decode cX8_placeWith 7 = .ok (.iconst 0, 1) := by decide +kernel
theorem dX8_placeWith_8 : decode cX8_placeWith 8 = .ok (.istore 5, 2) := by decide +kernel
theorem dX8_placeWith_10 : decode cX8_placeWith 10 = .ok (.aload_n 0, 1) := by decide +kernel
theorem dX8_placeWith_11 : decode cX8_placeWith 11 = .ok (.getfield 19, 3) := by decide +kernel
theorem dX8_placeWith_14 : decode cX8_placeWith 14 = .ok (.iload_n 1, 1) := by decide +kernel
theorem dX8_placeWith_15 : decode cX8_placeWith 15 = .ok (.iaload, 1) := by decide +kernel
theorem dX8_placeWith_16 : decode cX8_placeWith 16 = .ok (.istore 6, 2) := by decide +kernel
theorem dX8_placeWith_18 : decode cX8_placeWith 18 = .ok (.iload 6, 2) := by decide +kernel
theorem dX8_placeWith_20 : decode cX8_placeWith 20 = .ok (.iload 4, 2) := by decide +kernel
theorem dX8_placeWith_22 : decode cX8_placeWith 22 = .ok (.if_icmp .ge 30, 3) := by decide +kernel
theorem dX8_placeWith_25 : decode cX8_placeWith 25 = .ok (.iload 5, 2) := by decide +kernel
theorem dX8_placeWith_27 : decode cX8_placeWith 27 = .ok (.iload_n 2, 1) := by decide +kernel
theorem dX8_placeWith_28 : decode cX8_placeWith 28 = .ok (.if_icmp .ge 24, 3) := by decide +kernel
theorem dX8_placeWith_31 : decode cX8_placeWith 31 = .ok (.iload 5, 2) := by decide +kernel
theorem dX8_placeWith_33 : decode cX8_placeWith 33 = .ok (.aload_n 0, 1) := by decide +kernel
theorem dX8_placeWith_34 : decode cX8_placeWith 34 = .ok (.getfield 9, 3) := by decide +kernel
theorem dX8_placeWith_37 : decode cX8_placeWith 37 = .ok (.iload 6, 2) := by decide +kernel
theorem dX8_placeWith_39 : decode cX8_placeWith 39 = .ok (.baload, 1) := by decide +kernel
theorem dX8_placeWith_40 : decode cX8_placeWith 40 = .ok (.iload_n 3, 1) := by decide +kernel
theorem dX8_placeWith_41 : decode cX8_placeWith 41 = .ok (.invokestatic 52, 3) := by decide +kernel
theorem dX8_placeWith_44 : decode cX8_placeWith 44 = .ok (.istore 5, 2) := by decide +kernel
theorem dX8_placeWith_46 : decode cX8_placeWith 46 = .ok (.iinc 6 1, 3) := by decide +kernel
theorem dX8_placeWith_49 : decode cX8_placeWith 49 = .ok (.goto (-31), 3) := by decide +kernel
theorem dX8_placeWith_52 : decode cX8_placeWith 52 = .ok (.iload 6, 2) := by decide +kernel
theorem dX8_placeWith_54 : decode cX8_placeWith 54 = .ok (.ireturn, 1) := by decide +kernel
theorem dX8_blanksFrom_0 : decode cX8_blanksFrom 0 = .ok (.iconst 0, 1) := by decide +kernel
theorem dX8_blanksFrom_1 : decode cX8_blanksFrom 1 = .ok (.istore_n 3, 1) := by decide +kernel
theorem dX8_blanksFrom_2 : decode cX8_blanksFrom 2 = .ok (.iload_n 3, 1) := by decide +kernel
theorem dX8_blanksFrom_3 : decode cX8_blanksFrom 3 = .ok (.iload_n 2, 1) := by decide +kernel
theorem dX8_blanksFrom_4 : decode cX8_blanksFrom 4 = .ok (.if_icmp .ge 45, 3) := by decide +kernel
theorem dX8_blanksFrom_7 : decode cX8_blanksFrom 7 = .ok (.iload_n 1, 1) := by decide +kernel
theorem dX8_blanksFrom_8 : decode cX8_blanksFrom 8 = .ok (.iload_n 3, 1) := by decide +kernel
theorem dX8_blanksFrom_9 : decode cX8_blanksFrom 9 = .ok (.iadd, 1) := by decide +kernel
theorem dX8_blanksFrom_10 : decode cX8_blanksFrom 10 = .ok (.aload_n 0, 1) := by decide +kernel
theorem dX8_blanksFrom_11 : decode cX8_blanksFrom 11 = .ok (.getfield 15, 3) := by decide +kernel
theorem dX8_blanksFrom_14 : decode cX8_blanksFrom 14 = .ok (.if_icmp .ge 35, 3) := by decide +kernel
theorem dX8_blanksFrom_17 : decode cX8_blanksFrom 17 = .ok (.aload_n 0, 1) := by decide +kernel
theorem dX8_blanksFrom_18 : decode cX8_blanksFrom 18 = .ok (.getfield 9, 3) := by decide +kernel
theorem dX8_blanksFrom_21 : decode cX8_blanksFrom 21 = .ok (.iload_n 1, 1) := by decide +kernel
theorem dX8_blanksFrom_22 : decode cX8_blanksFrom 22 = .ok (.iload_n 3, 1) := by decide +kernel
theorem dX8_blanksFrom_23 : decode cX8_blanksFrom 23 = .ok (.iadd, 1) := by decide +kernel
theorem dX8_blanksFrom_24 : decode cX8_blanksFrom 24 = .ok (.baload, 1) := by decide +kernel
theorem dX8_blanksFrom_25 : decode cX8_blanksFrom 25 = .ok (.bipush 32, 2) := by decide +kernel
theorem dX8_blanksFrom_27 : decode cX8_blanksFrom 27 = .ok (.if_icmp .eq 16, 3) := by decide +kernel
theorem dX8_blanksFrom_30 : decode cX8_blanksFrom 30 = .ok (.aload_n 0, 1) := by decide +kernel
theorem dX8_blanksFrom_31 : decode cX8_blanksFrom 31 = .ok (.getfield 9, 3) := by decide +kernel
theorem dX8_blanksFrom_34 : decode cX8_blanksFrom 34 = .ok (.iload_n 1, 1) := by decide +kernel
theorem dX8_blanksFrom_35 : decode cX8_blanksFrom 35 = .ok (.iload_n 3, 1) := by decide +kernel
theorem dX8_blanksFrom_36 : decode cX8_blanksFrom 36 = .ok (.iadd, 1) := by decide +kernel
theorem dX8_blanksFrom_37 : decode cX8_blanksFrom 37 = .ok (.baload, 1) := by decide +kernel
theorem dX8_blanksFrom_38 : decode cX8_blanksFrom 38 = .ok (.bipush 9, 2) := by decide +kernel
theorem dX8_blanksFrom_40 : decode cX8_blanksFrom 40 = .ok (.if_icmp .ne 9, 3) := by decide +kernel
theorem dX8_blanksFrom_43 : decode cX8_blanksFrom 43 = .ok (.iinc 3 1, 3) := by decide +kernel
theorem dX8_blanksFrom_46 : decode cX8_blanksFrom 46 = .ok (.goto (-44), 3) := by decide +kernel
theorem dX8_blanksFrom_49 : decode cX8_blanksFrom 49 = .ok (.iload_n 3, 1) := by decide +kernel
theorem dX8_blanksFrom_50 : decode cX8_blanksFrom 50 = .ok (.ireturn, 1) := by decide +kernel
theorem dX8_isBlankLine_0 : decode cX8_isBlankLine 0 = .ok (.aload_n 0, 1) := by decide +kernel
theorem dX8_isBlankLine_1 : decode cX8_isBlankLine 1 = .ok (.getfield 19, 3) := by decide +kernel
theorem dX8_isBlankLine_4 : decode cX8_isBlankLine 4 = .ok (.iload_n 1, 1) := by decide +kernel
theorem dX8_isBlankLine_5 : decode cX8_isBlankLine 5 = .ok (.iaload, 1) := by decide +kernel
theorem dX8_isBlankLine_6 : decode cX8_isBlankLine 6 = .ok (.istore_n 2, 1) := by decide +kernel
theorem dX8_isBlankLine_7 : decode cX8_isBlankLine 7 = .ok (.iload_n 2, 1) := by decide +kernel
theorem dX8_isBlankLine_8 : decode cX8_isBlankLine 8 = .ok (.aload_n 0, 1) := by decide +kernel
theorem dX8_isBlankLine_9 : decode cX8_isBlankLine 9 = .ok (.getfield 15, 3) := by decide +kernel
theorem dX8_isBlankLine_12 : decode cX8_isBlankLine 12 = .ok (.if_icmp .ge 31, 3) := by decide +kernel
theorem dX8_isBlankLine_15 : decode cX8_isBlankLine 15 = .ok (.aload_n 0, 1) := by decide +kernel
theorem dX8_isBlankLine_16 : decode cX8_isBlankLine 16 = .ok (.getfield 9, 3) := by decide +kernel
theorem dX8_isBlankLine_19 : decode cX8_isBlankLine 19 = .ok (.iload_n 2, 1) := by decide +kernel
theorem dX8_isBlankLine_20 : decode cX8_isBlankLine 20 = .ok (.baload, 1) := by decide +kernel
theorem dX8_isBlankLine_21 : decode cX8_isBlankLine 21 = .ok (.bipush 32, 2) := by decide +kernel
theorem dX8_isBlankLine_23 : decode cX8_isBlankLine 23 = .ok (.if_icmp .eq 14, 3) := by decide +kernel
theorem dX8_isBlankLine_26 : decode cX8_isBlankLine 26 = .ok (.aload_n 0, 1) := by decide +kernel
theorem dX8_isBlankLine_27 : decode cX8_isBlankLine 27 = .ok (.getfield 9, 3) := by decide +kernel
theorem dX8_isBlankLine_30 : decode cX8_isBlankLine 30 = .ok (.iload_n 2, 1) := by decide +kernel
theorem dX8_isBlankLine_31 : decode cX8_isBlankLine 31 = .ok (.baload, 1) := by decide +kernel
theorem dX8_isBlankLine_32 : decode cX8_isBlankLine 32 = .ok (.bipush 9, 2) := by decide +kernel
theorem dX8_isBlankLine_34 : decode cX8_isBlankLine 34 = .ok (.if_icmp .ne 9, 3) := by decide +kernel
theorem dX8_isBlankLine_37 : decode cX8_isBlankLine 37 = .ok (.iinc 2 1, 3) := by decide +kernel
theorem dX8_isBlankLine_40 : decode cX8_isBlankLine 40 = .ok (.goto (-33), 3) := by decide +kernel
theorem dX8_isBlankLine_43 : decode cX8_isBlankLine 43 = .ok (.iload_n 2, 1) := by decide +kernel
theorem dX8_isBlankLine_44 : decode cX8_isBlankLine 44 = .ok (.aload_n 0, 1) := by decide +kernel
theorem dX8_isBlankLine_45 : decode cX8_isBlankLine 45 = .ok (.getfield 15, 3) := by decide +kernel
theorem dX8_isBlankLine_48 : decode cX8_isBlankLine 48 = .ok (.if_icmp .ge 14, 3) := by decide +kernel
theorem dX8_isBlankLine_51 : decode cX8_isBlankLine 51 = .ok (.aload_n 0, 1) := by decide +kernel
theorem dX8_isBlankLine_52 : decode cX8_isBlankLine 52 = .ok (.getfield 9, 3) := by decide +kernel
theorem dX8_isBlankLine_55 : decode cX8_isBlankLine 55 = .ok (.iload_n 2, 1) := by decide +kernel
theorem dX8_isBlankLine_56 : decode cX8_isBlankLine 56 = .ok (.baload, 1) := by decide +kernel
theorem dX8_isBlankLine_57 : decode cX8_isBlankLine 57 = .ok (.bipush 10, 2) := by decide +kernel
theorem dX8_isBlankLine_59 : decode cX8_isBlankLine 59 = .ok (.if_icmp .ne 7, 3) := by decide +kernel
theorem dX8_isBlankLine_62 : decode cX8_isBlankLine 62 = .ok (.iconst 1, 1) := by decide +kernel
theorem dX8_isBlankLine_63 : decode cX8_isBlankLine 63 = .ok (.goto 4, 3) := by decide +kernel
theorem dX8_isBlankLine_66 : decode cX8_isBlankLine 66 = .ok (.iconst 0, 1) := by decide +kernel
theorem dX8_isBlankLine_67 : decode cX8_isBlankLine 67 = .ok (.ireturn, 1) := by decide +kernel
theorem dX8_isParagraph_0 : decode cX8_isParagraph 0 = .ok (.aload_n 0, 1) := by decide +kernel
theorem dX8_isParagraph_1 : decode cX8_isParagraph 1 = .ok (.iload_n 1, 1) := by decide +kernel
theorem dX8_isParagraph_2 : decode cX8_isParagraph 2 = .ok (.invokevirtual 59, 3) := by decide +kernel
theorem dX8_isParagraph_5 : decode cX8_isParagraph 5 = .ok (.ifCond .ne 21, 3) := by decide +kernel
theorem dX8_isParagraph_8 : decode cX8_isParagraph 8 = .ok (.iload_n 1, 1) := by decide +kernel
theorem dX8_isParagraph_9 : decode cX8_isParagraph 9 = .ok (.ifCond .eq 13, 3) := by decide +kernel
theorem dX8_isParagraph_12 : decode cX8_isParagraph 12 = .ok (.aload_n 0, 1) := by decide +kernel
theorem dX8_isParagraph_13 : decode cX8_isParagraph 13 = .ok (.iload_n 1, 1) := by decide +kernel
theorem dX8_isParagraph_14 : decode cX8_isParagraph 14 = .ok (.iconst 1, 1) := by decide +kernel
theorem dX8_isParagraph_15 : decode cX8_isParagraph 15 = .ok (.isub, 1) := by decide +kernel
theorem dX8_isParagraph_16 : decode cX8_isParagraph 16 = .ok (.invokevirtual 59, 3) := by decide +kernel
theorem dX8_isParagraph_19 : decode cX8_isParagraph 19 = .ok (.ifCond .eq 7, 3) := by decide +kernel
theorem dX8_isParagraph_22 : decode cX8_isParagraph 22 = .ok (.iconst 1, 1) := by decide +kernel
theorem dX8_isParagraph_23 : decode cX8_isParagraph 23 = .ok (.goto 4, 3) := by decide +kernel
theorem dX8_isParagraph_26 : decode cX8_isParagraph 26 = .ok (.iconst 0, 1) := by decide +kernel
theorem dX8_isParagraph_27 : decode cX8_isParagraph 27 = .ok (.ireturn, 1) := by decide +kernel
theorem dX8_hasCursorAt_0 : decode cX8_hasCursorAt 0 = .ok (.iconst 0, 1) := by decide +kernel
theorem dX8_hasCursorAt_1 : decode cX8_hasCursorAt 1 = .ok (.istore_n 2, 1) := by decide +kernel
theorem dX8_hasCursorAt_2 : decode cX8_hasCursorAt 2 = .ok (.iload_n 2, 1) := by decide +kernel
theorem dX8_hasCursorAt_3 : decode cX8_hasCursorAt 3 = .ok (.aload_n 0, 1) := by decide +kernel
theorem dX8_hasCursorAt_4 : decode cX8_hasCursorAt 4 = .ok (.getfield 33, 3) := by decide +kernel
theorem dX8_hasCursorAt_7 : decode cX8_hasCursorAt 7 = .ok (.if_icmp .ge 21, 3) := by decide +kernel
theorem dX8_hasCursorAt_10 : decode cX8_hasCursorAt 10 = .ok (.aload_n 0, 1) := by decide +kernel
theorem dX8_hasCursorAt_11 : decode cX8_hasCursorAt 11 = .ok (.getfield 30, 3) := by decide +kernel
theorem dX8_hasCursorAt_14 : decode cX8_hasCursorAt 14 = .ok (.iload_n 2, 1) := by decide +kernel
theorem dX8_hasCursorAt_15 : decode cX8_hasCursorAt 15 = .ok (.iaload, 1) := by decide +kernel
theorem dX8_hasCursorAt_16 : decode cX8_hasCursorAt 16 = .ok (.iload_n 1, 1) := by decide +kernel
theorem dX8_hasCursorAt_17 : decode cX8_hasCursorAt 17 = .ok (.if_icmp .ne 5, 3) := by decide +kernel
theorem dX8_hasCursorAt_20 : decode cX8_hasCursorAt 20 = .ok (.iconst 1, 1) := by decide +kernel
theorem dX8_hasCursorAt_21 : decode cX8_hasCursorAt 21 = .ok (.ireturn, 1) := by decide +kernel
theorem dX8_hasCursorAt_22 : decode cX8_hasCursorAt 22 = .ok (.iinc 2 1, 3) := by decide +kernel
theorem dX8_hasCursorAt_25 : decode cX8_hasCursorAt 25 = .ok (.goto (-23), 3) := by decide +kernel
theorem dX8_hasCursorAt_28 : decode cX8_hasCursorAt 28 = .ok (.iconst 0, 1) := by decide +kernel
theorem dX8_hasCursorAt_29 : decode cX8_hasCursorAt 29 = .ok (.ireturn, 1) := by decide +kernel
theorem dX8_hasCursorInLines_0 : decode cX8_hasCursorInLines 0 = .ok (.iconst 0, 1) := by decide +kernel
theorem dX8_hasCursorInLines_1 : decode cX8_hasCursorInLines 1 = .ok (.istore_n 3, 1) := by decide +kernel
theorem dX8_hasCursorInLines_2 : decode cX8_hasCursorInLines 2 = .ok (.iload_n 3, 1) := by decide +kernel
theorem dX8_hasCursorInLines_3 : decode cX8_hasCursorInLines 3 = .ok (.aload_n 0, 1) := by decide +kernel
theorem dX8_hasCursorInLines_4 : decode cX8_hasCursorInLines 4 = .ok (.getfield 33, 3) := by decide +kernel
theorem dX8_hasCursorInLines_7 : decode cX8_hasCursorInLines 7 = .ok (.if_icmp .ge 35, 3) := by decide +kernel
theorem dX8_hasCursorInLines_10 : decode cX8_hasCursorInLines 10 = .ok (.aload_n 0, 1) := by decide +kernel
theorem dX8_hasCursorInLines_11 : decode cX8_hasCursorInLines 11 = .ok (.aload_n 0, 1) := by decide +kernel
theorem dX8_hasCursorInLines_12 : decode cX8_hasCursorInLines 12 = .ok (.getfield 30, 3) := by decide +kernel
theorem dX8_hasCursorInLines_15 : decode cX8_hasCursorInLines 15 = .ok (.iload_n 3, 1) := by decide +kernel
theorem dX8_hasCursorInLines_16 : decode cX8_hasCursorInLines 16 = .ok (.iaload, 1) := by decide +kernel
theorem dX8_hasCursorInLines_17 : decode cX8_hasCursorInLines 17 = .ok (.invokevirtual 48, 3) := by decide +kernel
theorem dX8_hasCursorInLines_20 : decode cX8_hasCursorInLines 20 = .ok (.istore 4, 2) := by decide +kernel
theorem dX8_hasCursorInLines_22 : decode cX8_hasCursorInLines 22 = .ok (.iload 4, 2) := by decide +kernel
theorem dX8_hasCursorInLines_24 : decode cX8_hasCursorInLines 24 = .ok (.iload_n 1, 1) := by decide +kernel
theorem dX8_hasCursorInLines_25 : decode cX8_hasCursorInLines 25 = .ok (.if_icmp .lt 11, 3) := by decide +kernel
theorem dX8_hasCursorInLines_28 : decode cX8_hasCursorInLines 28 = .ok (.iload 4, 2) := by decide +kernel
theorem dX8_hasCursorInLines_30 : decode cX8_hasCursorInLines 30 = .ok (.iload_n 2, 1) := by decide +kernel
theorem dX8_hasCursorInLines_31 : decode cX8_hasCursorInLines 31 = .ok (.if_icmp .gt 5, 3) := by decide +kernel
theorem dX8_hasCursorInLines_34 : decode cX8_hasCursorInLines 34 = .ok (.iconst 1, 1) := by decide +kernel
theorem dX8_hasCursorInLines_35 : decode cX8_hasCursorInLines 35 = .ok (.ireturn, 1) := by decide +kernel
theorem dX8_hasCursorInLines_36 : decode cX8_hasCursorInLines 36 = .ok (.iinc 3 1, 3) := by decide +kernel
theorem dX8_hasCursorInLines_39 : decode cX8_hasCursorInLines 39 = .ok (.goto (-37), 3) := by decide +kernel
theorem dX8_hasCursorInLines_42 : decode cX8_hasCursorInLines 42 = .ok (.iconst 0, 1) := by decide +kernel
theorem dX8_hasCursorInLines_43 : decode cX8_hasCursorInLines 43 = .ok (.ireturn, 1) := by decide +kernel
theorem dX8_leaveOneCursor_0 : decode cX8_leaveOneCursor 0 = .ok (.aload_n 0, 1) := by decide +kernel
theorem dX8_leaveOneCursor_1 : decode cX8_leaveOneCursor 1 = .ok (.getfield 30, 3) := by decide +kernel
theorem dX8_leaveOneCursor_4 : decode cX8_leaveOneCursor 4 = .ok (.iconst 0, 1) := by decide +kernel
theorem dX8_leaveOneCursor_5 : decode cX8_leaveOneCursor 5 = .ok (.iload_n 1, 1) := by decide +kernel
theorem dX8_leaveOneCursor_6 : decode cX8_leaveOneCursor 6 = .ok (.iastore, 1) := by decide +kernel
theorem dX8_leaveOneCursor_7 : decode cX8_leaveOneCursor 7 = .ok (.aload_n 0, 1) := by decide +kernel
theorem dX8_leaveOneCursor_8 : decode cX8_leaveOneCursor 8 = .ok (.iconst 1, 1) := by decide +kernel
theorem dX8_leaveOneCursor_9 : decode cX8_leaveOneCursor 9 = .ok (.putfield 33, 3) := by decide +kernel
theorem dX8_leaveOneCursor_12 : decode cX8_leaveOneCursor 12 = .ok (.aload_n 0, 1) := by decide +kernel
theorem dX8_leaveOneCursor_13 : decode cX8_leaveOneCursor 13 = .ok (.invokevirtual 63, 3) := by decide +kernel
theorem dX8_leaveOneCursor_16 : decode cX8_leaveOneCursor 16 = .ok (.return_, 1) := by decide +kernel
theorem dX8_settleCursors_0 : decode cX8_settleCursors 0 = .ok (.aload_n 0, 1) := by decide +kernel
theorem dX8_settleCursors_1 : decode cX8_settleCursors 1 = .ok (.invokevirtual 66, 3) := by decide +kernel
theorem dX8_settleCursors_4 : decode cX8_settleCursors 4 = .ok (.iconst 0, 1) := by decide +kernel
theorem dX8_settleCursors_5 : decode cX8_settleCursors 5 = .ok (.istore_n 1, 1) := by decide +kernel
theorem dX8_settleCursors_6 : decode cX8_settleCursors 6 = .ok (.iconst 0, 1) := by decide +kernel
theorem dX8_settleCursors_7 : decode cX8_settleCursors 7 = .ok (.istore_n 2, 1) := by decide +kernel
theorem dX8_settleCursors_8 : decode cX8_settleCursors 8 = .ok (.iload_n 2, 1) := by decide +kernel
theorem dX8_settleCursors_9 : decode cX8_settleCursors 9 = .ok (.aload_n 0, 1) := by decide +kernel
theorem dX8_settleCursors_10 : decode cX8_settleCursors 10 = .ok (.getfield 33, 3) := by decide +kernel
theorem dX8_settleCursors_13 : decode cX8_settleCursors 13 = .ok (.if_icmp .ge 45, 3) := by decide +kernel
theorem dX8_settleCursors_16 : decode cX8_settleCursors 16 = .ok (.iload_n 1, 1) := by decide +kernel
theorem dX8_settleCursors_17 : decode cX8_settleCursors 17 = .ok (.ifCond .eq 20, 3) := by decide +kernel
theorem dX8_settleCursors_20 : decode cX8_settleCursors 20 = .ok (.aload_n 0, 1) := by decide +kernel
theorem dX8_settleCursors_21 : decode cX8_settleCursors 21 = .ok (.getfield 30, 3) := by decide +kernel
theorem dX8_settleCursors_24 : decode cX8_settleCursors 24 = .ok (.iload_n 1, 1) := by decide +kernel
theorem dX8_settleCursors_25 : decode cX8_settleCursors 25 = .ok (.iconst 1, 1) := by decide +kernel
theorem dX8_settleCursors_26 : decode cX8_settleCursors 26 = .ok (.isub, 1) := by decide +kernel
theorem dX8_settleCursors_27 : decode cX8_settleCursors 27 = .ok (.iaload, 1) := by decide +kernel
theorem dX8_settleCursors_28 : decode cX8_settleCursors 28 = .ok (.aload_n 0, 1) := by decide +kernel
theorem dX8_settleCursors_29 : decode cX8_settleCursors 29 = .ok (.getfield 30, 3) := by decide +kernel
theorem dX8_settleCursors_32 : decode cX8_settleCursors 32 = .ok (.iload_n 2, 1) := by decide +kernel
theorem dX8_settleCursors_33 : decode cX8_settleCursors 33 = .ok (.iaload, 1) := by decide +kernel
theorem dX8_settleCursors_34 : decode cX8_settleCursors 34 = .ok (.if_icmp .eq 18, 3) := by decide +kernel
theorem dX8_settleCursors_37 : decode cX8_settleCursors 37 = .ok (.aload_n 0, 1) := by decide +kernel
theorem dX8_settleCursors_38 : decode cX8_settleCursors 38 = .ok (.getfield 30, 3) := by decide +kernel
theorem dX8_settleCursors_41 : decode cX8_settleCursors 41 = .ok (.iload_n 1, 1) := by decide +kernel
theorem dX8_settleCursors_42 : decode cX8_settleCursors 42 = .ok (.aload_n 0, 1) := by decide +kernel
theorem dX8_settleCursors_43 : decode cX8_settleCursors 43 = .ok (.getfield 30, 3) := by decide +kernel
theorem dX8_settleCursors_46 : decode cX8_settleCursors 46 = .ok (.iload_n 2, 1) := by decide +kernel
theorem dX8_settleCursors_47 : decode cX8_settleCursors 47 = .ok (.iaload, 1) := by decide +kernel
theorem dX8_settleCursors_48 : decode cX8_settleCursors 48 = .ok (.iastore, 1) := by decide +kernel
theorem dX8_settleCursors_49 : decode cX8_settleCursors 49 = .ok (.iinc 1 1, 3) := by decide +kernel
theorem dX8_settleCursors_52 : decode cX8_settleCursors 52 = .ok (.iinc 2 1, 3) := by decide +kernel
theorem dX8_settleCursors_55 : decode cX8_settleCursors 55 = .ok (.goto (-47), 3) := by decide +kernel
theorem dX8_settleCursors_58 : decode cX8_settleCursors 58 = .ok (.aload_n 0, 1) := by decide +kernel
theorem dX8_settleCursors_59 : decode cX8_settleCursors 59 = .ok (.iload_n 1, 1) := by decide +kernel
theorem dX8_settleCursors_60 : decode cX8_settleCursors 60 = .ok (.putfield 33, 3) := by decide +kernel
theorem dX8_settleCursors_63 : decode cX8_settleCursors 63 = .ok (.iconst 0, 1) := by decide +kernel
theorem dX8_settleCursors_64 : decode cX8_settleCursors 64 = .ok (.istore_n 2, 1) := by decide +kernel
theorem dX8_settleCursors_65 : decode cX8_settleCursors 65 = .ok (.iload_n 2, 1) := by decide +kernel
theorem dX8_settleCursors_66 : decode cX8_settleCursors 66 = .ok (.aload_n 0, 1) := by decide +kernel
theorem dX8_settleCursors_67 : decode cX8_settleCursors 67 = .ok (.getfield 33, 3) := by decide +kernel
theorem dX8_settleCursors_70 : decode cX8_settleCursors 70 = .ok (.if_icmp .ge 31, 3) := by decide +kernel
theorem dX8_settleCursors_73 : decode cX8_settleCursors 73 = .ok (.aload_n 0, 1) := by decide +kernel
theorem dX8_settleCursors_74 : decode cX8_settleCursors 74 = .ok (.getfield 23, 3) := by decide +kernel
theorem dX8_settleCursors_77 : decode cX8_settleCursors 77 = .ok (.aload_n 0, 1) := by decide +kernel
theorem dX8_settleCursors_78 : decode cX8_settleCursors 78 = .ok (.getfield 27, 3) := by decide +kernel
theorem dX8_settleCursors_81 : decode cX8_settleCursors 81 = .ok (.aload_n 0, 1) := by decide +kernel
theorem dX8_settleCursors_82 : decode cX8_settleCursors 82 = .ok (.aload_n 0, 1) := by decide +kernel
theorem dX8_settleCursors_83 : decode cX8_settleCursors 83 = .ok (.getfield 30, 3) := by decide +kernel
theorem dX8_settleCursors_86 : decode cX8_settleCursors 86 = .ok (.iload_n 2, 1) := by decide +kernel
theorem dX8_settleCursors_87 : decode cX8_settleCursors 87 = .ok (.iaload, 1) := by decide +kernel
theorem dX8_settleCursors_88 : decode cX8_settleCursors 88 = .ok (.invokevirtual 48, 3) := by decide +kernel
theorem dX8_settleCursors_91 : decode cX8_settleCursors 91 = .ok (.invokestatic 69, 3) := by decide +kernel
theorem dX8_settleCursors_94 : decode cX8_settleCursors 94 = .ok (.pop, 1) := by decide +kernel
theorem dX8_settleCursors_95 : decode cX8_settleCursors 95 = .ok (.iinc 2 1, 3) := by decide +kernel
theorem dX8_settleCursors_98 : decode cX8_settleCursors 98 = .ok (.goto (-33), 3) := by decide +kernel
theorem dX8_settleCursors_101 : decode cX8_settleCursors 101 = .ok (.return_, 1) := by decide +kernel
theorem dX8_sortCursors_0 : decode cX8_sortCursors 0 = .ok (.iconst 1, 1) := by decide +kernel
theorem dX8_sortCursors_1 : decode cX8_sortCursors 1 = .ok (.istore_n 1, 1) := by decide +kernel
theorem dX8_sortCursors_2 : decode cX8_sortCursors 2 = .ok (.iload_n 1, 1) := by decide +kernel
theorem dX8_sortCursors_3 : decode cX8_sortCursors 3 = .ok (.aload_n 0, 1) := by decide +kernel
theorem dX8_sortCursors_4 : decode cX8_sortCursors 4 = .ok (.getfield 33, 3) := by decide +kernel
theorem dX8_sortCursors_7 : decode cX8_sortCursors 7 = .ok (.if_icmp .ge 61, 3) := by decide +kernel
theorem dX8_sortCursors_10 : decode cX8_sortCursors 10 = .ok (.aload_n 0, 1) := by decide +kernel
theorem dX8_sortCursors_11 : decode cX8_sortCursors 11 = .ok (.getfield 30, 3) := by decide +kernel
theorem dX8_sortCursors_14 : decode cX8_sortCursors 14 = .ok (.iload_n 1, 1) := by decide +kernel
theorem dX8_sortCursors_15 : decode cX8_sortCursors 15 = .ok (.iaload, 1) := by decide +kernel
theorem dX8_sortCursors_16 : decode cX8_sortCursors 16 = .ok (.istore_n 2, 1) := by decide +kernel
theorem dX8_sortCursors_17 : decode cX8_sortCursors 17 = .ok (.iload_n 1, 1) := by decide +kernel
theorem dX8_sortCursors_18 : decode cX8_sortCursors 18 = .ok (.istore_n 3, 1) := by decide +kernel
theorem dX8_sortCursors_19 : decode cX8_sortCursors 19 = .ok (.iload_n 3, 1) := by decide +kernel
theorem dX8_sortCursors_20 : decode cX8_sortCursors 20 = .ok (.ifCond .le 35, 3) := by decide +kernel
theorem dX8_sortCursors_23 : decode cX8_sortCursors 23 = .ok (.aload_n 0, 1) := by decide +kernel
theorem dX8_sortCursors_24 : decode cX8_sortCursors 24 = .ok (.getfield 30, 3) := by decide +kernel
theorem dX8_sortCursors_27 : decode cX8_sortCursors 27 = .ok (.iload_n 3, 1) := by decide +kernel
theorem dX8_sortCursors_28 : decode cX8_sortCursors 28 = .ok (.iconst 1, 1) := by decide +kernel
theorem dX8_sortCursors_29 : decode cX8_sortCursors 29 = .ok (.isub, 1) := by decide +kernel
theorem dX8_sortCursors_30 : decode cX8_sortCursors 30 = .ok (.iaload, 1) := by decide +kernel
theorem dX8_sortCursors_31 : decode cX8_sortCursors 31 = .ok (.iload_n 2, 1) := by decide +kernel
theorem dX8_sortCursors_32 : decode cX8_sortCursors 32 = .ok (.if_icmp .le 23, 3) := by decide +kernel
theorem dX8_sortCursors_35 : decode cX8_sortCursors 35 = .ok (.aload_n 0, 1) := by decide +kernel
theorem dX8_sortCursors_36 : decode cX8_sortCursors 36 = .ok (.getfield 30, 3) := by decide +kernel
theorem dX8_sortCursors_39 : decode cX8_sortCursors 39 = .ok (.iload_n 3, 1) := by decide +kernel
theorem dX8_sortCursors_40 : decode cX8_sortCursors 40 = .ok (.aload_n 0, 1) := by decide +kernel
theorem dX8_sortCursors_41 : decode cX8_sortCursors 41 = .ok (.getfield 30, 3) := by decide +kernel
theorem dX8_sortCursors_44 : decode cX8_sortCursors 44 = .ok (.iload_n 3, 1) := by decide +kernel
theorem dX8_sortCursors_45 : decode cX8_sortCursors 45 = .ok (.iconst 1, 1) := by decide +kernel
theorem dX8_sortCursors_46 : decode cX8_sortCursors 46 = .ok (.isub, 1) := by decide +kernel
theorem dX8_sortCursors_47 : decode cX8_sortCursors 47 = .ok (.iaload, 1) := by decide +kernel
theorem dX8_sortCursors_48 : decode cX8_sortCursors 48 = .ok (.iastore, 1) := by decide +kernel
theorem dX8_sortCursors_49 : decode cX8_sortCursors 49 = .ok (.iinc 3 (-1), 3) := by decide +kernel
theorem dX8_sortCursors_52 : decode cX8_sortCursors 52 = .ok (.goto (-33), 3) := by decide +kernel
theorem dX8_sortCursors_55 : decode cX8_sortCursors 55 = .ok (.aload_n 0, 1) := by decide +kernel
theorem dX8_sortCursors_56 : decode cX8_sortCursors 56 = .ok (.getfield 30, 3) := by decide +kernel
theorem dX8_sortCursors_59 : decode cX8_sortCursors 59 = .ok (.iload_n 3, 1) := by decide +kernel
theorem dX8_sortCursors_60 : decode cX8_sortCursors 60 = .ok (.iload_n 2, 1) := by decide +kernel
theorem dX8_sortCursors_61 : decode cX8_sortCursors 61 = .ok (.iastore, 1) := by decide +kernel
theorem dX8_sortCursors_62 : decode cX8_sortCursors 62 = .ok (.iinc 1 1, 3) := by decide +kernel
theorem dX8_sortCursors_65 : decode cX8_sortCursors 65 = .ok (.goto (-63), 3) := by decide +kernel
theorem dX8_sortCursors_68 : decode cX8_sortCursors 68 = .ok (.return_, 1) := by decide +kernel
theorem dX8_markFrom_0 : decode cX8_markFrom 0 = .ok (.iconst (-1), 1) := by decide +kernel
theorem dX8_markFrom_1 : decode cX8_markFrom 1 = .ok (.istore_n 2, 1) := by decide +kernel
theorem dX8_markFrom_2 : decode cX8_markFrom 2 = .ok (.iconst 0, 1) := by decide +kernel
theorem dX8_markFrom_3 : decode cX8_markFrom 3 = .ok (.istore_n 3, 1) := by decide +kernel
theorem dX8_markFrom_4 : decode cX8_markFrom 4 = .ok (.iload_n 3, 1) := by decide +kernel
theorem dX8_markFrom_5 : decode cX8_markFrom 5 = .ok (.bipush 16, 2) := by decide +kernel
theorem dX8_markFrom_7 : decode cX8_markFrom 7 = .ok (.if_icmp .ge 41, 3) := by decide +kernel
theorem dX8_markFrom_10 : decode cX8_markFrom 10 = .ok (.aload_n 0, 1) := by decide +kernel
theorem dX8_markFrom_11 : decode cX8_markFrom 11 = .ok (.getfield 36, 3) := by decide +kernel
theorem dX8_markFrom_14 : decode cX8_markFrom 14 = .ok (.iload_n 3, 1) := by decide +kernel
theorem dX8_markFrom_15 : decode cX8_markFrom 15 = .ok (.iaload, 1) := by decide +kernel
theorem dX8_markFrom_16 : decode cX8_markFrom 16 = .ok (.iload_n 1, 1) := by decide +kernel
theorem dX8_markFrom_17 : decode cX8_markFrom 17 = .ok (.if_icmp .lt 25, 3) := by decide +kernel
theorem dX8_markFrom_20 : decode cX8_markFrom 20 = .ok (.iload_n 2, 1) := by decide +kernel
theorem dX8_markFrom_21 : decode cX8_markFrom 21 = .ok (.iconst (-1), 1) := by decide +kernel
theorem dX8_markFrom_22 : decode cX8_markFrom 22 = .ok (.if_icmp .eq 18, 3) := by decide +kernel
theorem dX8_markFrom_25 : decode cX8_markFrom 25 = .ok (.aload_n 0, 1) := by decide +kernel
theorem dX8_markFrom_26 : decode cX8_markFrom 26 = .ok (.getfield 36, 3) := by decide +kernel
theorem dX8_markFrom_29 : decode cX8_markFrom 29 = .ok (.iload_n 3, 1) := by decide +kernel
theorem dX8_markFrom_30 : decode cX8_markFrom 30 = .ok (.iaload, 1) := by decide +kernel
theorem dX8_markFrom_31 : decode cX8_markFrom 31 = .ok (.aload_n 0, 1) := by decide +kernel
theorem dX8_markFrom_32 : decode cX8_markFrom 32 = .ok (.getfield 36, 3) := by decide +kernel
theorem dX8_markFrom_35 : decode cX8_markFrom 35 = .ok (.iload_n 2, 1) := by decide +kernel
theorem dX8_markFrom_36 : decode cX8_markFrom 36 = .ok (.iaload, 1) := by decide +kernel
theorem dX8_markFrom_37 : decode cX8_markFrom 37 = .ok (.if_icmp .ge 5, 3) := by decide +kernel
theorem dX8_markFrom_40 : decode cX8_markFrom 40 = .ok (.iload_n 3, 1) := by decide +kernel
theorem dX8_markFrom_41 : decode cX8_markFrom 41 = .ok (.istore_n 2, 1) := by decide +kernel
theorem dX8_markFrom_42 : decode cX8_markFrom 42 = .ok (.iinc 3 1, 3) := by decide +kernel
theorem dX8_markFrom_45 : decode cX8_markFrom 45 = .ok (.goto (-41), 3) := by decide +kernel
theorem dX8_markFrom_48 : decode cX8_markFrom 48 = .ok (.iload_n 2, 1) := by decide +kernel
theorem dX8_markFrom_49 : decode cX8_markFrom 49 = .ok (.ireturn, 1) := by decide +kernel
theorem dX8_markUpTo_0 : decode cX8_markUpTo 0 = .ok (.iconst (-1), 1) := by decide +kernel
theorem dX8_markUpTo_1 : decode cX8_markUpTo 1 = .ok (.istore_n 2, 1) := by decide +kernel
theorem dX8_markUpTo_2 : decode cX8_markUpTo 2 = .ok (.iconst 0, 1) := by decide +kernel
theorem dX8_markUpTo_3 : decode cX8_markUpTo 3 = .ok (.istore_n 3, 1) := by decide +kernel
theorem dX8_markUpTo_4 : decode cX8_markUpTo 4 = .ok (.iload_n 3, 1) := by decide +kernel
theorem dX8_markUpTo_5 : decode cX8_markUpTo 5 = .ok (.bipush 16, 2) := by decide +kernel
theorem dX8_markUpTo_7 : decode cX8_markUpTo 7 = .ok (.if_icmp .ge 51, 3) := by decide +kernel
theorem dX8_markUpTo_10 : decode cX8_markUpTo 10 = .ok (.aload_n 0, 1) := by decide +kernel
theorem dX8_markUpTo_11 : decode cX8_markUpTo 11 = .ok (.getfield 36, 3) := by decide +kernel
theorem dX8_markUpTo_14 : decode cX8_markUpTo 14 = .ok (.iload_n 3, 1) := by decide +kernel
theorem dX8_markUpTo_15 : decode cX8_markUpTo 15 = .ok (.iaload, 1) := by decide +kernel
theorem dX8_markUpTo_16 : decode cX8_markUpTo 16 = .ok (.iconst (-1), 1) := by decide +kernel
theorem dX8_markUpTo_17 : decode cX8_markUpTo 17 = .ok (.if_icmp .eq 35, 3) := by decide +kernel
theorem dX8_markUpTo_20 : decode cX8_markUpTo 20 = .ok (.aload_n 0, 1) := by decide +kernel
theorem dX8_markUpTo_21 : decode cX8_markUpTo 21 = .ok (.getfield 36, 3) := by decide +kernel
theorem dX8_markUpTo_24 : decode cX8_markUpTo 24 = .ok (.iload_n 3, 1) := by decide +kernel
theorem dX8_markUpTo_25 : decode cX8_markUpTo 25 = .ok (.iaload, 1) := by decide +kernel
theorem dX8_markUpTo_26 : decode cX8_markUpTo 26 = .ok (.iload_n 1, 1) := by decide +kernel
theorem dX8_markUpTo_27 : decode cX8_markUpTo 27 = .ok (.if_icmp .gt 25, 3) := by decide +kernel
theorem dX8_markUpTo_30 : decode cX8_markUpTo 30 = .ok (.iload_n 2, 1) := by decide +kernel
theorem dX8_markUpTo_31 : decode cX8_markUpTo 31 = .ok (.iconst (-1), 1) := by decide +kernel
theorem dX8_markUpTo_32 : decode cX8_markUpTo 32 = .ok (.if_icmp .eq 18, 3) := by decide +kernel
theorem dX8_markUpTo_35 : decode cX8_markUpTo 35 = .ok (.aload_n 0, 1) := by decide +kernel
theorem dX8_markUpTo_36 : decode cX8_markUpTo 36 = .ok (.getfield 36, 3) := by decide +kernel
theorem dX8_markUpTo_39 : decode cX8_markUpTo 39 = .ok (.iload_n 3, 1) := by decide +kernel
theorem dX8_markUpTo_40 : decode cX8_markUpTo 40 = .ok (.iaload, 1) := by decide +kernel
theorem dX8_markUpTo_41 : decode cX8_markUpTo 41 = .ok (.aload_n 0, 1) := by decide +kernel
theorem dX8_markUpTo_42 : decode cX8_markUpTo 42 = .ok (.getfield 36, 3) := by decide +kernel
theorem dX8_markUpTo_45 : decode cX8_markUpTo 45 = .ok (.iload_n 2, 1) := by decide +kernel
theorem dX8_markUpTo_46 : decode cX8_markUpTo 46 = .ok (.iaload, 1) := by decide +kernel
theorem dX8_markUpTo_47 : decode cX8_markUpTo 47 = .ok (.if_icmp .le 5, 3) := by decide +kernel
theorem dX8_markUpTo_50 : decode cX8_markUpTo 50 = .ok (.iload_n 3, 1) := by decide +kernel
theorem dX8_markUpTo_51 : decode cX8_markUpTo 51 = .ok (.istore_n 2, 1) := by decide +kernel
theorem dX8_markUpTo_52 : decode cX8_markUpTo 52 = .ok (.iinc 3 1, 3) := by decide +kernel
theorem dX8_markUpTo_55 : decode cX8_markUpTo 55 = .ok (.goto (-51), 3) := by decide +kernel
theorem dX8_markUpTo_58 : decode cX8_markUpTo 58 = .ok (.iload_n 2, 1) := by decide +kernel
theorem dX8_markUpTo_59 : decode cX8_markUpTo 59 = .ok (.ireturn, 1) := by decide +kernel
theorem dX8_countMarks_0 : decode cX8_countMarks 0 = .ok (.iconst 0, 1) := by decide +kernel
theorem dX8_countMarks_1 : decode cX8_countMarks 1 = .ok (.istore_n 1, 1) := by decide +kernel
theorem dX8_countMarks_2 : decode cX8_countMarks 2 = .ok (.iconst 0, 1) := by decide +kernel
theorem dX8_countMarks_3 : decode cX8_countMarks 3 = .ok (.istore_n 2, 1) := by decide +kernel
theorem dX8_countMarks_4 : decode cX8_countMarks 4 = .ok (.iload_n 2, 1) := by decide +kernel
theorem dX8_countMarks_5 : decode cX8_countMarks 5 = .ok (.bipush 16, 2) := by decide +kernel
theorem dX8_countMarks_7 : decode cX8_countMarks 7 = .ok (.if_icmp .ge 27, 3) := by decide +kernel
theorem dX8_countMarks_10 : decode cX8_countMarks 10 = .ok (.iload_n 1, 1) := by decide +kernel
theorem dX8_countMarks_11 : decode cX8_countMarks 11 = .ok (.aload_n 0, 1) := by decide +kernel
theorem dX8_countMarks_12 : decode cX8_countMarks 12 = .ok (.getfield 36, 3) := by decide +kernel
theorem dX8_countMarks_15 : decode cX8_countMarks 15 = .ok (.iload_n 2, 1) := by decide +kernel
theorem dX8_countMarks_16 : decode cX8_countMarks 16 = .ok (.iaload, 1) := by decide +kernel
theorem dX8_countMarks_17 : decode cX8_countMarks 17 = .ok (.iconst (-1), 1) := by decide +kernel
theorem dX8_countMarks_18 : decode cX8_countMarks 18 = .ok (.if_icmp .eq 7, 3) := by decide +kernel
theorem dX8_countMarks_21 : decode cX8_countMarks 21 = .ok (.iconst 1, 1) := by decide +kernel
theorem dX8_countMarks_22 : decode cX8_countMarks 22 = .ok (.goto 4, 3) := by decide +kernel
theorem dX8_countMarks_25 : decode cX8_countMarks 25 = .ok (.iconst 0, 1) := by decide +kernel
theorem dX8_countMarks_26 : decode cX8_countMarks 26 = .ok (.iadd, 1) := by decide +kernel
theorem dX8_countMarks_27 : decode cX8_countMarks 27 = .ok (.istore_n 1, 1) := by decide +kernel
theorem dX8_countMarks_28 : decode cX8_countMarks 28 = .ok (.iinc 2 1, 3) := by decide +kernel
theorem dX8_countMarks_31 : decode cX8_countMarks 31 = .ok (.goto (-27), 3) := by decide +kernel
theorem dX8_countMarks_34 : decode cX8_countMarks 34 = .ok (.iload_n 1, 1) := by decide +kernel
theorem dX8_countMarks_35 : decode cX8_countMarks 35 = .ok (.ireturn, 1) := by decide +kernel
theorem dX8_countHidden_0 : decode cX8_countHidden 0 = .ok (.iconst 0, 1) := by decide +kernel
theorem dX8_countHidden_1 : decode cX8_countHidden 1 = .ok (.istore_n 1, 1) := by decide +kernel
theorem dX8_countHidden_2 : decode cX8_countHidden 2 = .ok (.iconst 0, 1) := by decide +kernel
theorem dX8_countHidden_3 : decode cX8_countHidden 3 = .ok (.istore_n 2, 1) := by decide +kernel
theorem dX8_countHidden_4 : decode cX8_countHidden 4 = .ok (.iload_n 2, 1) := by decide +kernel
theorem dX8_countHidden_5 : decode cX8_countHidden 5 = .ok (.aload_n 0, 1) := by decide +kernel
theorem dX8_countHidden_6 : decode cX8_countHidden 6 = .ok (.getfield 27, 3) := by decide +kernel
theorem dX8_countHidden_9 : decode cX8_countHidden 9 = .ok (.if_icmp .ge 26, 3) := by decide +kernel
theorem dX8_countHidden_12 : decode cX8_countHidden 12 = .ok (.iload_n 1, 1) := by decide +kernel
theorem dX8_countHidden_13 : decode cX8_countHidden 13 = .ok (.aload_n 0, 1) := by decide +kernel
theorem dX8_countHidden_14 : decode cX8_countHidden 14 = .ok (.getfield 23, 3) := by decide +kernel
theorem dX8_countHidden_17 : decode cX8_countHidden 17 = .ok (.iload_n 2, 1) := by decide +kernel
theorem dX8_countHidden_18 : decode cX8_countHidden 18 = .ok (.baload, 1) := by decide +kernel
theorem dX8_countHidden_19 : decode cX8_countHidden 19 = .ok (.ifCond .eq 7, 3) := by decide +kernel
theorem dX8_countHidden_22 : decode cX8_countHidden 22 = .ok (.iconst 1, 1) := by decide +kernel
theorem dX8_countHidden_23 : decode cX8_countHidden 23 = .ok (.goto 4, 3) := by decide +kernel
theorem dX8_countHidden_26 : decode cX8_countHidden 26 = .ok (.iconst 0, 1) := by decide +kernel
theorem dX8_countHidden_27 : decode cX8_countHidden 27 = .ok (.iadd, 1) := by decide +kernel
theorem dX8_countHidden_28 : decode cX8_countHidden 28 = .ok (.istore_n 1, 1) := by decide +kernel
theorem dX8_countHidden_29 : decode cX8_countHidden 29 = .ok (.iinc 2 1, 3) := by decide +kernel
theorem dX8_countHidden_32 : decode cX8_countHidden 32 = .ok (.goto (-28), 3) := by decide +kernel
theorem dX8_countHidden_35 : decode cX8_countHidden 35 = .ok (.iload_n 1, 1) := by decide +kernel
theorem dX8_countHidden_36 : decode cX8_countHidden 36 = .ok (.ireturn, 1) := by decide +kernel
theorem dX8_countWords_0 : decode cX8_countWords 0 = .ok (.iconst 0, 1) := by decide +kernel
theorem dX8_countWords_1 : decode cX8_countWords 1 = .ok (.istore_n 1, 1) := by decide +kernel
theorem dX8_countWords_2 : decode cX8_countWords 2 = .ok (.iconst 0, 1) := by decide +kernel
theorem dX8_countWords_3 : decode cX8_countWords 3 = .ok (.istore_n 2, 1) := by decide +kernel
theorem dX8_countWords_4 : decode cX8_countWords 4 = .ok (.iconst 0, 1) := by decide +kernel
theorem dX8_countWords_5 : decode cX8_countWords 5 = .ok (.istore_n 3, 1) := by decide +kernel
theorem dX8_countWords_6 : decode cX8_countWords 6 = .ok (.iload_n 3, 1) := by decide +kernel
theorem dX8_countWords_7 : decode cX8_countWords 7 = .ok (.aload_n 0, 1) := by decide +kernel
theorem dX8_countWords_8 : decode cX8_countWords 8 = .ok (.getfield 15, 3) := by decide +kernel
theorem dX8_countWords_11 : decode cX8_countWords 11 = .ok (.if_icmp .ge 40, 3) := by decide +kernel
theorem dX8_countWords_14 : decode cX8_countWords 14 = .ok (.aload_n 0, 1) := by decide +kernel
theorem dX8_countWords_15 : decode cX8_countWords 15 = .ok (.getfield 9, 3) := by decide +kernel
theorem dX8_countWords_18 : decode cX8_countWords 18 = .ok (.iload_n 3, 1) := by decide +kernel
theorem dX8_countWords_19 : decode cX8_countWords 19 = .ok (.baload, 1) := by decide +kernel
theorem dX8_countWords_20 : decode cX8_countWords 20 = .ok (.invokestatic 73, 3) := by decide +kernel
theorem dX8_countWords_23 : decode cX8_countWords 23 = .ok (.istore 4, 2) := by decide +kernel
theorem dX8_countWords_25 : decode cX8_countWords 25 = .ok (.iload_n 1, 1) := by decide +kernel
theorem dX8_countWords_26 : decode cX8_countWords 26 = .ok (.iload 4, 2) := by decide +kernel
theorem dX8_countWords_28 : decode cX8_countWords 28 = .ok (.ifCond .eq 11, 3) := by decide +kernel
theorem dX8_countWords_31 : decode cX8_countWords 31 = .ok (.iload_n 2, 1) := by decide +kernel
theorem dX8_countWords_32 : decode cX8_countWords 32 = .ok (.ifCond .ne 7, 3) := by decide +kernel
theorem dX8_countWords_35 : decode cX8_countWords 35 = .ok (.iconst 1, 1) := by decide +kernel
theorem dX8_countWords_36 : decode cX8_countWords 36 = .ok (.goto 4, 3) := by decide +kernel
theorem dX8_countWords_39 : decode cX8_countWords 39 = .ok (.iconst 0, 1) := by decide +kernel
theorem dX8_countWords_40 : decode cX8_countWords 40 = .ok (.iadd, 1) := by decide +kernel
theorem dX8_countWords_41 : decode cX8_countWords 41 = .ok (.istore_n 1, 1) := by decide +kernel
theorem dX8_countWords_42 : decode cX8_countWords 42 = .ok (.iload 4, 2) := by decide +kernel
theorem dX8_countWords_44 : decode cX8_countWords 44 = .ok (.istore_n 2, 1) := by decide +kernel
theorem dX8_countWords_45 : decode cX8_countWords 45 = .ok (.iinc 3 1, 3) := by decide +kernel
theorem dX8_countWords_48 : decode cX8_countWords 48 = .ok (.goto (-42), 3) := by decide +kernel
theorem dX8_countWords_51 : decode cX8_countWords 51 = .ok (.iload_n 1, 1) := by decide +kernel
theorem dX8_countWords_52 : decode cX8_countWords 52 = .ok (.ireturn, 1) := by decide +kernel
theorem dX8_sumOf_0 : decode cX8_sumOf 0 = .ok (.iconst 0, 1) := by decide +kernel
theorem dX8_sumOf_1 : decode cX8_sumOf 1 = .ok (.istore_n 3, 1) := by decide +kernel
theorem dX8_sumOf_2 : decode cX8_sumOf 2 = .ok (.iload_n 1, 1) := by decide +kernel
theorem dX8_sumOf_3 : decode cX8_sumOf 3 = .ok (.istore 4, 2) := by decide +kernel
theorem dX8_sumOf_5 : decode cX8_sumOf 5 = .ok (.iload 4, 2) := by decide +kernel
theorem dX8_sumOf_7 : decode cX8_sumOf 7 = .ok (.iload_n 2, 1) := by decide +kernel
theorem dX8_sumOf_8 : decode cX8_sumOf 8 = .ok (.if_icmp .ge 22, 3) := by decide +kernel
theorem dX8_sumOf_11 : decode cX8_sumOf 11 = .ok (.bipush 31, 2) := by decide +kernel
theorem dX8_sumOf_13 : decode cX8_sumOf 13 = .ok (.iload_n 3, 1) := by decide +kernel
theorem dX8_sumOf_14 : decode cX8_sumOf 14 = .ok (.imul, 1) := by decide +kernel
theorem dX8_sumOf_15 : decode cX8_sumOf 15 = .ok (.aload_n 0, 1) := by decide +kernel
theorem dX8_sumOf_16 : decode cX8_sumOf 16 = .ok (.getfield 9, 3) := by decide +kernel
theorem dX8_sumOf_19 : decode cX8_sumOf 19 = .ok (.iload 4, 2) := by decide +kernel
theorem dX8_sumOf_21 : decode cX8_sumOf 21 = .ok (.baload, 1) := by decide +kernel
theorem dX8_sumOf_22 : decode cX8_sumOf 22 = .ok (.iadd, 1) := by decide +kernel
theorem dX8_sumOf_23 : decode cX8_sumOf 23 = .ok (.istore_n 3, 1) := by decide +kernel
theorem dX8_sumOf_24 : decode cX8_sumOf 24 = .ok (.iinc 4 1, 3) := by decide +kernel
theorem dX8_sumOf_27 : decode cX8_sumOf 27 = .ok (.goto (-22), 3) := by decide +kernel
theorem dX8_sumOf_30 : decode cX8_sumOf 30 = .ok (.iload_n 3, 1) := by decide +kernel
theorem dX8_sumOf_31 : decode cX8_sumOf 31 = .ok (.ireturn, 1) := by decide +kernel
theorem dX8_hasTrueBegins_0 : decode cX8_hasTrueBegins 0 = .ok (.iconst 0, 1) := by decide +kernel
theorem dX8_hasTrueBegins_1 : decode cX8_hasTrueBegins 1 = .ok (.istore_n 1, 1) := by decide +kernel
theorem dX8_hasTrueBegins_2 : decode cX8_hasTrueBegins 2 = .ok (.aload_n 0, 1) := by decide +kernel
theorem dX8_hasTrueBegins_3 : decode cX8_hasTrueBegins 3 = .ok (.getfield 19, 3) := by decide +kernel
theorem dX8_hasTrueBegins_6 : decode cX8_hasTrueBegins 6 = .ok (.iconst 0, 1) := by decide +kernel
theorem dX8_hasTrueBegins_7 : decode cX8_hasTrueBegins 7 = .ok (.iaload, 1) := by decide +kernel
theorem dX8_hasTrueBegins_8 : decode cX8_hasTrueBegins 8 = .ok (.ifCond .ne 7, 3) := by decide +kernel
theorem dX8_hasTrueBegins_11 : decode cX8_hasTrueBegins 11 = .ok (.iconst 1, 1) := by decide +kernel
theorem dX8_hasTrueBegins_12 : decode cX8_hasTrueBegins 12 = .ok (.goto 4, 3) := by decide +kernel
theorem dX8_hasTrueBegins_15 : decode cX8_hasTrueBegins 15 = .ok (.iconst 0, 1) := by decide +kernel
theorem dX8_hasTrueBegins_16 : decode cX8_hasTrueBegins 16 = .ok (.istore_n 2, 1) := by decide +kernel
theorem dX8_hasTrueBegins_17 : decode cX8_hasTrueBegins 17 = .ok (.iconst 0, 1) := by decide +kernel
theorem dX8_hasTrueBegins_18 : decode cX8_hasTrueBegins 18 = .ok (.istore_n 3, 1) := by decide +kernel
theorem dX8_hasTrueBegins_19 : decode cX8_hasTrueBegins 19 = .ok (.iload_n 3, 1) := by decide +kernel
theorem dX8_hasTrueBegins_20 : decode cX8_hasTrueBegins 20 = .ok (.aload_n 0, 1) := by decide +kernel
theorem dX8_hasTrueBegins_21 : decode cX8_hasTrueBegins 21 = .ok (.getfield 15, 3) := by decide +kernel
theorem dX8_hasTrueBegins_24 : decode cX8_hasTrueBegins 24 = .ok (.if_icmp .ge 53, 3) := by decide +kernel
theorem dX8_hasTrueBegins_27 : decode cX8_hasTrueBegins 27 = .ok (.aload_n 0, 1) := by decide +kernel
theorem dX8_hasTrueBegins_28 : decode cX8_hasTrueBegins 28 = .ok (.getfield 9, 3) := by decide +kernel
theorem dX8_hasTrueBegins_31 : decode cX8_hasTrueBegins 31 = .ok (.iload_n 3, 1) := by decide +kernel
theorem dX8_hasTrueBegins_32 : decode cX8_hasTrueBegins 32 = .ok (.baload, 1) := by decide +kernel
theorem dX8_hasTrueBegins_33 : decode cX8_hasTrueBegins 33 = .ok (.bipush 10, 2) := by decide +kernel
theorem dX8_hasTrueBegins_35 : decode cX8_hasTrueBegins 35 = .ok (.if_icmp .ne 36, 3) := by decide +kernel
theorem dX8_hasTrueBegins_38 : decode cX8_hasTrueBegins 38 = .ok (.iinc 1 1, 3) := by decide +kernel
theorem dX8_hasTrueBegins_41 : decode cX8_hasTrueBegins 41 = .ok (.iload_n 2, 1) := by decide +kernel
theorem dX8_hasTrueBegins_42 : decode cX8_hasTrueBegins 42 = .ok (.ifCond .eq 27, 3) := by decide +kernel
theorem dX8_hasTrueBegins_45 : decode cX8_hasTrueBegins 45 = .ok (.iload_n 1, 1) := by decide +kernel
theorem dX8_hasTrueBegins_46 : decode cX8_hasTrueBegins 46 = .ok (.aload_n 0, 1) := by decide +kernel
theorem dX8_hasTrueBegins_47 : decode cX8_hasTrueBegins 47 = .ok (.getfield 27, 3) := by decide +kernel
theorem dX8_hasTrueBegins_50 : decode cX8_hasTrueBegins 50 = .ok (.if_icmp .ge 19, 3) := by decide +kernel
theorem dX8_hasTrueBegins_53 : decode cX8_hasTrueBegins 53 = .ok (.aload_n 0, 1) := by decide +kernel
theorem dX8_hasTrueBegins_54 : decode cX8_hasTrueBegins 54 = .ok (.getfield 19, 3) := by decide +kernel
theorem dX8_hasTrueBegins_57 : decode cX8_hasTrueBegins 57 = .ok (.iload_n 1, 1) := by decide +kernel
theorem dX8_hasTrueBegins_58 : decode cX8_hasTrueBegins 58 = .ok (.iaload, 1) := by decide +kernel
theorem dX8_hasTrueBegins_59 : decode cX8_hasTrueBegins 59 = .ok (.iload_n 3, 1) := by decide +kernel
theorem dX8_hasTrueBegins_60 : decode cX8_hasTrueBegins 60 = .ok (.iconst 1, 1) := by decide +kernel
theorem dX8_hasTrueBegins_61 : decode cX8_hasTrueBegins 61 = .ok (.iadd, 1) := by decide +kernel
theorem dX8_hasTrueBegins_62 : decode cX8_hasTrueBegins 62 = .ok (.if_icmp .ne 7, 3) := by decide +kernel
theorem dX8_hasTrueBegins_65 : decode cX8_hasTrueBegins 65 = .ok (.iconst 1, 1) := by decide +kernel
theorem dX8_hasTrueBegins_66 : decode cX8_hasTrueBegins 66 = .ok (.goto 4, 3) := by decide +kernel
theorem dX8_hasTrueBegins_69 : decode cX8_hasTrueBegins 69 = .ok (.iconst 0, 1) := by decide +kernel
theorem dX8_hasTrueBegins_70 : decode cX8_hasTrueBegins 70 = .ok (.istore_n 2, 1) := by decide +kernel
theorem dX8_hasTrueBegins_71 : decode cX8_hasTrueBegins 71 = .ok (.iinc 3 1, 3) := by decide +kernel
theorem dX8_hasTrueBegins_74 : decode cX8_hasTrueBegins 74 = .ok (.goto (-55), 3) := by decide +kernel
theorem dX8_hasTrueBegins_77 : decode cX8_hasTrueBegins 77 = .ok (.iload_n 2, 1) := by decide +kernel
theorem dX8_hasTrueBegins_78 : decode cX8_hasTrueBegins 78 = .ok (.ifCond .eq 17, 3) := by decide +kernel
theorem dX8_hasTrueBegins_81 : decode cX8_hasTrueBegins 81 = .ok (.iload_n 1, 1) := by decide +kernel
theorem dX8_hasTrueBegins_82 : decode cX8_hasTrueBegins 82 = .ok (.iconst 1, 1) := by decide +kernel
theorem dX8_hasTrueBegins_83 : decode cX8_hasTrueBegins 83 = .ok (.iadd, 1) := by decide +kernel
theorem dX8_hasTrueBegins_84 : decode cX8_hasTrueBegins 84 = .ok (.aload_n 0, 1) := by decide +kernel
theorem dX8_hasTrueBegins_85 : decode cX8_hasTrueBegins 85 = .ok (.getfield 27, 3) := by decide +kernel
theorem dX8_hasTrueBegins_88 : decode cX8_hasTrueBegins 88 = .ok (.if_icmp .ne 7, 3) := by decide +kernel
theorem dX8_hasTrueBegins_91 : decode cX8_hasTrueBegins 91 = .ok (.iconst 1, 1) := by decide +kernel
theorem dX8_hasTrueBegins_92 : decode cX8_hasTrueBegins 92 = .ok (.goto 4, 3) := by decide +kernel
theorem dX8_hasTrueBegins_95 : decode cX8_hasTrueBegins 95 = .ok (.iconst 0, 1) := by decide +kernel
theorem dX8_hasTrueBegins_96 : decode cX8_hasTrueBegins 96 = .ok (.ireturn, 1) := by decide +kernel
theorem dX8_countUnlike_0 : decode cX8_countUnlike 0 = .ok (.aload_n 0, 1) := by decide +kernel
theorem dX8_countUnlike_1 : decode cX8_countUnlike 1 = .ok (.aload_n 1, 1) := by decide +kernel
theorem dX8_countUnlike_2 : decode cX8_countUnlike 2 = .ok (.invokevirtual 76, 3) := by decide +kernel
theorem dX8_countUnlike_5 : decode cX8_countUnlike 5 = .ok (.ifCond .eq 7, 3) := by decide +kernel
theorem dX8_countUnlike_8 : decode cX8_countUnlike 8 = .ok (.iconst 0, 1) := by decide +kernel
theorem dX8_countUnlike_9 : decode cX8_countUnlike 9 = .ok (.goto 4, 3) := by decide +kernel
theorem dX8_countUnlike_12 : decode cX8_countUnlike 12 = .ok (.iconst 1, 1) := by decide +kernel
theorem dX8_countUnlike_13 : decode cX8_countUnlike 13 = .ok (.istore_n 2, 1) := by decide +kernel
theorem dX8_countUnlike_14 : decode cX8_countUnlike 14 = .ok (.iload_n 2, 1) := by decide +kernel
theorem dX8_countUnlike_15 : decode cX8_countUnlike 15 = .ok (.aload_n 0, 1) := by decide +kernel
theorem dX8_countUnlike_16 : decode cX8_countUnlike 16 = .ok (.aload_n 1, 1) := by decide +kernel
theorem dX8_countUnlike_17 : decode cX8_countUnlike 17 = .ok (.invokevirtual 80, 3) := by decide +kernel
theorem dX8_countUnlike_20 : decode cX8_countUnlike 20 = .ok (.ifCond .eq 7, 3) := by decide +kernel
theorem dX8_countUnlike_23 : decode cX8_countUnlike 23 = .ok (.iconst 0, 1) := by decide +kernel
theorem dX8_countUnlike_24 : decode cX8_countUnlike 24 = .ok (.goto 4, 3) := by decide +kernel
theorem dX8_countUnlike_27 : decode cX8_countUnlike 27 = .ok (.iconst 1, 1) := by decide +kernel
theorem dX8_countUnlike_28 : decode cX8_countUnlike 28 = .ok (.iadd, 1) := by decide +kernel
theorem dX8_countUnlike_29 : decode cX8_countUnlike 29 = .ok (.istore_n 2, 1) := by decide +kernel
theorem dX8_countUnlike_30 : decode cX8_countUnlike 30 = .ok (.iload_n 2, 1) := by decide +kernel
theorem dX8_countUnlike_31 : decode cX8_countUnlike 31 = .ok (.aload_n 0, 1) := by decide +kernel
theorem dX8_countUnlike_32 : decode cX8_countUnlike 32 = .ok (.aload_n 1, 1) := by decide +kernel
theorem dX8_countUnlike_33 : decode cX8_countUnlike 33 = .ok (.invokevirtual 83, 3) := by decide +kernel
theorem dX8_countUnlike_36 : decode cX8_countUnlike 36 = .ok (.ifCond .eq 7, 3) := by decide +kernel
theorem dX8_countUnlike_39 : decode cX8_countUnlike 39 = .ok (.iconst 0, 1) := by decide +kernel
theorem dX8_countUnlike_40 : decode cX8_countUnlike 40 = .ok (.goto 4, 3) := by decide +kernel
theorem dX8_countUnlike_43 : decode cX8_countUnlike 43 = .ok (.iconst 1, 1) := by decide +kernel
theorem dX8_countUnlike_44 : decode cX8_countUnlike 44 = .ok (.iadd, 1) := by decide +kernel
theorem dX8_countUnlike_45 : decode cX8_countUnlike 45 = .ok (.istore_n 2, 1) := by decide +kernel
theorem dX8_countUnlike_46 : decode cX8_countUnlike 46 = .ok (.iload_n 2, 1) := by decide +kernel
theorem dX8_countUnlike_47 : decode cX8_countUnlike 47 = .ok (.aload_n 0, 1) := by decide +kernel
theorem dX8_countUnlike_48 : decode cX8_countUnlike 48 = .ok (.aload_n 1, 1) := by decide +kernel
theorem dX8_countUnlike_49 : decode cX8_countUnlike 49 = .ok (.invokevirtual 86, 3) := by decide +kernel
theorem dX8_countUnlike_52 : decode cX8_countUnlike 52 = .ok (.ifCond .eq 7, 3) := by decide +kernel
theorem dX8_countUnlike_55 : decode cX8_countUnlike 55 = .ok (.iconst 0, 1) := by decide +kernel
theorem dX8_countUnlike_56 : decode cX8_countUnlike 56 = .ok (.goto 4, 3) := by decide +kernel
theorem dX8_countUnlike_59 : decode cX8_countUnlike 59 = .ok (.iconst 1, 1) := by decide +kernel
theorem dX8_countUnlike_60 : decode cX8_countUnlike 60 = .ok (.iadd, 1) := by decide +kernel
theorem dX8_countUnlike_61 : decode cX8_countUnlike 61 = .ok (.istore_n 2, 1) := by decide +kernel
theorem dX8_countUnlike_62 : decode cX8_countUnlike 62 = .ok (.iload_n 2, 1) := by decide +kernel
theorem dX8_countUnlike_63 : decode cX8_countUnlike 63 = .ok (.ireturn, 1) := by decide +kernel
theorem dX8_hasTextOf_0 : decode cX8_hasTextOf 0 = .ok (.aload_n 0, 1) := by decide +kernel
theorem dX8_hasTextOf_1 : decode cX8_hasTextOf 1 = .ok (.getfield 15, 3) := by decide +kernel
theorem dX8_hasTextOf_4 : decode cX8_hasTextOf 4 = .ok (.aload_n 1, 1) := by decide +kernel
theorem dX8_hasTextOf_5 : decode cX8_hasTextOf 5 = .ok (.getfield 15, 3) := by decide +kernel
theorem dX8_hasTextOf_8 : decode cX8_hasTextOf 8 = .ok (.if_icmp .ne 7, 3) := by decide +kernel
theorem dX8_hasTextOf_11 : decode cX8_hasTextOf 11 = .ok (.iconst 1, 1) := by decide +kernel
theorem dX8_hasTextOf_12 : decode cX8_hasTextOf 12 = .ok (.goto 4, 3) := by decide +kernel
theorem dX8_hasTextOf_15 : decode cX8_hasTextOf 15 = .ok (.iconst 0, 1) := by decide +kernel
theorem dX8_hasTextOf_16 : decode cX8_hasTextOf 16 = .ok (.istore_n 2, 1) := by decide +kernel
theorem dX8_hasTextOf_17 : decode cX8_hasTextOf 17 = .ok (.iconst 0, 1) := by decide +kernel
theorem dX8_hasTextOf_18 : decode cX8_hasTextOf 18 = .ok (.istore_n 3, 1) := by decide +kernel
theorem dX8_hasTextOf_19 : decode cX8_hasTextOf 19 = .ok (.iload_n 2, 1) := by decide +kernel
theorem dX8_hasTextOf_20 : decode cX8_hasTextOf 20 = .ok (.ifCond .eq 38, 3) := by decide +kernel
theorem dX8_hasTextOf_23 : decode cX8_hasTextOf 23 = .ok (.iload_n 3, 1) := by decide +kernel
theorem dX8_hasTextOf_24 : decode cX8_hasTextOf 24 = .ok (.aload_n 0, 1) := by decide +kernel
theorem dX8_hasTextOf_25 : decode cX8_hasTextOf 25 = .ok (.getfield 15, 3) := by decide +kernel
theorem dX8_hasTextOf_28 : decode cX8_hasTextOf 28 = .ok (.if_icmp .ge 30, 3) := by decide +kernel
theorem dX8_hasTextOf_31 : decode cX8_hasTextOf 31 = .ok (.aload_n 0, 1) := by decide +kernel
theorem dX8_hasTextOf_32 : decode cX8_hasTextOf 32 = .ok (.getfield 9, 3) := by decide +kernel
theorem dX8_hasTextOf_35 : decode cX8_hasTextOf 35 = .ok (.iload_n 3, 1) := by decide +kernel
theorem dX8_hasTextOf_36 : decode cX8_hasTextOf 36 = .ok (.baload, 1) := by decide +kernel
theorem dX8_hasTextOf_37 : decode cX8_hasTextOf 37 = .ok (.aload_n 1, 1) := by decide +kernel
theorem dX8_hasTextOf_38 : decode cX8_hasTextOf 38 = .ok (.getfield 9, 3) := by decide +kernel
theorem dX8_hasTextOf_41 : decode cX8_hasTextOf 41 = .ok (.iload_n 3, 1) := by decide +kernel
theorem dX8_hasTextOf_42 : decode cX8_hasTextOf 42 = .ok (.baload, 1) := by decide +kernel
theorem dX8_hasTextOf_43 : decode cX8_hasTextOf 43 = .ok (.if_icmp .ne 7, 3) := by decide +kernel
theorem dX8_hasTextOf_46 : decode cX8_hasTextOf 46 = .ok (.iconst 1, 1) := by decide +kernel
theorem dX8_hasTextOf_47 : decode cX8_hasTextOf 47 = .ok (.goto 4, 3) := by decide +kernel
theorem dX8_hasTextOf_50 : decode cX8_hasTextOf 50 = .ok (.iconst 0, 1) := by decide +kernel
theorem dX8_hasTextOf_51 : decode cX8_hasTextOf 51 = .ok (.istore_n 2, 1) := by decide +kernel
theorem dX8_hasTextOf_52 : decode cX8_hasTextOf 52 = .ok (.iinc 3 1, 3) := by decide +kernel
theorem dX8_hasTextOf_55 : decode cX8_hasTextOf 55 = .ok (.goto (-36), 3) := by decide +kernel
theorem dX8_hasTextOf_58 : decode cX8_hasTextOf 58 = .ok (.iload_n 2, 1) := by decide +kernel
theorem dX8_hasTextOf_59 : decode cX8_hasTextOf 59 = .ok (.ireturn, 1) := by decide +kernel
theorem dX8_hasCursorsOf_0 : decode cX8_hasCursorsOf 0 = .ok (.aload_n 0, 1) := by decide +kernel
theorem dX8_hasCursorsOf_1 : decode cX8_hasCursorsOf 1 = .ok (.getfield 33, 3) := by decide +kernel
theorem dX8_hasCursorsOf_4 : decode cX8_hasCursorsOf 4 = .ok (.aload_n 1, 1) := by decide +kernel
theorem dX8_hasCursorsOf_5 : decode cX8_hasCursorsOf 5 = .ok (.getfield 33, 3) := by decide +kernel
theorem dX8_hasCursorsOf_8 : decode cX8_hasCursorsOf 8 = .ok (.if_icmp .ne 7, 3) := by decide +kernel
theorem dX8_hasCursorsOf_11 : decode cX8_hasCursorsOf 11 = .ok (.iconst 1, 1) := by decide +kernel
theorem dX8_hasCursorsOf_12 : decode cX8_hasCursorsOf 12 = .ok (.goto 4, 3) := by decide +kernel
theorem dX8_hasCursorsOf_15 : decode cX8_hasCursorsOf 15 = .ok (.iconst 0, 1) := by decide +kernel
theorem dX8_hasCursorsOf_16 : decode cX8_hasCursorsOf 16 = .ok (.istore_n 2, 1) := by decide +kernel
theorem dX8_hasCursorsOf_17 : decode cX8_hasCursorsOf 17 = .ok (.iconst 0, 1) := by decide +kernel
theorem dX8_hasCursorsOf_18 : decode cX8_hasCursorsOf 18 = .ok (.istore_n 3, 1) := by decide +kernel
theorem dX8_hasCursorsOf_19 : decode cX8_hasCursorsOf 19 = .ok (.iload_n 2, 1) := by decide +kernel
theorem dX8_hasCursorsOf_20 : decode cX8_hasCursorsOf 20 = .ok (.ifCond .eq 38, 3) := by decide +kernel
theorem dX8_hasCursorsOf_23 : decode cX8_hasCursorsOf 23 = .ok (.iload_n 3, 1) := by decide +kernel
theorem dX8_hasCursorsOf_24 : decode cX8_hasCursorsOf 24 = .ok (.aload_n 0, 1) := by decide +kernel
theorem dX8_hasCursorsOf_25 : decode cX8_hasCursorsOf 25 = .ok (.getfield 33, 3) := by decide +kernel
theorem dX8_hasCursorsOf_28 : decode cX8_hasCursorsOf 28 = .ok (.if_icmp .ge 30, 3) := by decide +kernel
theorem dX8_hasCursorsOf_31 : decode cX8_hasCursorsOf 31 = .ok (.aload_n 0, 1) := by decide +kernel
theorem dX8_hasCursorsOf_32 : decode cX8_hasCursorsOf 32 = .ok (.getfield 30, 3) := by decide +kernel
theorem dX8_hasCursorsOf_35 : decode cX8_hasCursorsOf 35 = .ok (.iload_n 3, 1) := by decide +kernel
theorem dX8_hasCursorsOf_36 : decode cX8_hasCursorsOf 36 = .ok (.iaload, 1) := by decide +kernel
theorem dX8_hasCursorsOf_37 : decode cX8_hasCursorsOf 37 = .ok (.aload_n 1, 1) := by decide +kernel
theorem dX8_hasCursorsOf_38 : decode cX8_hasCursorsOf 38 = .ok (.getfield 30, 3) := by decide +kernel
theorem dX8_hasCursorsOf_41 : decode cX8_hasCursorsOf 41 = .ok (.iload_n 3, 1) := by decide +kernel
theorem dX8_hasCursorsOf_42 : decode cX8_hasCursorsOf 42 = .ok (.iaload, 1) := by decide +kernel
theorem dX8_hasCursorsOf_43 : decode cX8_hasCursorsOf 43 = .ok (.if_icmp .ne 7, 3) := by decide +kernel
theorem dX8_hasCursorsOf_46 : decode cX8_hasCursorsOf 46 = .ok (.iconst 1, 1) := by decide +kernel
theorem dX8_hasCursorsOf_47 : decode cX8_hasCursorsOf 47 = .ok (.goto 4, 3) := by decide +kernel
theorem dX8_hasCursorsOf_50 : decode cX8_hasCursorsOf 50 = .ok (.iconst 0, 1) := by decide +kernel
theorem dX8_hasCursorsOf_51 : decode cX8_hasCursorsOf 51 = .ok (.istore_n 2, 1) := by decide +kernel
theorem dX8_hasCursorsOf_52 : decode cX8_hasCursorsOf 52 = .ok (.iinc 3 1, 3) := by decide +kernel
theorem dX8_hasCursorsOf_55 : decode cX8_hasCursorsOf 55 = .ok (.goto (-36), 3) := by decide +kernel
theorem dX8_hasCursorsOf_58 : decode cX8_hasCursorsOf 58 = .ok (.iload_n 2, 1) := by decide +kernel
theorem dX8_hasCursorsOf_59 : decode cX8_hasCursorsOf 59 = .ok (.ireturn, 1) := by decide +kernel
theorem dX8_hasMarksOf_0 : decode cX8_hasMarksOf 0 = .ok (.iconst 1, 1) := by decide +kernel
theorem dX8_hasMarksOf_1 : decode cX8_hasMarksOf 1 = .ok (.istore_n 2, 1) := by decide +kernel
theorem dX8_hasMarksOf_2 : decode cX8_hasMarksOf 2 = .ok (.iconst 0, 1) := by decide +kernel
theorem dX8_hasMarksOf_3 : decode cX8_hasMarksOf 3 = .ok (.istore_n 3, 1) := by decide +kernel
theorem dX8_hasMarksOf_4 : decode cX8_hasMarksOf 4 = .ok (.iload_n 2, 1) := by decide +kernel
theorem dX8_hasMarksOf_5 : decode cX8_hasMarksOf 5 = .ok (.ifCond .eq 51, 3) := by decide +kernel
theorem dX8_hasMarksOf_8 : decode cX8_hasMarksOf 8 = .ok (.iload_n 3, 1) := by decide +kernel
theorem dX8_hasMarksOf_9 : decode cX8_hasMarksOf 9 = .ok (.bipush 16, 2) := by decide +kernel
theorem dX8_hasMarksOf_11 : decode cX8_hasMarksOf 11 = .ok (.if_icmp .ge 45, 3) := by decide +kernel
theorem dX8_hasMarksOf_14 : decode cX8_hasMarksOf 14 = .ok (.aload_n 0, 1) := by decide +kernel
theorem dX8_hasMarksOf_15 : decode cX8_hasMarksOf 15 = .ok (.getfield 36, 3) := by decide +kernel
theorem dX8_hasMarksOf_18 : decode cX8_hasMarksOf 18 = .ok (.iload_n 3, 1) := by decide +kernel
theorem dX8_hasMarksOf_19 : decode cX8_hasMarksOf 19 = .ok (.iaload, 1) := by decide +kernel
theorem dX8_hasMarksOf_20 : decode cX8_hasMarksOf 20 = .ok (.aload_n 1, 1) := by decide +kernel
theorem dX8_hasMarksOf_21 : decode cX8_hasMarksOf 21 = .ok (.getfield 36, 3) := by decide +kernel
theorem dX8_hasMarksOf_24 : decode cX8_hasMarksOf 24 = .ok (.iload_n 3, 1) := by decide +kernel
theorem dX8_hasMarksOf_25 : decode cX8_hasMarksOf 25 = .ok (.iaload, 1) := by decide +kernel
theorem dX8_hasMarksOf_26 : decode cX8_hasMarksOf 26 = .ok (.if_icmp .ne 22, 3) := by decide +kernel
theorem dX8_hasMarksOf_29 : decode cX8_hasMarksOf 29 = .ok (.aload_n 0, 1) := by decide +kernel
theorem dX8_hasMarksOf_30 : decode cX8_hasMarksOf 30 = .ok (.getfield 39, 3) := by decide +kernel
theorem dX8_hasMarksOf_33 : decode cX8_hasMarksOf 33 = .ok (.iload_n 3, 1) := by decide +kernel
theorem dX8_hasMarksOf_34 : decode cX8_hasMarksOf 34 = .ok (.baload, 1) := by decide +kernel
theorem dX8_hasMarksOf_35 : decode cX8_hasMarksOf 35 = .ok (.aload_n 1, 1) := by decide +kernel
theorem dX8_hasMarksOf_36 : decode cX8_hasMarksOf 36 = .ok (.getfield 39, 3) := by decide +kernel
theorem dX8_hasMarksOf_39 : decode cX8_hasMarksOf 39 = .ok (.iload_n 3, 1) := by decide +kernel
theorem dX8_hasMarksOf_40 : decode cX8_hasMarksOf 40 = .ok (.baload, 1) := by decide +kernel
theorem dX8_hasMarksOf_41 : decode cX8_hasMarksOf 41 = .ok (.if_icmp .ne 7, 3) := by decide +kernel
theorem dX8_hasMarksOf_44 : decode cX8_hasMarksOf 44 = .ok (.iconst 1, 1) := by decide +kernel
theorem dX8_hasMarksOf_45 : decode cX8_hasMarksOf 45 = .ok (.goto 4, 3) := by decide +kernel
theorem dX8_hasMarksOf_48 : decode cX8_hasMarksOf 48 = .ok (.iconst 0, 1) := by decide +kernel
theorem dX8_hasMarksOf_49 : decode cX8_hasMarksOf 49 = .ok (.istore_n 2, 1) := by decide +kernel
theorem dX8_hasMarksOf_50 : decode cX8_hasMarksOf 50 = .ok (.iinc 3 1, 3) := by decide +kernel
theorem dX8_hasMarksOf_53 : decode cX8_hasMarksOf 53 = .ok (.goto (-49), 3) := by decide +kernel
theorem dX8_hasMarksOf_56 : decode cX8_hasMarksOf 56 = .ok (.iload_n 2, 1) := by decide +kernel
theorem dX8_hasMarksOf_57 : decode cX8_hasMarksOf 57 = .ok (.ireturn, 1) := by decide +kernel
theorem dX8_hasHiddenOf_0 : decode cX8_hasHiddenOf 0 = .ok (.aload_n 0, 1) := by decide +kernel
theorem dX8_hasHiddenOf_1 : decode cX8_hasHiddenOf 1 = .ok (.getfield 27, 3) := by decide +kernel
theorem dX8_hasHiddenOf_4 : decode cX8_hasHiddenOf 4 = .ok (.aload_n 1, 1) := by decide +kernel
theorem dX8_hasHiddenOf_5 : decode cX8_hasHiddenOf 5 = .ok (.getfield 27, 3) := by decide +kernel
theorem dX8_hasHiddenOf_8 : decode cX8_hasHiddenOf 8 = .ok (.if_icmp .ne 7, 3) := by decide +kernel
theorem dX8_hasHiddenOf_11 : decode cX8_hasHiddenOf 11 = .ok (.iconst 1, 1) := by decide +kernel
theorem dX8_hasHiddenOf_12 : decode cX8_hasHiddenOf 12 = .ok (.goto 4, 3) := by decide +kernel
theorem dX8_hasHiddenOf_15 : decode cX8_hasHiddenOf 15 = .ok (.iconst 0, 1) := by decide +kernel
theorem dX8_hasHiddenOf_16 : decode cX8_hasHiddenOf 16 = .ok (.istore_n 2, 1) := by decide +kernel
theorem dX8_hasHiddenOf_17 : decode cX8_hasHiddenOf 17 = .ok (.iconst 0, 1) := by decide +kernel
theorem dX8_hasHiddenOf_18 : decode cX8_hasHiddenOf 18 = .ok (.istore_n 3, 1) := by decide +kernel
theorem dX8_hasHiddenOf_19 : decode cX8_hasHiddenOf 19 = .ok (.iload_n 2, 1) := by decide +kernel
theorem dX8_hasHiddenOf_20 : decode cX8_hasHiddenOf 20 = .ok (.ifCond .eq 38, 3) := by decide +kernel
theorem dX8_hasHiddenOf_23 : decode cX8_hasHiddenOf 23 = .ok (.iload_n 3, 1) := by decide +kernel
theorem dX8_hasHiddenOf_24 : decode cX8_hasHiddenOf 24 = .ok (.aload_n 0, 1) := by decide +kernel
theorem dX8_hasHiddenOf_25 : decode cX8_hasHiddenOf 25 = .ok (.getfield 27, 3) := by decide +kernel
theorem dX8_hasHiddenOf_28 : decode cX8_hasHiddenOf 28 = .ok (.if_icmp .ge 30, 3) := by decide +kernel
theorem dX8_hasHiddenOf_31 : decode cX8_hasHiddenOf 31 = .ok (.aload_n 0, 1) := by decide +kernel
theorem dX8_hasHiddenOf_32 : decode cX8_hasHiddenOf 32 = .ok (.getfield 23, 3) := by decide +kernel
theorem dX8_hasHiddenOf_35 : decode cX8_hasHiddenOf 35 = .ok (.iload_n 3, 1) := by decide +kernel
theorem dX8_hasHiddenOf_36 : decode cX8_hasHiddenOf 36 = .ok (.baload, 1) := by decide +kernel
theorem dX8_hasHiddenOf_37 : decode cX8_hasHiddenOf 37 = .ok (.aload_n 1, 1) := by decide +kernel
theorem dX8_hasHiddenOf_38 : decode cX8_hasHiddenOf 38 = .ok (.getfield 23, 3) := by decide +kernel
theorem dX8_hasHiddenOf_41 : decode cX8_hasHiddenOf 41 = .ok (.iload_n 3, 1) := by decide +kernel
theorem dX8_hasHiddenOf_42 : decode cX8_hasHiddenOf 42 = .ok (.baload, 1) := by decide +kernel
theorem dX8_hasHiddenOf_43 : decode cX8_hasHiddenOf 43 = .ok (.if_icmp .ne 7, 3) := by decide +kernel
theorem dX8_hasHiddenOf_46 : decode cX8_hasHiddenOf 46 = .ok (.iconst 1, 1) := by decide +kernel
theorem dX8_hasHiddenOf_47 : decode cX8_hasHiddenOf 47 = .ok (.goto 4, 3) := by decide +kernel
theorem dX8_hasHiddenOf_50 : decode cX8_hasHiddenOf 50 = .ok (.iconst 0, 1) := by decide +kernel
theorem dX8_hasHiddenOf_51 : decode cX8_hasHiddenOf 51 = .ok (.istore_n 2, 1) := by decide +kernel
theorem dX8_hasHiddenOf_52 : decode cX8_hasHiddenOf 52 = .ok (.iinc 3 1, 3) := by decide +kernel
theorem dX8_hasHiddenOf_55 : decode cX8_hasHiddenOf 55 = .ok (.goto (-36), 3) := by decide +kernel
theorem dX8_hasHiddenOf_58 : decode cX8_hasHiddenOf 58 = .ok (.iload_n 2, 1) := by decide +kernel
theorem dX8_hasHiddenOf_59 : decode cX8_hasHiddenOf 59 = .ok (.ireturn, 1) := by decide +kernel
theorem dX9_init_0 : decode cX9_init 0 = .ok (.aload_n 0, 1) := by decide +kernel
theorem dX9_init_1 : decode cX9_init 1 = .ok (.invokespecial 3, 3) := by decide +kernel
theorem dX9_init_4 : decode cX9_init 4 = .ok (.aload_n 0, 1) := by decide +kernel
theorem dX9_init_5 : decode cX9_init 5 = .ok (.bipush 40, 2) := by decide +kernel
theorem dX9_init_7 : decode cX9_init 7 = .ok (.newarray .int, 2) := by decide +kernel
theorem dX9_init_9 : decode cX9_init 9 = .ok (.putfield 9, 3) := by decide +kernel
theorem dX9_init_12 : decode cX9_init 12 = .ok (.aload_n 0, 1) := by decide +kernel
theorem dX9_init_13 : decode cX9_init 13 = .ok (.bipush 40, 2) := by decide +kernel
theorem dX9_init_15 : decode cX9_init 15 = .ok (.newarray .int, 2) := by decide +kernel
theorem dX9_init_17 : decode cX9_init 17 = .ok (.putfield 15, 3) := by decide +kernel
theorem dX9_init_20 : decode cX9_init 20 = .ok (.aload_n 0, 1) := by decide +kernel
theorem dX9_init_21 : decode cX9_init 21 = .ok (.bipush 40, 2) := by decide +kernel
theorem dX9_init_23 : decode cX9_init 23 = .ok (.newarray .int, 2) := by decide +kernel
theorem dX9_init_25 : decode cX9_init 25 = .ok (.putfield 18, 3) := by decide +kernel
theorem dX9_init_28 : decode cX9_init 28 = .ok (.aload_n 0, 1) := by decide +kernel
theorem dX9_init_29 : decode cX9_init 29 = .ok (.sipush 8000, 3) := by decide +kernel
theorem dX9_init_32 : decode cX9_init 32 = .ok (.newarray .byte, 2) := by decide +kernel
theorem dX9_init_34 : decode cX9_init 34 = .ok (.putfield 21, 3) := by decide +kernel
theorem dX9_init_37 : decode cX9_init 37 = .ok (.aload_n 0, 1) := by decide +kernel
theorem dX9_init_38 : decode cX9_init 38 = .ok (.iconst 0, 1) := by decide +kernel
theorem dX9_init_39 : decode cX9_init 39 = .ok (.putfield 25, 3) := by decide +kernel
theorem dX9_init_42 : decode cX9_init 42 = .ok (.aload_n 0, 1) := by decide +kernel
theorem dX9_init_43 : decode cX9_init 43 = .ok (.iconst 0, 1) := by decide +kernel
theorem dX9_init_44 : decode cX9_init 44 = .ok (.putfield 29, 3) := by decide +kernel
theorem dX9_init_47 : decode cX9_init 47 = .ok (.return_, 1) := by decide +kernel
theorem dX9_add_0 : decode cX9_add 0 = .ok (.aload_n 0, 1) := by decide +kernel
theorem dX9_add_1 : decode cX9_add 1 = .ok (.getfield 29, 3) := by decide +kernel
theorem dX9_add_4 : decode cX9_add 4 = .ok (.ifCond .eq 12, 3) := by decide +kernel
theorem dX9_add_7 : decode cX9_add 7 = .ok (.aload_n 0, 1) := by decide +kernel
theorem dX9_add_8 : decode cX9_add 8 = .ok (.getfield 25, 3) := by decide +kernel
theorem dX9_add_11 : decode cX9_add 11 = .ok (.bipush 40, 2) := by decide +kernel
theorem dX9_add_13 : decode cX9_add 13 = .ok (.if_icmp .lt 4, 3) := by decide +kernel
theorem dX9_add_16 : decode cX9_add 16 = .ok (.return_, 1) := by decide +kernel
theorem dX9_add_17 : decode cX9_add 17 = .ok (.aload_n 0, 1) := by decide +kernel
theorem dX9_add_18 : decode cX9_add 18 = .ok (.getfield 9, 3) := by decide +kernel
theorem dX9_add_21 : decode cX9_add 21 = .ok (.aload_n 0, 1) := by decide +kernel
theorem dX9_add_22 : decode cX9_add 22 = .ok (.getfield 25, 3) := by decide +kernel
theorem dX9_add_25 : decode cX9_add 25 = .ok (.iload_n 1, 1) := by decide +kernel
theorem dX9_add_26 : decode cX9_add 26 = .ok (.iastore, 1) := by decide +kernel
theorem dX9_add_27 : decode cX9_add 27 = .ok (.aload_n 0, 1) := by decide +kernel
theorem dX9_add_28 : decode cX9_add 28 = .ok (.getfield 15, 3) := by decide +kernel
theorem dX9_add_31 : decode cX9_add 31 = .ok (.aload_n 0, 1) := by decide +kernel
theorem dX9_add_32 : decode cX9_add 32 = .ok (.getfield 25, 3) := by decide +kernel
theorem dX9_add_35 : decode cX9_add 35 = .ok (.iload_n 2, 1) := by decide +kernel
theorem dX9_add_36 : decode cX9_add 36 = .ok (.iastore, 1) := by decide +kernel
theorem dX9_add_37 : decode cX9_add 37 = .ok (.aload_n 0, 1) := by decide +kernel
theorem dX9_add_38 : decode cX9_add 38 = .ok (.getfield 18, 3) := by decide +kernel
theorem dX9_add_41 : decode cX9_add 41 = .ok (.aload_n 0, 1) := by decide +kernel
theorem dX9_add_42 : decode cX9_add 42 = .ok (.getfield 25, 3) := by decide +kernel
theorem dX9_add_45 : decode cX9_add 45 = .ok (.iload_n 3, 1) := by decide +kernel
theorem dX9_add_46 : decode cX9_add 46 = .ok (.iastore, 1) := by decide +kernel
theorem dX9_add_47 : decode cX9_add 47 = .ok (.aload_n 0, 1) := by decide +kernel
theorem dX9_add_48 : decode cX9_add 48 = .ok (.dup, 1) := by decide +kernel
theorem dX9_add_49 : decode cX9_add 49 = .ok (.getfield 25, 3) := by decide +kernel
theorem dX9_add_52 : decode cX9_add 52 = .ok (.iconst 1, 1) := by decide +kernel
theorem dX9_add_53 : decode cX9_add 53 = .ok (.iadd, 1) := by decide +kernel
theorem dX9_add_54 : decode cX9_add 54 = .ok (.putfield 25, 3) := by decide +kernel
theorem dX9_add_57 : decode cX9_add 57 = .ok (.return_, 1) := by decide +kernel
theorem dX9_addTyped_0 : decode cX9_addTyped 0 = .ok (.aload_n 0, 1) := by decide +kernel
theorem dX9_addTyped_1 : decode cX9_addTyped 1 = .ok (.getfield 29, 3) := by decide +kernel
theorem dX9_addTyped_4 : decode cX9_addTyped 4 = .ok (.ifCond .eq 36, 3) := by decide +kernel
theorem dX9_addTyped_7 : decode cX9_addTyped 7 = .ok (.aload_n 0, 1) := by decide +kernel
theorem dX9_addTyped_8 : decode cX9_addTyped 8 = .ok (.getfield 25, 3) := by decide +kernel
theorem dX9_addTyped_11 : decode cX9_addTyped 11 = .ok (.bipush 40, 2) := by decide +kernel
theorem dX9_addTyped_13 : decode cX9_addTyped 13 = .ok (.if_icmp .ge 27, 3) := by decide +kernel
theorem dX9_addTyped_16 : decode cX9_addTyped 16 = .ok (.aload_n 1, 1) := by decide +kernel
theorem dX9_addTyped_17 : decode cX9_addTyped 17 = .ok (.getfield 33, 3) := by decide +kernel
theorem dX9_addTyped_20 : decode cX9_addTyped 20 = .ok (.iconst 0, 1) := by decide +kernel
theorem dX9_addTyped_21 : decode cX9_addTyped 21 = .ok (.aload_n 0, 1) := by decide +kernel
theorem dX9_addTyped_22 : decode cX9_addTyped 22 = .ok (.getfield 21, 3) := by decide +kernel
theorem dX9_addTyped_25 : decode cX9_addTyped 25 = .ok (.aload_n 0, 1) := by decide +kernel
theorem dX9_addTyped_26 : decode cX9_addTyped 26 = .ok (.getfield 25, 3) := by decide +kernel
theorem dX9_addTyped_29 : decode cX9_addTyped 29 = .ok (.sipush 200, 3) := by decide +kernel
theorem dX9_addTyped_32 : decode cX9_addTyped 32 = .ok (.imul, 1) := by decide +kernel
theorem dX9_addTyped_33 : decode cX9_addTyped 33 = .ok (.aload_n 1, 1) := by decide +kernel
theorem dX9_addTyped_34 : decode cX9_addTyped 34 = .ok (.getfield 36, 3) := by decide +kernel
theorem dX9_addTyped_37 : decode cX9_addTyped 37 = .ok (.invokestatic 39, 3) := by decide +kernel
theorem dX9_addTyped_40 : decode cX9_addTyped 40 = .ok (.aload_n 0, 1) := by decide +kernel
theorem dX9_addTyped_41 : decode cX9_addTyped 41 = .ok (.iconst 0, 1) := by decide +kernel
theorem dX9_addTyped_42 : decode cX9_addTyped 42 = .ok (.iconst 0, 1) := by decide +kernel
theorem dX9_addTyped_43 : decode cX9_addTyped 43 = .ok (.aload_n 1, 1) := by decide +kernel
theorem dX9_addTyped_44 : decode cX9_addTyped 44 = .ok (.getfield 36, 3) := by decide +kernel
theorem dX9_addTyped_47 : decode cX9_addTyped 47 = .ok (.invokevirtual 45, 3) := by decide +kernel
theorem dX9_addTyped_50 : decode cX9_addTyped 50 = .ok (.return_, 1) := by decide +kernel
theorem dX10_overLines_0 : decode cX10_overLines 0 = .ok (.iload_n 2, 1) := by decide +kernel
theorem dX10_overLines_1 : decode cX10_overLines 1 = .ok (.ifCond .ge 7, 3) := by decide +kernel
theorem dX10_overLines_4 : decode cX10_overLines 4 = .ok (.iconst (-1), 1) := by decide +kernel
theorem dX10_overLines_5 : decode cX10_overLines 5 = .ok (.goto 4, 3) := by decide +kernel
theorem dX10_overLines_8 : decode cX10_overLines 8 = .ok (.iconst 1, 1) := by decide +kernel
theorem dX10_overLines_9 : decode cX10_overLines 9 = .ok (.istore 4, 2) := by decide +kernel
theorem dX10_overLines_11 : decode cX10_overLines 11 = .ok (.iload_n 2, 1) := by decide +kernel
theorem dX10_overLines_12 : decode cX10_overLines 12 = .ok (.invokestatic 7, 3) := by decide +kernel
theorem dX10_overLines_15 : decode cX10_overLines 15 = .ok (.istore 5, 2) := by decide +kernel
theorem dX10_overLines_17 : decode cX10_overLines 17 = .ok (.aload_n 0, 1) := by decide +kernel
theorem dX10_overLines_18 : decode cX10_overLines 18 = .ok (.iload_n 1, 1) := by decide +kernel
theorem dX10_overLines_19 : decode cX10_overLines 19 = .ok (.invokevirtual 13, 3) := by decide +kernel
theorem dX10_overLines_22 : decode cX10_overLines 22 = .ok (.istore 6, 2) := by decide +kernel
theorem dX10_overLines_24 : decode cX10_overLines 24 = .ok (.iload 6, 2) := by decide +kernel
theorem dX10_overLines_26 : decode cX10_overLines 26 = .ok (.istore 7, 2) := by decide +kernel
theorem dX10_overLines_28 : decode cX10_overLines 28 = .ok (.iload 6, 2) := by decide +kernel
theorem dX10_overLines_30 : decode cX10_overLines 30 = .ok (.iload 4, 2) := by decide +kernel
theorem dX10_overLines_32 : decode cX10_overLines 32 = .ok (.iadd, 1) := by decide +kernel
theorem dX10_overLines_33 : decode cX10_overLines 33 = .ok (.istore 8, 2) := by decide +kernel
theorem dX10_overLines_35 : decode cX10_overLines 35 = .ok (.iload 5, 2) := by decide +kernel
theorem dX10_overLines_37 : decode cX10_overLines 37 = .ok (.ifCond .le 44, 3) := by decide +kernel
theorem dX10_overLines_40 : decode cX10_overLines 40 = .ok (.iload 8, 2) := by decide +kernel
theorem dX10_overLines_42 : decode cX10_overLines 42 = .ok (.ifCond .lt 39, 3) := by decide +kernel
theorem dX10_overLines_45 : decode cX10_overLines 45 = .ok (.iload 8, 2) := by decide +kernel
theorem dX10_overLines_47 : decode cX10_overLines 47 = .ok (.aload_n 0, 1) := by decide +kernel
theorem dX10_overLines_48 : decode cX10_overLines 48 = .ok (.getfield 18, 3) := by decide +kernel
theorem dX10_overLines_51 : decode cX10_overLines 51 = .ok (.if_icmp .ge 30, 3) := by decide +kernel
theorem dX10_overLines_54 : decode cX10_overLines 54 = .ok (.aload_n 0, 1) := by decide +kernel
theorem dX10_overLines_55 : decode cX10_overLines 55 = .ok (.getfield 22, 3) := by decide +kernel
theorem dX10_overLines_58 : decode cX10_overLines 58 = .ok (.iload 8, 2) := by decide +kernel
theorem dX10_overLines_60 : decode cX10_overLines 60 = .ok (.baload, 1) := by decide +kernel
theorem dX10_overLines_61 : decode cX10_overLines 61 = .ok (.ifCond .ne 10, 3) := by decide +kernel
theorem dX10_overLines_64 : decode cX10_overLines 64 = .ok (.iload 8, 2) := by decide +kernel
theorem dX10_overLines_66 : decode cX10_overLines 66 = .ok (.istore 7, 2) := by decide +kernel
theorem dX10_overLines_68 : decode cX10_overLines 68 = .ok (.iinc 5 (-1), 3) := by decide +kernel
theorem dX10_overLines_71 : decode cX10_overLines 71 = .ok (.iload 8, 2) := by decide +kernel
theorem dX10_overLines_73 : decode cX10_overLines 73 = .ok (.iload 4, 2) := by decide +kernel
theorem dX10_overLines_75 : decode cX10_overLines 75 = .ok (.iadd, 1) := by decide +kernel
theorem dX10_overLines_76 : decode cX10_overLines 76 = .ok (.istore 8, 2) := by decide +kernel
theorem dX10_overLines_78 : decode cX10_overLines 78 = .ok (.goto (-43), 3) := by decide +kernel
theorem dX10_overLines_81 : decode cX10_overLines 81 = .ok (.aload_n 0, 1) := by decide +kernel
theorem dX10_overLines_82 : decode cX10_overLines 82 = .ok (.iload 7, 2) := by decide +kernel
theorem dX10_overLines_84 : decode cX10_overLines 84 = .ok (.aload_n 0, 1) := by decide +kernel
theorem dX10_overLines_85 : decode cX10_overLines 85 = .ok (.iload_n 1, 1) := by decide +kernel
theorem dX10_overLines_86 : decode cX10_overLines 86 = .ok (.iload_n 3, 1) := by decide +kernel
theorem dX10_overLines_87 : decode cX10_overLines 87 = .ok (.invokevirtual 26, 3) := by decide +kernel
theorem dX10_overLines_90 : decode cX10_overLines 90 = .ok (.iload_n 3, 1) := by decide +kernel
theorem dX10_overLines_91 : decode cX10_overLines 91 = .ok (.invokevirtual 30, 3) := by decide +kernel
theorem dX10_overLines_94 : decode cX10_overLines 94 = .ok (.ireturn, 1) := by decide +kernel
theorem dX10_overWords_0 : decode cX10_overWords 0 = .ok (.iload_n 1, 1) := by decide +kernel
theorem dX10_overWords_1 : decode cX10_overWords 1 = .ok (.istore_n 3, 1) := by decide +kernel
theorem dX10_overWords_2 : decode cX10_overWords 2 = .ok (.iconst 0, 1) := by decide +kernel
theorem dX10_overWords_3 : decode cX10_overWords 3 = .ok (.istore 4, 2) := by decide +kernel
theorem dX10_overWords_5 : decode cX10_overWords 5 = .ok (.iload 4, 2) := by decide +kernel
theorem dX10_overWords_7 : decode cX10_overWords 7 = .ok (.iload_n 2, 1) := by decide +kernel
theorem dX10_overWords_8 : decode cX10_overWords 8 = .ok (.if_icmp .ge 15, 3) := by decide +kernel
theorem dX10_overWords_11 : decode cX10_overWords 11 = .ok (.aload_n 0, 1) := by decide +kernel
theorem dX10_overWords_12 : decode cX10_overWords 12 = .ok (.iload_n 3, 1) := by decide +kernel
theorem dX10_overWords_13 : decode cX10_overWords 13 = .ok (.invokestatic 34, 3) := by decide +kernel
theorem dX10_overWords_16 : decode cX10_overWords 16 = .ok (.istore_n 3, 1) := by decide +kernel
theorem dX10_overWords_17 : decode cX10_overWords 17 = .ok (.iinc 4 1, 3) := by decide +kernel
theorem dX10_overWords_20 : decode cX10_overWords 20 = .ok (.goto (-15), 3) := by decide +kernel
theorem dX10_overWords_23 : decode cX10_overWords 23 = .ok (.iconst 0, 1) := by decide +kernel
theorem dX10_overWords_24 : decode cX10_overWords 24 = .ok (.istore 4, 2) := by decide +kernel
theorem dX10_overWords_26 : decode cX10_overWords 26 = .ok (.iload 4, 2) := by decide +kernel
theorem dX10_overWords_28 : decode cX10_overWords 28 = .ok (.iload_n 2, 1) := by decide +kernel
theorem dX10_overWords_29 : decode cX10_overWords 29 = .ok (.if_icmp .le 15, 3) := by decide +kernel
theorem dX10_overWords_32 : decode cX10_overWords 32 = .ok (.aload_n 0, 1) := by decide +kernel
theorem dX10_overWords_33 : decode cX10_overWords 33 = .ok (.iload_n 3, 1) := by decide +kernel
theorem dX10_overWords_34 : decode cX10_overWords 34 = .ok (.invokestatic 40, 3) := by decide +kernel
theorem dX10_overWords_37 : decode cX10_overWords 37 = .ok (.istore_n 3, 1) := by decide +kernel
theorem dX10_overWords_38 : decode cX10_overWords 38 = .ok (.iinc 4 (-1), 3) := by decide +kernel
theorem dX10_overWords_41 : decode cX10_overWords 41 = .ok (.goto (-15), 3) := by decide +kernel
theorem dX10_overWords_44 : decode cX10_overWords 44 = .ok (.iload_n 3, 1) := by decide +kernel
theorem dX10_overWords_45 : decode cX10_overWords 45 = .ok (.ireturn, 1) := by decide +kernel
theorem dX10_wordForward_0 : decode cX10_wordForward 0 = .ok (.iload_n 1, 1) := by decide +kernel
theorem dX10_wordForward_1 : decode cX10_wordForward 1 = .ok (.istore_n 2, 1) := by decide +kernel
theorem dX10_wordForward_2 : decode cX10_wordForward 2 = .ok (.iload_n 2, 1) := by decide +kernel
theorem dX10_wordForward_3 : decode cX10_wordForward 3 = .ok (.aload_n 0, 1) := by decide +kernel
theorem dX10_wordForward_4 : decode cX10_wordForward 4 = .ok (.getfield 43, 3) := by decide +kernel
theorem dX10_wordForward_7 : decode cX10_wordForward 7 = .ok (.if_icmp .ge 21, 3) := by decide +kernel
theorem dX10_wordForward_10 : decode cX10_wordForward 10 = .ok (.aload_n 0, 1) := by decide +kernel
theorem dX10_wordForward_11 : decode cX10_wordForward 11 = .ok (.getfield 46, 3) := by decide +kernel
theorem dX10_wordForward_14 : decode cX10_wordForward 14 = .ok (.iload_n 2, 1) := by decide +kernel
theorem dX10_wordForward_15 : decode cX10_wordForward 15 = .ok (.baload, 1) := by decide +kernel
theorem dX10_wordForward_16 : decode cX10_wordForward 16 = .ok (.invokestatic 50, 3) := by decide +kernel
theorem dX10_wordForward_19 : decode cX10_wordForward 19 = .ok (.ifCond .ne 9, 3) := by decide +kernel
theorem dX10_wordForward_22 : decode cX10_wordForward 22 = .ok (.iinc 2 1, 3) := by decide +kernel
theorem dX10_wordForward_25 : decode cX10_wordForward 25 = .ok (.goto (-23), 3) := by decide +kernel
theorem dX10_wordForward_28 : decode cX10_wordForward 28 = .ok (.iload_n 2, 1) := by decide +kernel
theorem dX10_wordForward_29 : decode cX10_wordForward 29 = .ok (.aload_n 0, 1) := by decide +kernel
theorem dX10_wordForward_30 : decode cX10_wordForward 30 = .ok (.getfield 43, 3) := by decide +kernel
theorem dX10_wordForward_33 : decode cX10_wordForward 33 = .ok (.if_icmp .ge 21, 3) := by decide +kernel
theorem dX10_wordForward_36 : decode cX10_wordForward 36 = .ok (.aload_n 0, 1) := by decide +kernel
theorem dX10_wordForward_37 : decode cX10_wordForward 37 = .ok (.getfield 46, 3) := by decide +kernel
theorem dX10_wordForward_40 : decode cX10_wordForward 40 = .ok (.iload_n 2, 1) := by decide +kernel
theorem dX10_wordForward_41 : decode cX10_wordForward 41 = .ok (.baload, 1) := by decide +kernel
theorem dX10_wordForward_42 : decode cX10_wordForward 42 = .ok (.invokestatic 50, 3) := by decide +kernel
theorem dX10_wordForward_45 : decode cX10_wordForward 45 = .ok (.ifCond .eq 9, 3) := by decide +kernel
theorem dX10_wordForward_48 : decode cX10_wordForward 48 = .ok (.iinc 2 1, 3) := by decide +kernel
theorem dX10_wordForward_51 : decode cX10_wordForward 51 = .ok (.goto (-23), 3) := by decide +kernel
theorem dX10_wordForward_54 : decode cX10_wordForward 54 = .ok (.iload_n 2, 1) := by decide +kernel
theorem dX10_wordForward_55 : decode cX10_wordForward 55 = .ok (.ireturn, 1) := by decide +kernel
theorem dX10_wordBack_0 : decode cX10_wordBack 0 = .ok (.iload_n 1, 1) := by decide +kernel
theorem dX10_wordBack_1 : decode cX10_wordBack 1 = .ok (.istore_n 2, 1) := by decide +kernel
theorem dX10_wordBack_2 : decode cX10_wordBack 2 = .ok (.iload_n 2, 1) := by decide +kernel
theorem dX10_wordBack_3 : decode cX10_wordBack 3 = .ok (.ifCond .le 23, 3) := by decide +kernel
theorem dX10_wordBack_6 : decode cX10_wordBack 6 = .ok (.aload_n 0, 1) := by decide +kernel
theorem dX10_wordBack_7 : decode cX10_wordBack 7 = .ok (.getfield 46, 3) := by decide +kernel
theorem dX10_wordBack_10 : decode cX10_wordBack 10 = .ok (.iload_n 2, 1) := by decide +kernel
theorem dX10_wordBack_11 : decode cX10_wordBack 11 = .ok (.iconst 1, 1) := by decide +kernel
theorem dX10_wordBack_12 : decode cX10_wordBack 12 = .ok (.isub, 1) := by decide +kernel
theorem dX10_wordBack_13 : decode cX10_wordBack 13 = .ok (.baload, 1) := by decide +kernel
theorem dX10_wordBack_14 : decode cX10_wordBack 14 = .ok (.invokestatic 50, 3) := by decide +kernel
theorem dX10_wordBack_17 : decode cX10_wordBack 17 = .ok (.ifCond .ne 9, 3) := by decide +kernel
theorem dX10_wordBack_20 : decode cX10_wordBack 20 = .ok (.iinc 2 (-1), 3) := by decide +kernel
theorem dX10_wordBack_23 : decode cX10_wordBack 23 = .ok (.goto (-21), 3) := by decide +kernel
theorem dX10_wordBack_26 : decode cX10_wordBack 26 = .ok (.iload_n 2, 1) := by decide +kernel
theorem dX10_wordBack_27 : decode cX10_wordBack 27 = .ok (.ifCond .le 23, 3) := by decide +kernel
theorem dX10_wordBack_30 : decode cX10_wordBack 30 = .ok (.aload_n 0, 1) := by decide +kernel
theorem dX10_wordBack_31 : decode cX10_wordBack 31 = .ok (.getfield 46, 3) := by decide +kernel
theorem dX10_wordBack_34 : decode cX10_wordBack 34 = .ok (.iload_n 2, 1) := by decide +kernel
theorem dX10_wordBack_35 : decode cX10_wordBack 35 = .ok (.iconst 1, 1) := by decide +kernel
theorem dX10_wordBack_36 : decode cX10_wordBack 36 = .ok (.isub, 1) := by decide +kernel
theorem dX10_wordBack_37 : decode cX10_wordBack 37 = .ok (.baload, 1) := by decide +kernel
theorem dX10_wordBack_38 : decode cX10_wordBack 38 = .ok (.invokestatic 50, 3) := by decide +kernel
theorem dX10_wordBack_41 : decode cX10_wordBack 41 = .ok (.ifCond .eq 9, 3) := by decide +kernel
theorem dX10_wordBack_44 : decode cX10_wordBack 44 = .ok (.iinc 2 (-1), 3) := by decide +kernel
theorem dX10_wordBack_47 : decode cX10_wordBack 47 = .ok (.goto (-21), 3) := by decide +kernel
theorem dX10_wordBack_50 : decode cX10_wordBack 50 = .ok (.iload_n 2, 1) := by decide +kernel
theorem dX10_wordBack_51 : decode cX10_wordBack 51 = .ok (.ireturn, 1) := by decide +kernel
theorem dX10_paragraphForward_0 : decode cX10_paragraphForward 0 = .ok (.iload_n 2, 1) := by decide +kernel
theorem dX10_paragraphForward_1 : decode cX10_paragraphForward 1 = .ok (.istore_n 3, 1) := by decide +kernel
theorem dX10_paragraphForward_2 : decode cX10_paragraphForward 2 = .ok (.aload_n 0, 1) := by decide +kernel
theorem dX10_paragraphForward_3 : decode cX10_paragraphForward 3 = .ok (.iload_n 1, 1) := by decide +kernel
theorem dX10_paragraphForward_4 : decode cX10_paragraphForward 4 = .ok (.invokevirtual 13, 3) := by decide +kernel
theorem dX10_paragraphForward_7 : decode cX10_paragraphForward 7 = .ok (.iconst 1, 1) := by decide +kernel
theorem dX10_paragraphForward_8 : decode cX10_paragraphForward 8 = .ok (.iadd, 1) := by decide +kernel
theorem dX10_paragraphForward_9 : decode cX10_paragraphForward 9 = .ok (.istore 4, 2) := by decide +kernel
theorem dX10_paragraphForward_11 : decode cX10_paragraphForward 11 = .ok (.iload 4, 2) := by decide +kernel
theorem dX10_paragraphForward_13 : decode cX10_paragraphForward 13 = .ok (.aload_n 0, 1) := by decide +kernel
theorem dX10_paragraphForward_14 : decode cX10_paragraphForward 14 = .ok (.getfield 18, 3) := by decide +kernel
theorem dX10_paragraphForward_17 : decode cX10_paragraphForward 17 = .ok (.if_icmp .ge 38, 3) := by decide +kernel
theorem dX10_paragraphForward_20 : decode cX10_paragraphForward 20 = .ok (.iload_n 3, 1) := by decide +kernel
theorem dX10_paragraphForward_21 : decode cX10_paragraphForward 21 = .ok (.aload_n 0, 1) := by decide +kernel
theorem dX10_paragraphForward_22 : decode cX10_paragraphForward 22 = .ok (.iload 4, 2) := by decide +kernel
theorem dX10_paragraphForward_24 : decode cX10_paragraphForward 24 = .ok (.invokevirtual 56, 3) := by decide +kernel
theorem dX10_paragraphForward_27 : decode cX10_paragraphForward 27 = .ok (.ifCond .eq 7, 3) := by decide +kernel
theorem dX10_paragraphForward_30 : decode cX10_paragraphForward 30 = .ok (.iconst 1, 1) := by decide +kernel
theorem dX10_paragraphForward_31 : decode cX10_paragraphForward 31 = .ok (.goto 4, 3) := by decide +kernel
theorem dX10_paragraphForward_34 : decode cX10_paragraphForward 34 = .ok (.iconst 0, 1) := by decide +kernel
theorem dX10_paragraphForward_35 : decode cX10_paragraphForward 35 = .ok (.isub, 1) := by decide +kernel
theorem dX10_paragraphForward_36 : decode cX10_paragraphForward 36 = .ok (.istore_n 3, 1) := by decide +kernel
theorem dX10_paragraphForward_37 : decode cX10_paragraphForward 37 = .ok (.iload_n 3, 1) := by decide +kernel
theorem dX10_paragraphForward_38 : decode cX10_paragraphForward 38 = .ok (.ifCond .ne 11, 3) := by decide +kernel
theorem dX10_paragraphForward_41 : decode cX10_paragraphForward 41 = .ok (.aload_n 0, 1) := by decide +kernel
theorem dX10_paragraphForward_42 : decode cX10_paragraphForward 42 = .ok (.getfield 59, 3) := by decide +kernel
theorem dX10_paragraphForward_45 : decode cX10_paragraphForward 45 = .ok (.iload 4, 2) := by decide +kernel
theorem dX10_paragraphForward_47 : decode cX10_paragraphForward 47 = .ok (.iaload, 1) := by decide +kernel
theorem dX10_paragraphForward_48 : decode cX10_paragraphForward 48 = .ok (.ireturn, 1) := by decide +kernel
theorem dX10_paragraphForward_49 : decode cX10_paragraphForward 49 = .ok (.iinc 4 1, 3) := by decide +kernel
theorem dX10_paragraphForward_52 : decode cX10_paragraphForward 52 = .ok (.goto (-41), 3) := by decide +kernel
theorem dX10_paragraphForward_55 : decode cX10_paragraphForward 55 = .ok (.aload_n 0, 1) := by decide +kernel
theorem dX10_paragraphForward_56 : decode cX10_paragraphForward 56 = .ok (.getfield 43, 3) := by decide +kernel
theorem dX10_paragraphForward_59 : decode cX10_paragraphForward 59 = .ok (.ireturn, 1) := by decide +kernel
theorem dX10_paragraphBack_0 : decode cX10_paragraphBack 0 = .ok (.iload_n 2, 1) := by decide +kernel
theorem dX10_paragraphBack_1 : decode cX10_paragraphBack 1 = .ok (.istore_n 3, 1) := by decide +kernel
theorem dX10_paragraphBack_2 : decode cX10_paragraphBack 2 = .ok (.aload_n 0, 1) := by decide +kernel
theorem dX10_paragraphBack_3 : decode cX10_paragraphBack 3 = .ok (.iload_n 1, 1) := by decide +kernel
theorem dX10_paragraphBack_4 : decode cX10_paragraphBack 4 = .ok (.invokevirtual 13, 3) := by decide +kernel
theorem dX10_paragraphBack_7 : decode cX10_paragraphBack 7 = .ok (.istore 4, 2) := by decide +kernel
theorem dX10_paragraphBack_9 : decode cX10_paragraphBack 9 = .ok (.iload 4, 2) := by decide +kernel
theorem dX10_paragraphBack_11 : decode cX10_paragraphBack 11 = .ok (.ifCond .lt 49, 3) := by decide +kernel
theorem dX10_paragraphBack_14 : decode cX10_paragraphBack 14 = .ok (.iload_n 3, 1) := by decide +kernel
theorem dX10_paragraphBack_15 : decode cX10_paragraphBack 15 = .ok (.aload_n 0, 1) := by decide +kernel
theorem dX10_paragraphBack_16 : decode cX10_paragraphBack 16 = .ok (.getfield 59, 3) := by decide +kernel
theorem dX10_paragraphBack_19 : decode cX10_paragraphBack 19 = .ok (.iload 4, 2) := by decide +kernel
theorem dX10_paragraphBack_21 : decode cX10_paragraphBack 21 = .ok (.iaload, 1) := by decide +kernel
theorem dX10_paragraphBack_22 : decode cX10_paragraphBack 22 = .ok (.iload_n 1, 1) := by decide +kernel
theorem dX10_paragraphBack_23 : decode cX10_paragraphBack 23 = .ok (.if_icmp .ge 16, 3) := by decide +kernel
theorem dX10_paragraphBack_26 : decode cX10_paragraphBack 26 = .ok (.aload_n 0, 1) := by decide +kernel
theorem dX10_paragraphBack_27 : decode cX10_paragraphBack 27 = .ok (.iload 4, 2) := by decide +kernel
theorem dX10_paragraphBack_29 : decode cX10_paragraphBack 29 = .ok (.invokevirtual 56, 3) := by decide +kernel
theorem dX10_paragraphBack_32 : decode cX10_paragraphBack 32 = .ok (.ifCond .eq 7, 3) := by decide +kernel
theorem dX10_paragraphBack_35 : decode cX10_paragraphBack 35 = .ok (.iconst 1, 1) := by decide +kernel
theorem dX10_paragraphBack_36 : decode cX10_paragraphBack 36 = .ok (.goto 4, 3) := by decide +kernel
theorem dX10_paragraphBack_39 : decode cX10_paragraphBack 39 = .ok (.iconst 0, 1) := by decide +kernel
theorem dX10_paragraphBack_40 : decode cX10_paragraphBack 40 = .ok (.isub, 1) := by decide +kernel
theorem dX10_paragraphBack_41 : decode cX10_paragraphBack 41 = .ok (.istore_n 3, 1) := by decide +kernel
theorem dX10_paragraphBack_42 : decode cX10_paragraphBack 42 = .ok (.iload_n 3, 1) := by decide +kernel
theorem dX10_paragraphBack_43 : decode cX10_paragraphBack 43 = .ok (.ifCond .ne 11, 3) := by decide +kernel
theorem dX10_paragraphBack_46 : decode cX10_paragraphBack 46 = .ok (.aload_n 0, 1) := by decide +kernel
theorem dX10_paragraphBack_47 : decode cX10_paragraphBack 47 = .ok (.getfield 59, 3) := by decide +kernel
theorem dX10_paragraphBack_50 : decode cX10_paragraphBack 50 = .ok (.iload 4, 2) := by decide +kernel
theorem dX10_paragraphBack_52 : decode cX10_paragraphBack 52 = .ok (.iaload, 1) := by decide +kernel
theorem dX10_paragraphBack_53 : decode cX10_paragraphBack 53 = .ok (.ireturn, 1) := by decide +kernel
theorem dX10_paragraphBack_54 : decode cX10_paragraphBack 54 = .ok (.iinc 4 (-1), 3) := by decide +kernel
theorem dX10_paragraphBack_57 : decode cX10_paragraphBack 57 = .ok (.goto (-48), 3) := by decide +kernel
theorem dX10_paragraphBack_60 : decode cX10_paragraphBack 60 = .ok (.iconst 0, 1) := by decide +kernel
theorem dX10_paragraphBack_61 : decode cX10_paragraphBack 61 = .ok (.ireturn, 1) := by decide +kernel
theorem dX11_init_0 : decode cX11_init 0 = .ok (.aload_n 0, 1) := by decide +kernel
theorem dX11_init_1 : decode cX11_init 1 = .ok (.invokespecial 1, 3) := by decide +kernel
theorem dX11_init_4 : decode cX11_init 4 = .ok (.aload_n 0, 1) := by decide +kernel
theorem dX11_init_5 : decode cX11_init 5 = .ok (.new 7, 3) := by decide +kernel
theorem dX11_init_8 : decode cX11_init 8 = .ok (.dup, 1) := by decide +kernel
theorem dX11_init_9 : decode cX11_init 9 = .ok (.invokespecial 9, 3) := by decide +kernel
theorem dX11_init_12 : decode cX11_init 12 = .ok (.putfield 10, 3) := by decide +kernel
theorem dX11_init_15 : decode cX11_init 15 = .ok (.aload_n 0, 1) := by decide +kernel
theorem dX11_init_16 : decode cX11_init 16 = .ok (.new 16, 3) := by decide +kernel
theorem dX11_init_19 : decode cX11_init 19 = .ok (.dup, 1) := by decide +kernel
theorem dX11_init_20 : decode cX11_init 20 = .ok (.sipush 200, 3) := by decide +kernel
theorem dX11_init_23 : decode cX11_init 23 = .ok (.newarray .byte, 2) := by decide +kernel
theorem dX11_init_25 : decode cX11_init 25 = .ok (.invokespecial 18, 3) := by decide +kernel
theorem dX11_init_28 : decode cX11_init 28 = .ok (.putfield 21, 3) := by decide +kernel
theorem dX11_init_31 : decode cX11_init 31 = .ok (.aload_n 0, 1) := by decide +kernel
theorem dX11_init_32 : decode cX11_init 32 = .ok (.new 25, 3) := by decide +kernel
theorem dX11_init_35 : decode cX11_init 35 = .ok (.dup, 1) := by decide +kernel
theorem dX11_init_36 : decode cX11_init 36 = .ok (.invokespecial 27, 3) := by decide +kernel
theorem dX11_init_39 : decode cX11_init 39 = .ok (.putfield 28, 3) := by decide +kernel
theorem dX11_init_42 : decode cX11_init 42 = .ok (.aload_n 0, 1) := by decide +kernel
theorem dX11_init_43 : decode cX11_init 43 = .ok (.new 32, 3) := by decide +kernel
theorem dX11_init_46 : decode cX11_init 46 = .ok (.dup, 1) := by decide +kernel
theorem dX11_init_47 : decode cX11_init 47 = .ok (.invokespecial 34, 3) := by decide +kernel
theorem dX11_init_50 : decode cX11_init 50 = .ok (.putfield 35, 3) := by decide +kernel
theorem dX11_init_53 : decode cX11_init 53 = .ok (.aload_n 0, 1) := by decide +kernel
theorem dX11_init_54 : decode cX11_init 54 = .ok (.new 39, 3) := by decide +kernel
theorem dX11_init_57 : decode cX11_init 57 = .ok (.dup, 1) := by decide +kernel
theorem dX11_init_58 : decode cX11_init 58 = .ok (.invokespecial 41, 3) := by decide +kernel
theorem dX11_init_61 : decode cX11_init 61 = .ok (.putfield 42, 3) := by decide +kernel
theorem dX11_init_64 : decode cX11_init 64 = .ok (.aload_n 0, 1) := by decide +kernel
theorem dX11_init_65 : decode cX11_init 65 = .ok (.new 46, 3) := by decide +kernel
theorem dX11_init_68 : decode cX11_init 68 = .ok (.dup, 1) := by decide +kernel
theorem dX11_init_69 : decode cX11_init 69 = .ok (.invokespecial 48, 3) := by decide +kernel
theorem dX11_init_72 : decode cX11_init 72 = .ok (.putfield 49, 3) := by decide +kernel
theorem dX11_init_75 : decode cX11_init 75 = .ok (.aload_n 0, 1) := by decide +kernel
theorem dX11_init_76 : decode cX11_init 76 = .ok (.new 53, 3) := by decide +kernel
theorem dX11_init_79 : decode cX11_init 79 = .ok (.dup, 1) := by decide +kernel
theorem dX11_init_80 : decode cX11_init 80 = .ok (.invokespecial 55, 3) := by decide +kernel
theorem dX11_init_83 : decode cX11_init 83 = .ok (.putfield 56, 3) := by decide +kernel
theorem dX11_init_86 : decode cX11_init 86 = .ok (.aload_n 0, 1) := by decide +kernel
theorem dX11_init_87 : decode cX11_init 87 = .ok (.new 60, 3) := by decide +kernel
theorem dX11_init_90 : decode cX11_init 90 = .ok (.dup, 1) := by decide +kernel
theorem dX11_init_91 : decode cX11_init 91 = .ok (.invokespecial 62, 3) := by decide +kernel
theorem dX11_init_94 : decode cX11_init 94 = .ok (.putfield 63, 3) := by decide +kernel
theorem dX11_init_97 : decode cX11_init 97 = .ok (.aload_n 0, 1) := by decide +kernel
theorem dX11_init_98 : decode cX11_init 98 = .ok (.iconst 2, 1) := by decide +kernel
theorem dX11_init_99 : decode cX11_init 99 = .ok (.newarray .int, 2) := by decide +kernel
theorem dX11_init_101 : decode cX11_init 101 = .ok (.putfield 67, 3) := by decide +kernel
theorem dX11_init_104 : decode cX11_init 104 = .ok (.aload_n 0, 1) := by decide +kernel
theorem dX11_init_105 : decode cX11_init 105 = .ok (.iconst 2, 1) := by decide +kernel
theorem dX11_init_106 : decode cX11_init 106 = .ok (.newarray .int, 2) := by decide +kernel
theorem dX11_init_108 : decode cX11_init 108 = .ok (.putfield 71, 3) := by decide +kernel
theorem dX11_init_111 : decode cX11_init 111 = .ok (.aload_n 0, 1) := by decide +kernel
theorem dX11_init_112 : decode cX11_init 112 = .ok (.iconst 4, 1) := by decide +kernel
theorem dX11_init_113 : decode cX11_init 113 = .ok (.putfield 74, 3) := by decide +kernel
theorem dX11_init_116 : decode cX11_init 116 = .ok (.iconst 0, 1) := by decide +kernel
theorem dX11_init_117 : decode cX11_init 117 = .ok (.istore_n 1, 1) := by decide +kernel
theorem dX11_init_118 : decode cX11_init 118 = .ok (.iload_n 1, 1) := by decide +kernel
theorem dX11_init_119 : decode cX11_init 119 = .ok (.iconst 2, 1) := by decide +kernel
theorem dX11_init_120 : decode cX11_init 120 = .ok (.if_icmp .ge 17, 3) := by decide +kernel
theorem dX11_init_123 : decode cX11_init 123 = .ok (.aload_n 0, 1) := by decide +kernel
theorem dX11_init_124 : decode cX11_init 124 = .ok (.getfield 71, 3) := by decide +kernel
theorem dX11_init_127 : decode cX11_init 127 = .ok (.iload_n 1, 1) := by decide +kernel
theorem dX11_init_128 : decode cX11_init 128 = .ok (.bipush 10, 2) := by decide +kernel
theorem dX11_init_130 : decode cX11_init 130 = .ok (.iastore, 1) := by decide +kernel
theorem dX11_init_131 : decode cX11_init 131 = .ok (.iinc 1 1, 3) := by decide +kernel
theorem dX11_init_134 : decode cX11_init 134 = .ok (.goto (-16), 3) := by decide +kernel
theorem dX11_init_137 : decode cX11_init 137 = .ok (.return_, 1) := by decide +kernel
theorem dX11_feed_0 : decode cX11_feed 0 = .ok (.iconst 0, 1) := by decide +kernel
theorem dX11_feed_1 : decode cX11_feed 1 = .ok (.istore_n 3, 1) := by decide +kernel
theorem dX11_feed_2 : decode cX11_feed 2 = .ok (.iconst 1, 1) := by decide +kernel
theorem dX11_feed_3 : decode cX11_feed 3 = .ok (.istore 4, 2) := by decide +kernel
theorem dX11_feed_5 : decode cX11_feed 5 = .ok (.bipush 56, 2) := by decide +kernel
theorem dX11_feed_7 : decode cX11_feed 7 = .ok (.istore 5, 2) := by decide +kernel
theorem dX11_feed_9 : decode cX11_feed 9 = .ok (.iload 5, 2) := by decide +kernel
theorem dX11_feed_11 : decode cX11_feed 11 = .ok (.ifCond .lt 58, 3) := by decide +kernel
theorem dX11_feed_14 : decode cX11_feed 14 = .ok (.lload_n 1, 1) := by decide +kernel
theorem dX11_feed_15 : decode cX11_feed 15 = .ok (.iload 5, 2) := by decide +kernel
theorem dX11_feed_17 : decode cX11_feed 17 = .ok (.lushr, 1) := by decide +kernel
theorem dX11_feed_18 : decode cX11_feed 18 = .ok (.l2i, 1) := by decide +kernel
theorem dX11_feed_19 : decode cX11_feed 19 = .ok (.sipush 255, 3) := by decide +kernel
theorem dX11_feed_22 : decode cX11_feed 22 = .ok (.iand, 1) := by decide +kernel
theorem dX11_feed_23 : decode cX11_feed 23 = .ok (.istore 6, 2) := by decide +kernel
theorem dX11_feed_25 : decode cX11_feed 25 = .ok (.iload_n 3, 1) := by decide +kernel
theorem dX11_feed_26 : decode cX11_feed 26 = .ok (.iload 6, 2) := by decide +kernel
theorem dX11_feed_28 : decode cX11_feed 28 = .ok (.ifCond .eq 7, 3) := by decide +kernel
theorem dX11_feed_31 : decode cX11_feed 31 = .ok (.iconst 1, 1) := by decide +kernel
theorem dX11_feed_32 : decode cX11_feed 32 = .ok (.goto 4, 3) := by decide +kernel
theorem dX11_feed_35 : decode cX11_feed 35 = .ok (.iconst 0, 1) := by decide +kernel
theorem dX11_feed_36 : decode cX11_feed 36 = .ok (.iadd, 1) := by decide +kernel
theorem dX11_feed_37 : decode cX11_feed 37 = .ok (.istore_n 3, 1) := by decide +kernel
theorem dX11_feed_38 : decode cX11_feed 38 = .ok (.iload 4, 2) := by decide +kernel
theorem dX11_feed_40 : decode cX11_feed 40 = .ok (.ifCond .eq 20, 3) := by decide +kernel
theorem dX11_feed_43 : decode cX11_feed 43 = .ok (.iload 6, 2) := by decide +kernel
theorem dX11_feed_45 : decode cX11_feed 45 = .ok (.ifCond .eq 11, 3) := by decide +kernel
theorem dX11_feed_48 : decode cX11_feed 48 = .ok (.iload 6, 2) := by decide +kernel
theorem dX11_feed_50 : decode cX11_feed 50 = .ok (.invokestatic 78, 3) := by decide +kernel
theorem dX11_feed_53 : decode cX11_feed 53 = .ok (.ifCond .eq 7, 3) := by decide +kernel
theorem dX11_feed_56 : decode cX11_feed 56 = .ok (.iconst 1, 1) := by decide +kernel
theorem dX11_feed_57 : decode cX11_feed 57 = .ok (.goto 4, 3) := by decide +kernel
theorem dX11_feed_60 : decode cX11_feed 60 = .ok (.iconst 0, 1) := by decide +kernel
theorem dX11_feed_61 : decode cX11_feed 61 = .ok (.istore 4, 2) := by decide +kernel
theorem dX11_feed_63 : decode cX11_feed 63 = .ok (.iinc 5 (-8), 3) := by decide +kernel
theorem dX11_feed_66 : decode cX11_feed 66 = .ok (.goto (-57), 3) := by decide +kernel
theorem dX11_feed_69 : decode cX11_feed 69 = .ok (.iload 4, 2) := by decide +kernel
theorem dX11_feed_71 : decode cX11_feed 71 = .ok (.ifCond .ne 13, 3) := by decide +kernel
theorem dX11_feed_74 : decode cX11_feed 74 = .ok (.new 82, 3) := by decide +kernel
theorem dX11_feed_77 : decode cX11_feed 77 = .ok (.dup, 1) := by decide +kernel
theorem dX11_feed_78 : decode cX11_feed 78 = .ok (.ldc 84, 2) := by decide +kernel
theorem dX11_feed_80 : decode cX11_feed 80 = .ok (.invokespecial 86, 3) := by decide +kernel
theorem dX11_feed_83 : decode cX11_feed 83 = .ok (.athrow, 1) := by decide +kernel
theorem dX11_feed_84 : decode cX11_feed 84 = .ok (.aload_n 0, 1) := by decide +kernel
theorem dX11_feed_85 : decode cX11_feed 85 = .ok (.getfield 21, 3) := by decide +kernel
theorem dX11_feed_88 : decode cX11_feed 88 = .ok (.getfield 89, 3) := by decide +kernel
theorem dX11_feed_91 : decode cX11_feed 91 = .ok (.iload_n 3, 1) := by decide +kernel
theorem dX11_feed_92 : decode cX11_feed 92 = .ok (.iadd, 1) := by decide +kernel
theorem dX11_feed_93 : decode cX11_feed 93 = .ok (.sipush 200, 3) := by decide +kernel
theorem dX11_feed_96 : decode cX11_feed 96 = .ok (.if_icmp .le 13, 3) := by decide +kernel
theorem dX11_feed_99 : decode cX11_feed 99 = .ok (.new 92, 3) := by decide +kernel
theorem dX11_feed_102 : decode cX11_feed 102 = .ok (.dup, 1) := by decide +kernel
theorem dX11_feed_103 : decode cX11_feed 103 = .ok (.ldc 94, 2) := by decide +kernel
theorem dX11_feed_105 : decode cX11_feed 105 = .ok (.invokespecial 96, 3) := by decide +kernel
theorem dX11_feed_108 : decode cX11_feed 108 = .ok (.athrow, 1) := by decide +kernel
theorem dX11_feed_109 : decode cX11_feed 109 = .ok (.bipush 56, 2) := by decide +kernel
theorem dX11_feed_111 : decode cX11_feed 111 = .ok (.istore 5, 2) := by decide +kernel
theorem dX11_feed_113 : decode cX11_feed 113 = .ok (.iload 5, 2) := by decide +kernel
theorem dX11_feed_115 : decode cX11_feed 115 = .ok (.ifCond .lt 35, 3) := by decide +kernel
theorem dX11_feed_118 : decode cX11_feed 118 = .ok (.lload_n 1, 1) := by decide +kernel
theorem dX11_feed_119 : decode cX11_feed 119 = .ok (.iload 5, 2) := by decide +kernel
theorem dX11_feed_121 : decode cX11_feed 121 = .ok (.lushr, 1) := by decide +kernel
theorem dX11_feed_122 : decode cX11_feed 122 = .ok (.l2i, 1) := by decide +kernel
theorem dX11_feed_123 : decode cX11_feed 123 = .ok (.sipush 255, 3) := by decide +kernel
theorem dX11_feed_126 : decode cX11_feed 126 = .ok (.iand, 1) := by decide +kernel
theorem dX11_feed_127 : decode cX11_feed 127 = .ok (.istore 6, 2) := by decide +kernel
theorem dX11_feed_129 : decode cX11_feed 129 = .ok (.iload 6, 2) := by decide +kernel
theorem dX11_feed_131 : decode cX11_feed 131 = .ok (.ifCond .eq 13, 3) := by decide +kernel
theorem dX11_feed_134 : decode cX11_feed 134 = .ok (.aload_n 0, 1) := by decide +kernel
theorem dX11_feed_135 : decode cX11_feed 135 = .ok (.getfield 21, 3) := by decide +kernel
theorem dX11_feed_138 : decode cX11_feed 138 = .ok (.iload 6, 2) := by decide +kernel
theorem dX11_feed_140 : decode cX11_feed 140 = .ok (.invokevirtual 97, 3) := by decide +kernel
theorem dX11_feed_143 : decode cX11_feed 143 = .ok (.pop, 1) := by decide +kernel
theorem dX11_feed_144 : decode cX11_feed 144 = .ok (.iinc 5 (-8), 3) := by decide +kernel
theorem dX11_feed_147 : decode cX11_feed 147 = .ok (.goto (-34), 3) := by decide +kernel
theorem dX11_feed_150 : decode cX11_feed 150 = .ok (.aload_n 0, 1) := by decide +kernel
theorem dX11_feed_151 : decode cX11_feed 151 = .ok (.getfield 21, 3) := by decide +kernel
theorem dX11_feed_154 : decode cX11_feed 154 = .ok (.getfield 89, 3) := by decide +kernel
theorem dX11_feed_157 : decode cX11_feed 157 = .ok (.ireturn, 1) := by decide +kernel
theorem dX11_clearTape_0 : decode cX11_clearTape 0 = .ok (.aload_n 0, 1) := by decide +kernel
theorem dX11_clearTape_1 : decode cX11_clearTape 1 = .ok (.getfield 21, 3) := by decide +kernel
theorem dX11_clearTape_4 : decode cX11_clearTape 4 = .ok (.getfield 89, 3) := by decide +kernel
theorem dX11_clearTape_7 : decode cX11_clearTape 7 = .ok (.istore_n 1, 1) := by decide +kernel
theorem dX11_clearTape_8 : decode cX11_clearTape 8 = .ok (.aload_n 0, 1) := by decide +kernel
theorem dX11_clearTape_9 : decode cX11_clearTape 9 = .ok (.getfield 21, 3) := by decide +kernel
theorem dX11_clearTape_12 : decode cX11_clearTape 12 = .ok (.iconst 0, 1) := by decide +kernel
theorem dX11_clearTape_13 : decode cX11_clearTape 13 = .ok (.putfield 89, 3) := by decide +kernel
theorem dX11_clearTape_16 : decode cX11_clearTape 16 = .ok (.iload_n 1, 1) := by decide +kernel
theorem dX11_clearTape_17 : decode cX11_clearTape 17 = .ok (.ireturn, 1) := by decide +kernel
theorem dX11_copy_0 : decode cX11_copy 0 = .ok (.aload_n 0, 1) := by decide +kernel
theorem dX11_copy_1 : decode cX11_copy 1 = .ok (.iload_n 1, 1) := by decide +kernel
theorem dX11_copy_2 : decode cX11_copy 2 = .ok (.iload_n 2, 1) := by decide +kernel
theorem dX11_copy_3 : decode cX11_copy 3 = .ok (.invokevirtual 100, 3) := by decide +kernel
theorem dX11_copy_6 : decode cX11_copy 6 = .ok (.aload_n 0, 1) := by decide +kernel
theorem dX11_copy_7 : decode cX11_copy 7 = .ok (.getfield 28, 3) := by decide +kernel
theorem dX11_copy_10 : decode cX11_copy 10 = .ok (.aload_n 0, 1) := by decide +kernel
theorem dX11_copy_11 : decode cX11_copy 11 = .ok (.getfield 10, 3) := by decide +kernel
theorem dX11_copy_14 : decode cX11_copy 14 = .ok (.getfield 104, 3) := by decide +kernel
theorem dX11_copy_17 : decode cX11_copy 17 = .ok (.iload_n 1, 1) := by decide +kernel
theorem dX11_copy_18 : decode cX11_copy 18 = .ok (.iload_n 2, 1) := by decide +kernel
theorem dX11_copy_19 : decode cX11_copy 19 = .ok (.iload_n 1, 1) := by decide +kernel
theorem dX11_copy_20 : decode cX11_copy 20 = .ok (.isub, 1) := by decide +kernel
theorem dX11_copy_21 : decode cX11_copy 21 = .ok (.invokevirtual 108, 3) := by decide +kernel
theorem dX11_copy_24 : decode cX11_copy 24 = .ok (.iload_n 2, 1) := by decide +kernel
theorem dX11_copy_25 : decode cX11_copy 25 = .ok (.iload_n 1, 1) := by decide +kernel
theorem dX11_copy_26 : decode cX11_copy 26 = .ok (.isub, 1) := by decide +kernel
theorem dX11_copy_27 : decode cX11_copy 27 = .ok (.ireturn, 1) := by decide +kernel
theorem dX11_copyBlock_0 : decode cX11_copyBlock 0 = .ok (.aload_n 0, 1) := by decide +kernel
theorem dX11_copyBlock_1 : decode cX11_copyBlock 1 = .ok (.iload_n 1, 1) := by decide +kernel
theorem dX11_copyBlock_2 : decode cX11_copyBlock 2 = .ok (.invokevirtual 112, 3) := by decide +kernel
theorem dX11_copyBlock_5 : decode cX11_copyBlock 5 = .ok (.iload_n 2, 1) := by decide +kernel
theorem dX11_copyBlock_6 : decode cX11_copyBlock 6 = .ok (.aload_n 0, 1) := by decide +kernel
theorem dX11_copyBlock_7 : decode cX11_copyBlock 7 = .ok (.getfield 10, 3) := by decide +kernel
theorem dX11_copyBlock_10 : decode cX11_copyBlock 10 = .ok (.getfield 116, 3) := by decide +kernel
theorem dX11_copyBlock_13 : decode cX11_copyBlock 13 = .ok (.iload_n 1, 1) := by decide +kernel
theorem dX11_copyBlock_14 : decode cX11_copyBlock 14 = .ok (.isub, 1) := by decide +kernel
theorem dX11_copyBlock_15 : decode cX11_copyBlock 15 = .ok (.if_icmp .le 13, 3) := by decide +kernel
theorem dX11_copyBlock_18 : decode cX11_copyBlock 18 = .ok (.new 119, 3) := by decide +kernel
theorem dX11_copyBlock_21 : decode cX11_copyBlock 21 = .ok (.dup, 1) := by decide +kernel
theorem dX11_copyBlock_22 : decode cX11_copyBlock 22 = .ok (.ldc 121, 2) := by decide +kernel
theorem dX11_copyBlock_24 : decode cX11_copyBlock 24 = .ok (.invokespecial 123, 3) := by decide +kernel
theorem dX11_copyBlock_27 : decode cX11_copyBlock 27 = .ok (.athrow, 1) := by decide +kernel
theorem dX11_copyBlock_28 : decode cX11_copyBlock 28 = .ok (.iload_n 2, 1) := by decide +kernel
theorem dX11_copyBlock_29 : decode cX11_copyBlock 29 = .ok (.iconst 1, 1) := by decide +kernel
theorem dX11_copyBlock_30 : decode cX11_copyBlock 30 = .ok (.if_icmp .lt 27, 3) := by decide +kernel
theorem dX11_copyBlock_33 : decode cX11_copyBlock 33 = .ok (.iload_n 3, 1) := by decide +kernel
theorem dX11_copyBlock_34 : decode cX11_copyBlock 34 = .ok (.ifCond .lt 23, 3) := by decide +kernel
theorem dX11_copyBlock_37 : decode cX11_copyBlock 37 = .ok (.iload_n 3, 1) := by decide +kernel
theorem dX11_copyBlock_38 : decode cX11_copyBlock 38 = .ok (.sipush 200, 3) := by decide +kernel
theorem dX11_copyBlock_41 : decode cX11_copyBlock 41 = .ok (.if_icmp .gt 16, 3) := by decide +kernel
theorem dX11_copyBlock_44 : decode cX11_copyBlock 44 = .ok (.iload 4, 2) := by decide +kernel
theorem dX11_copyBlock_46 : decode cX11_copyBlock 46 = .ok (.iconst 1, 1) := by decide +kernel
theorem dX11_copyBlock_47 : decode cX11_copyBlock 47 = .ok (.if_icmp .lt 10, 3) := by decide +kernel
theorem dX11_copyBlock_50 : decode cX11_copyBlock 50 = .ok (.iload 4, 2) := by decide +kernel
theorem dX11_copyBlock_52 : decode cX11_copyBlock 52 = .ok (.bipush 40, 2) := by decide +kernel
theorem dX11_copyBlock_54 : decode cX11_copyBlock 54 = .ok (.if_icmp .le 13, 3) := by decide +kernel
theorem dX11_copyBlock_57 : decode cX11_copyBlock 57 = .ok (.new 82, 3) := by decide +kernel
theorem dX11_copyBlock_60 : decode cX11_copyBlock 60 = .ok (.dup, 1) := by decide +kernel
theorem dX11_copyBlock_61 : decode cX11_copyBlock 61 = .ok (.ldc 124, 2) := by decide +kernel
theorem dX11_copyBlock_63 : decode cX11_copyBlock 63 = .ok (.invokespecial 86, 3) := by decide +kernel
theorem dX11_copyBlock_66 : decode cX11_copyBlock 66 = .ok (.athrow, 1) := by decide +kernel
theorem dX11_copyBlock_67 : decode cX11_copyBlock 67 = .ok (.aload_n 0, 1) := by decide +kernel
theorem dX11_copyBlock_68 : decode cX11_copyBlock 68 = .ok (.getfield 28, 3) := by decide +kernel
theorem dX11_copyBlock_71 : decode cX11_copyBlock 71 = .ok (.aload_n 0, 1) := by decide +kernel
theorem dX11_copyBlock_72 : decode cX11_copyBlock 72 = .ok (.getfield 10, 3) := by decide +kernel
theorem dX11_copyBlock_75 : decode cX11_copyBlock 75 = .ok (.iload_n 1, 1) := by decide +kernel
theorem dX11_copyBlock_76 : decode cX11_copyBlock 76 = .ok (.iload_n 2, 1) := by decide +kernel
theorem dX11_copyBlock_77 : decode cX11_copyBlock 77 = .ok (.iload_n 3, 1) := by decide +kernel
theorem dX11_copyBlock_78 : decode cX11_copyBlock 78 = .ok (.iload 4, 2) := by decide +kernel
theorem dX11_copyBlock_80 : decode cX11_copyBlock 80 = .ok (.invokevirtual 126, 3) := by decide +kernel
theorem dX11_copyBlock_83 : decode cX11_copyBlock 83 = .ok (.ireturn, 1) := by decide +kernel
theorem dX11_type_0 : decode cX11_type 0 = .ok (.aload_n 0, 1) := by decide +kernel
theorem dX11_type_1 : decode cX11_type 1 = .ok (.aload_n 0, 1) := by decide +kernel
theorem dX11_type_2 : decode cX11_type 2 = .ok (.getfield 21, 3) := by decide +kernel
theorem dX11_type_5 : decode cX11_type 5 = .ok (.getfield 130, 3) := by decide +kernel
theorem dX11_type_8 : decode cX11_type 8 = .ok (.iconst 0, 1) := by decide +kernel
theorem dX11_type_9 : decode cX11_type 9 = .ok (.aload_n 0, 1) := by decide +kernel
theorem dX11_type_10 : decode cX11_type 10 = .ok (.getfield 21, 3) := by decide +kernel
theorem dX11_type_13 : decode cX11_type 13 = .ok (.getfield 89, 3) := by decide +kernel
theorem dX11_type_16 : decode cX11_type 16 = .ok (.invokevirtual 131, 3) := by decide +kernel
theorem dX11_type_19 : decode cX11_type 19 = .ok (.aload_n 0, 1) := by decide +kernel
theorem dX11_type_20 : decode cX11_type 20 = .ok (.invokevirtual 134, 3) := by decide +kernel
theorem dX11_type_23 : decode cX11_type 23 = .ok (.ifCond .ne 13, 3) := by decide +kernel
theorem dX11_type_26 : decode cX11_type 26 = .ok (.new 92, 3) := by decide +kernel
theorem dX11_type_29 : decode cX11_type 29 = .ok (.dup, 1) := by decide +kernel
theorem dX11_type_30 : decode cX11_type 30 = .ok (.ldc 138, 2) := by decide +kernel
theorem dX11_type_32 : decode cX11_type 32 = .ok (.invokespecial 96, 3) := by decide +kernel
theorem dX11_type_35 : decode cX11_type 35 = .ok (.athrow, 1) := by decide +kernel
theorem dX11_type_36 : decode cX11_type 36 = .ok (.aload_n 0, 1) := by decide +kernel
theorem dX11_type_37 : decode cX11_type 37 = .ok (.getfield 56, 3) := by decide +kernel
theorem dX11_type_40 : decode cX11_type 40 = .ok (.aload_n 0, 1) := by decide +kernel
theorem dX11_type_41 : decode cX11_type 41 = .ok (.getfield 21, 3) := by decide +kernel
theorem dX11_type_44 : decode cX11_type 44 = .ok (.invokevirtual 140, 3) := by decide +kernel
theorem dX11_type_47 : decode cX11_type 47 = .ok (.aload_n 0, 1) := by decide +kernel
theorem dX11_type_48 : decode cX11_type 48 = .ok (.getfield 10, 3) := by decide +kernel
theorem dX11_type_51 : decode cX11_type 51 = .ok (.getfield 144, 3) := by decide +kernel
theorem dX11_type_54 : decode cX11_type 54 = .ok (.ireturn, 1) := by decide +kernel
theorem dX11_erase_0 : decode cX11_erase 0 = .ok (.iload_n 1, 1) := by decide +kernel
theorem dX11_erase_1 : decode cX11_erase 1 = .ok (.bipush (-100), 2) := by decide +kernel
theorem dX11_erase_3 : decode cX11_erase 3 = .ok (.if_icmp .lt 9, 3) := by decide +kernel
theorem dX11_erase_6 : decode cX11_erase 6 = .ok (.iload_n 1, 1) := by decide +kernel
theorem dX11_erase_7 : decode cX11_erase 7 = .ok (.bipush 100, 2) := by decide +kernel
theorem dX11_erase_9 : decode cX11_erase 9 = .ok (.if_icmp .le 13, 3) := by decide +kernel
theorem dX11_erase_12 : decode cX11_erase 12 = .ok (.new 82, 3) := by decide +kernel
theorem dX11_erase_15 : decode cX11_erase 15 = .ok (.dup, 1) := by decide +kernel
theorem dX11_erase_16 : decode cX11_erase 16 = .ok (.ldc 145, 2) := by decide +kernel
theorem dX11_erase_18 : decode cX11_erase 18 = .ok (.invokespecial 86, 3) := by decide +kernel
theorem dX11_erase_21 : decode cX11_erase 21 = .ok (.athrow, 1) := by decide +kernel
theorem dX11_erase_22 : decode cX11_erase 22 = .ok (.aload_n 0, 1) := by decide +kernel
theorem dX11_erase_23 : decode cX11_erase 23 = .ok (.getfield 10, 3) := by decide +kernel
theorem dX11_erase_26 : decode cX11_erase 26 = .ok (.getfield 144, 3) := by decide +kernel
theorem dX11_erase_29 : decode cX11_erase 29 = .ok (.istore_n 2, 1) := by decide +kernel
theorem dX11_erase_30 : decode cX11_erase 30 = .ok (.aload_n 0, 1) := by decide +kernel
theorem dX11_erase_31 : decode cX11_erase 31 = .ok (.iload_n 1, 1) := by decide +kernel
theorem dX11_erase_32 : decode cX11_erase 32 = .ok (.invokevirtual 147, 3) := by decide +kernel
theorem dX11_erase_35 : decode cX11_erase 35 = .ok (.aload_n 0, 1) := by decide +kernel
theorem dX11_erase_36 : decode cX11_erase 36 = .ok (.invokevirtual 134, 3) := by decide +kernel
theorem dX11_erase_39 : decode cX11_erase 39 = .ok (.ifCond .ne 13, 3) := by decide +kernel
theorem dX11_erase_42 : decode cX11_erase 42 = .ok (.new 92, 3) := by decide +kernel
theorem dX11_erase_45 : decode cX11_erase 45 = .ok (.dup, 1) := by decide +kernel
theorem dX11_erase_46 : decode cX11_erase 46 = .ok (.ldc 138, 2) := by decide +kernel
theorem dX11_erase_48 : decode cX11_erase 48 = .ok (.invokespecial 96, 3) := by decide +kernel
theorem dX11_erase_51 : decode cX11_erase 51 = .ok (.athrow, 1) := by decide +kernel
theorem dX11_erase_52 : decode cX11_erase 52 = .ok (.aload_n 0, 1) := by decide +kernel
theorem dX11_erase_53 : decode cX11_erase 53 = .ok (.getfield 56, 3) := by decide +kernel
theorem dX11_erase_56 : decode cX11_erase 56 = .ok (.iconst 1, 1) := by decide +kernel
theorem dX11_erase_57 : decode cX11_erase 57 = .ok (.iconst 0, 1) := by decide +kernel
theorem dX11_erase_58 : decode cX11_erase 58 = .ok (.iload_n 1, 1) := by decide +kernel
theorem dX11_erase_59 : decode cX11_erase 59 = .ok (.invokevirtual 150, 3) := by decide +kernel
theorem dX11_erase_62 : decode cX11_erase 62 = .ok (.iload_n 2, 1) := by decide +kernel
theorem dX11_erase_63 : decode cX11_erase 63 = .ok (.aload_n 0, 1) := by decide +kernel
theorem dX11_erase_64 : decode cX11_erase 64 = .ok (.getfield 10, 3) := by decide +kernel
theorem dX11_erase_67 : decode cX11_erase 67 = .ok (.getfield 144, 3) := by decide +kernel
theorem dX11_erase_70 : decode cX11_erase 70 = .ok (.isub, 1) := by decide +kernel
theorem dX11_erase_71 : decode cX11_erase 71 = .ok (.ireturn, 1) := by decide +kernel
theorem dX11_replace_0 : decode cX11_replace 0 = .ok (.aload_n 0, 1) := by decide +kernel
theorem dX11_replace_1 : decode cX11_replace 1 = .ok (.iload_n 1, 1) := by decide +kernel
theorem dX11_replace_2 : decode cX11_replace 2 = .ok (.iload_n 2, 1) := by decide +kernel
theorem dX11_replace_3 : decode cX11_replace 3 = .ok (.invokevirtual 100, 3) := by decide +kernel
theorem dX11_replace_6 : decode cX11_replace 6 = .ok (.aload_n 0, 1) := by decide +kernel
theorem dX11_replace_7 : decode cX11_replace 7 = .ok (.getfield 35, 3) := by decide +kernel
theorem dX11_replace_10 : decode cX11_replace 10 = .ok (.aload_n 0, 1) := by decide +kernel
theorem dX11_replace_11 : decode cX11_replace 11 = .ok (.getfield 21, 3) := by decide +kernel
theorem dX11_replace_14 : decode cX11_replace 14 = .ok (.getfield 130, 3) := by decide +kernel
theorem dX11_replace_17 : decode cX11_replace 17 = .ok (.iconst 0, 1) := by decide +kernel
theorem dX11_replace_18 : decode cX11_replace 18 = .ok (.aload_n 0, 1) := by decide +kernel
theorem dX11_replace_19 : decode cX11_replace 19 = .ok (.getfield 21, 3) := by decide +kernel
theorem dX11_replace_22 : decode cX11_replace 22 = .ok (.getfield 89, 3) := by decide +kernel
theorem dX11_replace_25 : decode cX11_replace 25 = .ok (.invokevirtual 153, 3) := by decide +kernel
theorem dX11_replace_28 : decode cX11_replace 28 = .ok (.aload_n 0, 1) := by decide +kernel
theorem dX11_replace_29 : decode cX11_replace 29 = .ok (.getfield 35, 3) := by decide +kernel
theorem dX11_replace_32 : decode cX11_replace 32 = .ok (.iload_n 1, 1) := by decide +kernel
theorem dX11_replace_33 : decode cX11_replace 33 = .ok (.iload_n 2, 1) := by decide +kernel
theorem dX11_replace_34 : decode cX11_replace 34 = .ok (.aload_n 0, 1) := by decide +kernel
theorem dX11_replace_35 : decode cX11_replace 35 = .ok (.getfield 21, 3) := by decide +kernel
theorem dX11_replace_38 : decode cX11_replace 38 = .ok (.getfield 89, 3) := by decide +kernel
theorem dX11_replace_41 : decode cX11_replace 41 = .ok (.invokevirtual 156, 3) := by decide +kernel
theorem dX11_replace_44 : decode cX11_replace 44 = .ok (.aload_n 0, 1) := by decide +kernel
theorem dX11_replace_45 : decode cX11_replace 45 = .ok (.invokevirtual 134, 3) := by decide +kernel
theorem dX11_replace_48 : decode cX11_replace 48 = .ok (.ifCond .ne 13, 3) := by decide +kernel
theorem dX11_replace_51 : decode cX11_replace 51 = .ok (.new 92, 3) := by decide +kernel
theorem dX11_replace_54 : decode cX11_replace 54 = .ok (.dup, 1) := by decide +kernel
theorem dX11_replace_55 : decode cX11_replace 55 = .ok (.ldc 138, 2) := by decide +kernel
theorem dX11_replace_57 : decode cX11_replace 57 = .ok (.invokespecial 96, 3) := by decide +kernel
theorem dX11_replace_60 : decode cX11_replace 60 = .ok (.athrow, 1) := by decide +kernel
theorem dX11_replace_61 : decode cX11_replace 61 = .ok (.aload_n 0, 1) := by decide +kernel
theorem dX11_replace_62 : decode cX11_replace 62 = .ok (.getfield 10, 3) := by decide +kernel
theorem dX11_replace_65 : decode cX11_replace 65 = .ok (.getfield 144, 3) := by decide +kernel
theorem dX11_replace_68 : decode cX11_replace 68 = .ok (.ireturn, 1) := by decide +kernel
theorem dX11_cut_0 : decode cX11_cut 0 = .ok (.aload_n 0, 1) := by decide +kernel
theorem dX11_cut_1 : decode cX11_cut 1 = .ok (.iload_n 1, 1) := by decide +kernel
theorem dX11_cut_2 : decode cX11_cut 2 = .ok (.iload_n 2, 1) := by decide +kernel
theorem dX11_cut_3 : decode cX11_cut 3 = .ok (.invokevirtual 100, 3) := by decide +kernel
theorem dX11_cut_6 : decode cX11_cut 6 = .ok (.aload_n 0, 1) := by decide +kernel
theorem dX11_cut_7 : decode cX11_cut 7 = .ok (.getfield 35, 3) := by decide +kernel
theorem dX11_cut_10 : decode cX11_cut 10 = .ok (.aload_n 0, 1) := by decide +kernel
theorem dX11_cut_11 : decode cX11_cut 11 = .ok (.getfield 10, 3) := by decide +kernel
theorem dX11_cut_14 : decode cX11_cut 14 = .ok (.getfield 104, 3) := by decide +kernel
theorem dX11_cut_17 : decode cX11_cut 17 = .ok (.iload_n 1, 1) := by decide +kernel
theorem dX11_cut_18 : decode cX11_cut 18 = .ok (.iload_n 2, 1) := by decide +kernel
theorem dX11_cut_19 : decode cX11_cut 19 = .ok (.iload_n 1, 1) := by decide +kernel
theorem dX11_cut_20 : decode cX11_cut 20 = .ok (.isub, 1) := by decide +kernel
theorem dX11_cut_21 : decode cX11_cut 21 = .ok (.invokevirtual 153, 3) := by decide +kernel
theorem dX11_cut_24 : decode cX11_cut 24 = .ok (.aload_n 0, 1) := by decide +kernel
theorem dX11_cut_25 : decode cX11_cut 25 = .ok (.getfield 35, 3) := by decide +kernel
theorem dX11_cut_28 : decode cX11_cut 28 = .ok (.iload_n 1, 1) := by decide +kernel
theorem dX11_cut_29 : decode cX11_cut 29 = .ok (.iload_n 2, 1) := by decide +kernel
theorem dX11_cut_30 : decode cX11_cut 30 = .ok (.iconst 0, 1) := by decide +kernel
theorem dX11_cut_31 : decode cX11_cut 31 = .ok (.invokevirtual 156, 3) := by decide +kernel
theorem dX11_cut_34 : decode cX11_cut 34 = .ok (.aload_n 0, 1) := by decide +kernel
theorem dX11_cut_35 : decode cX11_cut 35 = .ok (.invokevirtual 134, 3) := by decide +kernel
theorem dX11_cut_38 : decode cX11_cut 38 = .ok (.ifCond .ne 13, 3) := by decide +kernel
theorem dX11_cut_41 : decode cX11_cut 41 = .ok (.new 92, 3) := by decide +kernel
theorem dX11_cut_44 : decode cX11_cut 44 = .ok (.dup, 1) := by decide +kernel
theorem dX11_cut_45 : decode cX11_cut 45 = .ok (.ldc 138, 2) := by decide +kernel
theorem dX11_cut_47 : decode cX11_cut 47 = .ok (.invokespecial 96, 3) := by decide +kernel
theorem dX11_cut_50 : decode cX11_cut 50 = .ok (.athrow, 1) := by decide +kernel
theorem dX11_cut_51 : decode cX11_cut 51 = .ok (.aload_n 0, 1) := by decide +kernel
theorem dX11_cut_52 : decode cX11_cut 52 = .ok (.getfield 28, 3) := by decide +kernel
theorem dX11_cut_55 : decode cX11_cut 55 = .ok (.aload_n 0, 1) := by decide +kernel
theorem dX11_cut_56 : decode cX11_cut 56 = .ok (.getfield 35, 3) := by decide +kernel
theorem dX11_cut_59 : decode cX11_cut 59 = .ok (.getfield 159, 3) := by decide +kernel
theorem dX11_cut_62 : decode cX11_cut 62 = .ok (.getfield 130, 3) := by decide +kernel
theorem dX11_cut_65 : decode cX11_cut 65 = .ok (.iconst 0, 1) := by decide +kernel
theorem dX11_cut_66 : decode cX11_cut 66 = .ok (.aload_n 0, 1) := by decide +kernel
theorem dX11_cut_67 : decode cX11_cut 67 = .ok (.getfield 35, 3) := by decide +kernel
theorem dX11_cut_70 : decode cX11_cut 70 = .ok (.getfield 159, 3) := by decide +kernel
theorem dX11_cut_73 : decode cX11_cut 73 = .ok (.getfield 89, 3) := by decide +kernel
theorem dX11_cut_76 : decode cX11_cut 76 = .ok (.invokevirtual 108, 3) := by decide +kernel
theorem dX11_cut_79 : decode cX11_cut 79 = .ok (.iload_n 2, 1) := by decide +kernel
theorem dX11_cut_80 : decode cX11_cut 80 = .ok (.iload_n 1, 1) := by decide +kernel
theorem dX11_cut_81 : decode cX11_cut 81 = .ok (.isub, 1) := by decide +kernel
theorem dX11_cut_82 : decode cX11_cut 82 = .ok (.ireturn, 1) := by decide +kernel
theorem dX11_paste_0 : decode cX11_paste 0 = .ok (.aload_n 0, 1) := by decide +kernel
theorem dX11_paste_1 : decode cX11_paste 1 = .ok (.invokevirtual 162, 3) := by decide +kernel
theorem dX11_paste_4 : decode cX11_paste 4 = .ok (.aload_n 0, 1) := by decide +kernel
theorem dX11_paste_5 : decode cX11_paste 5 = .ok (.invokevirtual 134, 3) := by decide +kernel
theorem dX11_paste_8 : decode cX11_paste 8 = .ok (.ifCond .ne 13, 3) := by decide +kernel
theorem dX11_paste_11 : decode cX11_paste 11 = .ok (.new 92, 3) := by decide +kernel
theorem dX11_paste_14 : decode cX11_paste 14 = .ok (.dup, 1) := by decide +kernel
theorem dX11_paste_15 : decode cX11_paste 15 = .ok (.ldc 138, 2) := by decide +kernel
theorem dX11_paste_17 : decode cX11_paste 17 = .ok (.invokespecial 96, 3) := by decide +kernel
theorem dX11_paste_20 : decode cX11_paste 20 = .ok (.athrow, 1) := by decide +kernel
theorem dX11_paste_21 : decode cX11_paste 21 = .ok (.aload_n 0, 1) := by decide +kernel
theorem dX11_paste_22 : decode cX11_paste 22 = .ok (.getfield 56, 3) := by decide +kernel
theorem dX11_paste_25 : decode cX11_paste 25 = .ok (.iconst 3, 1) := by decide +kernel
theorem dX11_paste_26 : decode cX11_paste 26 = .ok (.iconst 0, 1) := by decide +kernel
theorem dX11_paste_27 : decode cX11_paste 27 = .ok (.iconst 0, 1) := by decide +kernel
theorem dX11_paste_28 : decode cX11_paste 28 = .ok (.invokevirtual 150, 3) := by decide +kernel
theorem dX11_paste_31 : decode cX11_paste 31 = .ok (.aload_n 0, 1) := by decide +kernel
theorem dX11_paste_32 : decode cX11_paste 32 = .ok (.getfield 10, 3) := by decide +kernel
theorem dX11_paste_35 : decode cX11_paste 35 = .ok (.getfield 144, 3) := by decide +kernel
theorem dX11_paste_38 : decode cX11_paste 38 = .ok (.ireturn, 1) := by decide +kernel
theorem dX11_indent_0 : decode cX11_indent 0 = .ok (.aload_n 0, 1) := by decide +kernel
theorem dX11_indent_1 : decode cX11_indent 1 = .ok (.iload_n 1, 1) := by decide +kernel
theorem dX11_indent_2 : decode cX11_indent 2 = .ok (.invokevirtual 112, 3) := by decide +kernel
theorem dX11_indent_5 : decode cX11_indent 5 = .ok (.aload_n 0, 1) := by decide +kernel
theorem dX11_indent_6 : decode cX11_indent 6 = .ok (.iload_n 2, 1) := by decide +kernel
theorem dX11_indent_7 : decode cX11_indent 7 = .ok (.invokevirtual 112, 3) := by decide +kernel
theorem dX11_indent_10 : decode cX11_indent 10 = .ok (.iload_n 1, 1) := by decide +kernel
theorem dX11_indent_11 : decode cX11_indent 11 = .ok (.iload_n 2, 1) := by decide +kernel
theorem dX11_indent_12 : decode cX11_indent 12 = .ok (.if_icmp .gt 19, 3) := by decide +kernel
theorem dX11_indent_15 : decode cX11_indent 15 = .ok (.iload_n 3, 1) := by decide +kernel
theorem dX11_indent_16 : decode cX11_indent 16 = .ok (.ifCond .eq 15, 3) := by decide +kernel
theorem dX11_indent_19 : decode cX11_indent 19 = .ok (.iload_n 3, 1) := by decide +kernel
theorem dX11_indent_20 : decode cX11_indent 20 = .ok (.bipush (-8), 2) := by decide +kernel
theorem dX11_indent_22 : decode cX11_indent 22 = .ok (.if_icmp .lt 9, 3) := by decide +kernel
theorem dX11_indent_25 : decode cX11_indent 25 = .ok (.iload_n 3, 1) := by decide +kernel
theorem dX11_indent_26 : decode cX11_indent 26 = .ok (.bipush 8, 2) := by decide +kernel
theorem dX11_indent_28 : decode cX11_indent 28 = .ok (.if_icmp .le 13, 3) := by decide +kernel
theorem dX11_indent_31 : decode cX11_indent 31 = .ok (.new 82, 3) := by decide +kernel
theorem dX11_indent_34 : decode cX11_indent 34 = .ok (.dup, 1) := by decide +kernel
theorem dX11_indent_35 : decode cX11_indent 35 = .ok (.ldc 165, 2) := by decide +kernel
theorem dX11_indent_37 : decode cX11_indent 37 = .ok (.invokespecial 86, 3) := by decide +kernel
theorem dX11_indent_40 : decode cX11_indent 40 = .ok (.athrow, 1) := by decide +kernel
theorem dX11_indent_41 : decode cX11_indent 41 = .ok (.aload_n 0, 1) := by decide +kernel
theorem dX11_indent_42 : decode cX11_indent 42 = .ok (.getfield 35, 3) := by decide +kernel
theorem dX11_indent_45 : decode cX11_indent 45 = .ok (.bipush 32, 2) := by decide +kernel
theorem dX11_indent_47 : decode cX11_indent 47 = .ok (.iload_n 3, 1) := by decide +kernel
theorem dX11_indent_48 : decode cX11_indent 48 = .ok (.iconst 0, 1) := by decide +kernel
theorem dX11_indent_49 : decode cX11_indent 49 = .ok (.invokestatic 167, 3) := by decide +kernel
theorem dX11_indent_52 : decode cX11_indent 52 = .ok (.invokevirtual 173, 3) := by decide +kernel
theorem dX11_indent_55 : decode cX11_indent 55 = .ok (.iload_n 1, 1) := by decide +kernel
theorem dX11_indent_56 : decode cX11_indent 56 = .ok (.istore 4, 2) := by decide +kernel
theorem dX11_indent_58 : decode cX11_indent 58 = .ok (.iload 4, 2) := by decide +kernel
theorem dX11_indent_60 : decode cX11_indent 60 = .ok (.iload_n 2, 1) := by decide +kernel
theorem dX11_indent_61 : decode cX11_indent 61 = .ok (.if_icmp .gt 16, 3) := by decide +kernel
theorem dX11_indent_64 : decode cX11_indent 64 = .ok (.aload_n 0, 1) := by decide +kernel
theorem dX11_indent_65 : decode cX11_indent 65 = .ok (.iload 4, 2) := by decide +kernel
theorem dX11_indent_67 : decode cX11_indent 67 = .ok (.iload_n 3, 1) := by decide +kernel
theorem dX11_indent_68 : decode cX11_indent 68 = .ok (.invokevirtual 176, 3) := by decide +kernel
theorem dX11_indent_71 : decode cX11_indent 71 = .ok (.iinc 4 1, 3) := by decide +kernel
theorem dX11_indent_74 : decode cX11_indent 74 = .ok (.goto (-16), 3) := by decide +kernel
theorem dX11_indent_77 : decode cX11_indent 77 = .ok (.aload_n 0, 1) := by decide +kernel
theorem dX11_indent_78 : decode cX11_indent 78 = .ok (.getfield 35, 3) := by decide +kernel
theorem dX11_indent_81 : decode cX11_indent 81 = .ok (.getfield 179, 3) := by decide +kernel
theorem dX11_indent_84 : decode cX11_indent 84 = .ok (.istore 4, 2) := by decide +kernel
theorem dX11_indent_86 : decode cX11_indent 86 = .ok (.aload_n 0, 1) := by decide +kernel
theorem dX11_indent_87 : decode cX11_indent 87 = .ok (.invokevirtual 134, 3) := by decide +kernel
theorem dX11_indent_90 : decode cX11_indent 90 = .ok (.ifCond .ne 13, 3) := by decide +kernel
theorem dX11_indent_93 : decode cX11_indent 93 = .ok (.new 92, 3) := by decide +kernel
theorem dX11_indent_96 : decode cX11_indent 96 = .ok (.dup, 1) := by decide +kernel
theorem dX11_indent_97 : decode cX11_indent 97 = .ok (.ldc 138, 2) := by decide +kernel
theorem dX11_indent_99 : decode cX11_indent 99 = .ok (.invokespecial 96, 3) := by decide +kernel
theorem dX11_indent_102 : decode cX11_indent 102 = .ok (.athrow, 1) := by decide +kernel
theorem dX11_indent_103 : decode cX11_indent 103 = .ok (.iload 4, 2) := by decide +kernel
theorem dX11_indent_105 : decode cX11_indent 105 = .ok (.ireturn, 1) := by decide +kernel
theorem dX11_wrap_0 : decode cX11_wrap 0 = .ok (.aload_n 0, 1) := by decide +kernel
theorem dX11_wrap_1 : decode cX11_wrap 1 = .ok (.iload_n 1, 1) := by decide +kernel
theorem dX11_wrap_2 : decode cX11_wrap 2 = .ok (.invokevirtual 112, 3) := by decide +kernel
theorem dX11_wrap_5 : decode cX11_wrap 5 = .ok (.iload_n 2, 1) := by decide +kernel
theorem dX11_wrap_6 : decode cX11_wrap 6 = .ok (.iconst 1, 1) := by decide +kernel
theorem dX11_wrap_7 : decode cX11_wrap 7 = .ok (.if_icmp .lt 9, 3) := by decide +kernel
theorem dX11_wrap_10 : decode cX11_wrap 10 = .ok (.iload_n 2, 1) := by decide +kernel
theorem dX11_wrap_11 : decode cX11_wrap 11 = .ok (.bipush 100, 2) := by decide +kernel
theorem dX11_wrap_13 : decode cX11_wrap 13 = .ok (.if_icmp .le 13, 3) := by decide +kernel
theorem dX11_wrap_16 : decode cX11_wrap 16 = .ok (.new 82, 3) := by decide +kernel
theorem dX11_wrap_19 : decode cX11_wrap 19 = .ok (.dup, 1) := by decide +kernel
theorem dX11_wrap_20 : decode cX11_wrap 20 = .ok (.ldc 182, 2) := by decide +kernel
theorem dX11_wrap_22 : decode cX11_wrap 22 = .ok (.invokespecial 86, 3) := by decide +kernel
theorem dX11_wrap_25 : decode cX11_wrap 25 = .ok (.athrow, 1) := by decide +kernel
theorem dX11_wrap_26 : decode cX11_wrap 26 = .ok (.aload_n 0, 1) := by decide +kernel
theorem dX11_wrap_27 : decode cX11_wrap 27 = .ok (.getfield 35, 3) := by decide +kernel
theorem dX11_wrap_30 : decode cX11_wrap 30 = .ok (.bipush 10, 2) := by decide +kernel
theorem dX11_wrap_32 : decode cX11_wrap 32 = .ok (.iconst 1, 1) := by decide +kernel
theorem dX11_wrap_33 : decode cX11_wrap 33 = .ok (.invokevirtual 173, 3) := by decide +kernel
theorem dX11_wrap_36 : decode cX11_wrap 36 = .ok (.aload_n 0, 1) := by decide +kernel
theorem dX11_wrap_37 : decode cX11_wrap 37 = .ok (.getfield 10, 3) := by decide +kernel
theorem dX11_wrap_40 : decode cX11_wrap 40 = .ok (.iload_n 1, 1) := by decide +kernel
theorem dX11_wrap_41 : decode cX11_wrap 41 = .ok (.invokevirtual 184, 3) := by decide +kernel
theorem dX11_wrap_44 : decode cX11_wrap 44 = .ok (.istore_n 3, 1) := by decide +kernel
theorem dX11_wrap_45 : decode cX11_wrap 45 = .ok (.aload_n 0, 1) := by decide +kernel
theorem dX11_wrap_46 : decode cX11_wrap 46 = .ok (.aload_n 0, 1) := by decide +kernel
theorem dX11_wrap_47 : decode cX11_wrap 47 = .ok (.getfield 10, 3) := by decide +kernel
theorem dX11_wrap_50 : decode cX11_wrap 50 = .ok (.getfield 188, 3) := by decide +kernel
theorem dX11_wrap_53 : decode cX11_wrap 53 = .ok (.iload_n 1, 1) := by decide +kernel
theorem dX11_wrap_54 : decode cX11_wrap 54 = .ok (.iaload, 1) := by decide +kernel
theorem dX11_wrap_55 : decode cX11_wrap 55 = .ok (.iload_n 3, 1) := by decide +kernel
theorem dX11_wrap_56 : decode cX11_wrap 56 = .ok (.iload_n 2, 1) := by decide +kernel
theorem dX11_wrap_57 : decode cX11_wrap 57 = .ok (.invokevirtual 191, 3) := by decide +kernel
theorem dX11_wrap_60 : decode cX11_wrap 60 = .ok (.istore 4, 2) := by decide +kernel
theorem dX11_wrap_62 : decode cX11_wrap 62 = .ok (.iconst 0, 1) := by decide +kernel
theorem dX11_wrap_63 : decode cX11_wrap 63 = .ok (.istore 5, 2) := by decide +kernel
theorem dX11_wrap_65 : decode cX11_wrap 65 = .ok (.iload 5, 2) := by decide +kernel
theorem dX11_wrap_67 : decode cX11_wrap 67 = .ok (.sipush 3000, 3) := by decide +kernel
theorem dX11_wrap_70 : decode cX11_wrap 70 = .ok (.if_icmp .ge 41, 3) := by decide +kernel
theorem dX11_wrap_73 : decode cX11_wrap 73 = .ok (.iload 4, 2) := by decide +kernel
theorem dX11_wrap_75 : decode cX11_wrap 75 = .ok (.iconst (-1), 1) := by decide +kernel
theorem dX11_wrap_76 : decode cX11_wrap 76 = .ok (.if_icmp .eq 35, 3) := by decide +kernel
theorem dX11_wrap_79 : decode cX11_wrap 79 = .ok (.aload_n 0, 1) := by decide +kernel
theorem dX11_wrap_80 : decode cX11_wrap 80 = .ok (.getfield 35, 3) := by decide +kernel
theorem dX11_wrap_83 : decode cX11_wrap 83 = .ok (.iload 4, 2) := by decide +kernel
theorem dX11_wrap_85 : decode cX11_wrap 85 = .ok (.iload 4, 2) := by decide +kernel
theorem dX11_wrap_87 : decode cX11_wrap 87 = .ok (.iconst 1, 1) := by decide +kernel
theorem dX11_wrap_88 : decode cX11_wrap 88 = .ok (.iadd, 1) := by decide +kernel
theorem dX11_wrap_89 : decode cX11_wrap 89 = .ok (.iconst 1, 1) := by decide +kernel
theorem dX11_wrap_90 : decode cX11_wrap 90 = .ok (.invokevirtual 156, 3) := by decide +kernel
theorem dX11_wrap_93 : decode cX11_wrap 93 = .ok (.aload_n 0, 1) := by decide +kernel
theorem dX11_wrap_94 : decode cX11_wrap 94 = .ok (.iload 4, 2) := by decide +kernel
theorem dX11_wrap_96 : decode cX11_wrap 96 = .ok (.iconst 1, 1) := by decide +kernel
theorem dX11_wrap_97 : decode cX11_wrap 97 = .ok (.iadd, 1) := by decide +kernel
theorem dX11_wrap_98 : decode cX11_wrap 98 = .ok (.iload_n 3, 1) := by decide +kernel
theorem dX11_wrap_99 : decode cX11_wrap 99 = .ok (.iload_n 2, 1) := by decide +kernel
theorem dX11_wrap_100 : decode cX11_wrap 100 = .ok (.invokevirtual 191, 3) := by decide +kernel
theorem dX11_wrap_103 : decode cX11_wrap 103 = .ok (.istore 4, 2) := by decide +kernel
theorem dX11_wrap_105 : decode cX11_wrap 105 = .ok (.iinc 5 1, 3) := by decide +kernel
theorem dX11_wrap_108 : decode cX11_wrap 108 = .ok (.goto (-43), 3) := by decide +kernel
theorem dX11_wrap_111 : decode cX11_wrap 111 = .ok (.aload_n 0, 1) := by decide +kernel
theorem dX11_wrap_112 : decode cX11_wrap 112 = .ok (.getfield 35, 3) := by decide +kernel
theorem dX11_wrap_115 : decode cX11_wrap 115 = .ok (.getfield 179, 3) := by decide +kernel
theorem dX11_wrap_118 : decode cX11_wrap 118 = .ok (.istore 5, 2) := by decide +kernel
theorem dX11_wrap_120 : decode cX11_wrap 120 = .ok (.aload_n 0, 1) := by decide +kernel
theorem dX11_wrap_121 : decode cX11_wrap 121 = .ok (.invokevirtual 134, 3) := by decide +kernel
theorem dX11_wrap_124 : decode cX11_wrap 124 = .ok (.ifCond .ne 13, 3) := by decide +kernel
theorem dX11_wrap_127 : decode cX11_wrap 127 = .ok (.new 92, 3) := by decide +kernel
theorem dX11_wrap_130 : decode cX11_wrap 130 = .ok (.dup, 1) := by decide +kernel
theorem dX11_wrap_131 : decode cX11_wrap 131 = .ok (.ldc 138, 2) := by decide +kernel
theorem dX11_wrap_133 : decode cX11_wrap 133 = .ok (.invokespecial 96, 3) := by decide +kernel
theorem dX11_wrap_136 : decode cX11_wrap 136 = .ok (.athrow, 1) := by decide +kernel
theorem dX11_wrap_137 : decode cX11_wrap 137 = .ok (.iload 5, 2) := by decide +kernel
theorem dX11_wrap_139 : decode cX11_wrap 139 = .ok (.ireturn, 1) := by decide +kernel
theorem dX11_joinLines_0 : decode cX11_joinLines 0 = .ok (.aload_n 0, 1) := by decide +kernel
theorem dX11_joinLines_1 : decode cX11_joinLines 1 = .ok (.iload_n 1, 1) := by decide +kernel
theorem dX11_joinLines_2 : decode cX11_joinLines 2 = .ok (.invokevirtual 112, 3) := by decide +kernel
theorem dX11_joinLines_5 : decode cX11_joinLines 5 = .ok (.aload_n 0, 1) := by decide +kernel
theorem dX11_joinLines_6 : decode cX11_joinLines 6 = .ok (.iload_n 2, 1) := by decide +kernel
theorem dX11_joinLines_7 : decode cX11_joinLines 7 = .ok (.invokevirtual 112, 3) := by decide +kernel
theorem dX11_joinLines_10 : decode cX11_joinLines 10 = .ok (.iload_n 1, 1) := by decide +kernel
theorem dX11_joinLines_11 : decode cX11_joinLines 11 = .ok (.iload_n 2, 1) := by decide +kernel
theorem dX11_joinLines_12 : decode cX11_joinLines 12 = .ok (.if_icmp .le 13, 3) := by decide +kernel
theorem dX11_joinLines_15 : decode cX11_joinLines 15 = .ok (.new 82, 3) := by decide +kernel
theorem dX11_joinLines_18 : decode cX11_joinLines 18 = .ok (.dup, 1) := by decide +kernel
theorem dX11_joinLines_19 : decode cX11_joinLines 19 = .ok (.ldc 195, 2) := by decide +kernel
theorem dX11_joinLines_21 : decode cX11_joinLines 21 = .ok (.invokespecial 86, 3) := by decide +kernel
theorem dX11_joinLines_24 : decode cX11_joinLines 24 = .ok (.athrow, 1) := by decide +kernel
theorem dX11_joinLines_25 : decode cX11_joinLines 25 = .ok (.aload_n 0, 1) := by decide +kernel
theorem dX11_joinLines_26 : decode cX11_joinLines 26 = .ok (.getfield 35, 3) := by decide +kernel
theorem dX11_joinLines_29 : decode cX11_joinLines 29 = .ok (.bipush 32, 2) := by decide +kernel
theorem dX11_joinLines_31 : decode cX11_joinLines 31 = .ok (.iconst 1, 1) := by decide +kernel
theorem dX11_joinLines_32 : decode cX11_joinLines 32 = .ok (.invokevirtual 173, 3) := by decide +kernel
theorem dX11_joinLines_35 : decode cX11_joinLines 35 = .ok (.iload_n 1, 1) := by decide +kernel
theorem dX11_joinLines_36 : decode cX11_joinLines 36 = .ok (.iconst 1, 1) := by decide +kernel
theorem dX11_joinLines_37 : decode cX11_joinLines 37 = .ok (.iadd, 1) := by decide +kernel
theorem dX11_joinLines_38 : decode cX11_joinLines 38 = .ok (.istore_n 3, 1) := by decide +kernel
theorem dX11_joinLines_39 : decode cX11_joinLines 39 = .ok (.iload_n 3, 1) := by decide +kernel
theorem dX11_joinLines_40 : decode cX11_joinLines 40 = .ok (.iload_n 2, 1) := by decide +kernel
theorem dX11_joinLines_41 : decode cX11_joinLines 41 = .ok (.if_icmp .gt 47, 3) := by decide +kernel
theorem dX11_joinLines_44 : decode cX11_joinLines 44 = .ok (.aload_n 0, 1) := by decide +kernel
theorem dX11_joinLines_45 : decode cX11_joinLines 45 = .ok (.getfield 10, 3) := by decide +kernel
theorem dX11_joinLines_48 : decode cX11_joinLines 48 = .ok (.getfield 188, 3) := by decide +kernel
theorem dX11_joinLines_51 : decode cX11_joinLines 51 = .ok (.iload_n 3, 1) := by decide +kernel
theorem dX11_joinLines_52 : decode cX11_joinLines 52 = .ok (.iaload, 1) := by decide +kernel
theorem dX11_joinLines_53 : decode cX11_joinLines 53 = .ok (.istore 4, 2) := by decide +kernel
theorem dX11_joinLines_55 : decode cX11_joinLines 55 = .ok (.aload_n 0, 1) := by decide +kernel
theorem dX11_joinLines_56 : decode cX11_joinLines 56 = .ok (.getfield 35, 3) := by decide +kernel
theorem dX11_joinLines_59 : decode cX11_joinLines 59 = .ok (.iload 4, 2) := by decide +kernel
theorem dX11_joinLines_61 : decode cX11_joinLines 61 = .ok (.iconst 1, 1) := by decide +kernel
theorem dX11_joinLines_62 : decode cX11_joinLines 62 = .ok (.isub, 1) := by decide +kernel
theorem dX11_joinLines_63 : decode cX11_joinLines 63 = .ok (.iload 4, 2) := by decide +kernel
theorem dX11_joinLines_65 : decode cX11_joinLines 65 = .ok (.aload_n 0, 1) := by decide +kernel
theorem dX11_joinLines_66 : decode cX11_joinLines 66 = .ok (.getfield 10, 3) := by decide +kernel
theorem dX11_joinLines_69 : decode cX11_joinLines 69 = .ok (.iload 4, 2) := by decide +kernel
theorem dX11_joinLines_71 : decode cX11_joinLines 71 = .ok (.sipush 3000, 3) := by decide +kernel
theorem dX11_joinLines_74 : decode cX11_joinLines 74 = .ok (.invokevirtual 197, 3) := by decide +kernel
theorem dX11_joinLines_77 : decode cX11_joinLines 77 = .ok (.iadd, 1) := by decide +kernel
theorem dX11_joinLines_78 : decode cX11_joinLines 78 = .ok (.iconst 1, 1) := by decide +kernel
theorem dX11_joinLines_79 : decode cX11_joinLines 79 = .ok (.invokevirtual 156, 3) := by decide +kernel
theorem dX11_joinLines_82 : decode cX11_joinLines 82 = .ok (.iinc 3 1, 3) := by decide +kernel
theorem dX11_joinLines_85 : decode cX11_joinLines 85 = .ok (.goto (-46), 3) := by decide +kernel
theorem dX11_joinLines_88 : decode cX11_joinLines 88 = .ok (.aload_n 0, 1) := by decide +kernel
theorem dX11_joinLines_89 : decode cX11_joinLines 89 = .ok (.invokevirtual 134, 3) := by decide +kernel
theorem dX11_joinLines_92 : decode cX11_joinLines 92 = .ok (.ifCond .ne 13, 3) := by decide +kernel
theorem dX11_joinLines_95 : decode cX11_joinLines 95 = .ok (.new 92, 3) := by decide +kernel
theorem dX11_joinLines_98 : decode cX11_joinLines 98 = .ok (.dup, 1) := by decide +kernel
theorem dX11_joinLines_99 : decode cX11_joinLines 99 = .ok (.ldc 138, 2) := by decide +kernel
theorem dX11_joinLines_101 : decode cX11_joinLines 101 = .ok (.invokespecial 96, 3) := by decide +kernel
theorem dX11_joinLines_104 : decode cX11_joinLines 104 = .ok (.athrow, 1) := by decide +kernel
theorem dX11_joinLines_105 : decode cX11_joinLines 105 = .ok (.aload_n 0, 1) := by decide +kernel
theorem dX11_joinLines_106 : decode cX11_joinLines 106 = .ok (.getfield 10, 3) := by decide +kernel
theorem dX11_joinLines_109 : decode cX11_joinLines 109 = .ok (.getfield 116, 3) := by decide +kernel
theorem dX11_joinLines_112 : decode cX11_joinLines 112 = .ok (.ireturn, 1) := by decide +kernel
theorem dX11_replaceNext_0 : decode cX11_replaceNext 0 = .ok (.aload_n 0, 1) := by decide +kernel
theorem dX11_replaceNext_1 : decode cX11_replaceNext 1 = .ok (.getfield 49, 3) := by decide +kernel
theorem dX11_replaceNext_4 : decode cX11_replaceNext 4 = .ok (.invokevirtual 200, 3) := by decide +kernel
theorem dX11_replaceNext_7 : decode cX11_replaceNext 7 = .ok (.ifCond .ne 13, 3) := by decide +kernel
theorem dX11_replaceNext_10 : decode cX11_replaceNext 10 = .ok (.new 92, 3) := by decide +kernel
theorem dX11_replaceNext_13 : decode cX11_replaceNext 13 = .ok (.dup, 1) := by decide +kernel
theorem dX11_replaceNext_14 : decode cX11_replaceNext 14 = .ok (.ldc 203, 2) := by decide +kernel
theorem dX11_replaceNext_16 : decode cX11_replaceNext 16 = .ok (.invokespecial 96, 3) := by decide +kernel
theorem dX11_replaceNext_19 : decode cX11_replaceNext 19 = .ok (.athrow, 1) := by decide +kernel
theorem dX11_replaceNext_20 : decode cX11_replaceNext 20 = .ok (.aload_n 0, 1) := by decide +kernel
theorem dX11_replaceNext_21 : decode cX11_replaceNext 21 = .ok (.getfield 49, 3) := by decide +kernel
theorem dX11_replaceNext_24 : decode cX11_replaceNext 24 = .ok (.aload_n 0, 1) := by decide +kernel
theorem dX11_replaceNext_25 : decode cX11_replaceNext 25 = .ok (.getfield 10, 3) := by decide +kernel
theorem dX11_replaceNext_28 : decode cX11_replaceNext 28 = .ok (.aload_n 0, 1) := by decide +kernel
theorem dX11_replaceNext_29 : decode cX11_replaceNext 29 = .ok (.getfield 10, 3) := by decide +kernel
theorem dX11_replaceNext_32 : decode cX11_replaceNext 32 = .ok (.getfield 205, 3) := by decide +kernel
theorem dX11_replaceNext_35 : decode cX11_replaceNext 35 = .ok (.iconst 0, 1) := by decide +kernel
theorem dX11_replaceNext_36 : decode cX11_replaceNext 36 = .ok (.iaload, 1) := by decide +kernel
theorem dX11_replaceNext_37 : decode cX11_replaceNext 37 = .ok (.invokevirtual 208, 3) := by decide +kernel
theorem dX11_replaceNext_40 : decode cX11_replaceNext 40 = .ok (.istore_n 1, 1) := by decide +kernel
theorem dX11_replaceNext_41 : decode cX11_replaceNext 41 = .ok (.iload_n 1, 1) := by decide +kernel
theorem dX11_replaceNext_42 : decode cX11_replaceNext 42 = .ok (.iconst (-1), 1) := by decide +kernel
theorem dX11_replaceNext_43 : decode cX11_replaceNext 43 = .ok (.if_icmp .ne 16, 3) := by decide +kernel
theorem dX11_replaceNext_46 : decode cX11_replaceNext 46 = .ok (.aload_n 0, 1) := by decide +kernel
theorem dX11_replaceNext_47 : decode cX11_replaceNext 47 = .ok (.getfield 49, 3) := by decide +kernel
theorem dX11_replaceNext_50 : decode cX11_replaceNext 50 = .ok (.aload_n 0, 1) := by decide +kernel
theorem dX11_replaceNext_51 : decode cX11_replaceNext 51 = .ok (.getfield 10, 3) := by decide +kernel
theorem dX11_replaceNext_54 : decode cX11_replaceNext 54 = .ok (.iconst 0, 1) := by decide +kernel
theorem dX11_replaceNext_55 : decode cX11_replaceNext 55 = .ok (.invokevirtual 208, 3) := by decide +kernel
theorem dX11_replaceNext_58 : decode cX11_replaceNext 58 = .ok (.istore_n 1, 1) := by decide +kernel
theorem dX11_replaceNext_59 : decode cX11_replaceNext 59 = .ok (.iload_n 1, 1) := by decide +kernel
theorem dX11_replaceNext_60 : decode cX11_replaceNext 60 = .ok (.iconst (-1), 1) := by decide +kernel
theorem dX11_replaceNext_61 : decode cX11_replaceNext 61 = .ok (.if_icmp .ne 5, 3) := by decide +kernel
theorem dX11_replaceNext_64 : decode cX11_replaceNext 64 = .ok (.iconst (-1), 1) := by decide +kernel
theorem dX11_replaceNext_65 : decode cX11_replaceNext 65 = .ok (.ireturn, 1) := by decide +kernel
theorem dX11_replaceNext_66 : decode cX11_replaceNext 66 = .ok (.aload_n 0, 1) := by decide +kernel
theorem dX11_replaceNext_67 : decode cX11_replaceNext 67 = .ok (.getfield 35, 3) := by decide +kernel
theorem dX11_replaceNext_70 : decode cX11_replaceNext 70 = .ok (.aload_n 0, 1) := by decide +kernel
theorem dX11_replaceNext_71 : decode cX11_replaceNext 71 = .ok (.getfield 21, 3) := by decide +kernel
theorem dX11_replaceNext_74 : decode cX11_replaceNext 74 = .ok (.getfield 130, 3) := by decide +kernel
theorem dX11_replaceNext_77 : decode cX11_replaceNext 77 = .ok (.iconst 0, 1) := by decide +kernel
theorem dX11_replaceNext_78 : decode cX11_replaceNext 78 = .ok (.aload_n 0, 1) := by decide +kernel
theorem dX11_replaceNext_79 : decode cX11_replaceNext 79 = .ok (.getfield 21, 3) := by decide +kernel
theorem dX11_replaceNext_82 : decode cX11_replaceNext 82 = .ok (.getfield 89, 3) := by decide +kernel
theorem dX11_replaceNext_85 : decode cX11_replaceNext 85 = .ok (.invokevirtual 153, 3) := by decide +kernel
theorem dX11_replaceNext_88 : decode cX11_replaceNext 88 = .ok (.aload_n 0, 1) := by decide +kernel
theorem dX11_replaceNext_89 : decode cX11_replaceNext 89 = .ok (.getfield 35, 3) := by decide +kernel
theorem dX11_replaceNext_92 : decode cX11_replaceNext 92 = .ok (.iload_n 1, 1) := by decide +kernel
theorem dX11_replaceNext_93 : decode cX11_replaceNext 93 = .ok (.iload_n 1, 1) := by decide +kernel
theorem dX11_replaceNext_94 : decode cX11_replaceNext 94 = .ok (.aload_n 0, 1) := by decide +kernel
theorem dX11_replaceNext_95 : decode cX11_replaceNext 95 = .ok (.getfield 49, 3) := by decide +kernel
theorem dX11_replaceNext_98 : decode cX11_replaceNext 98 = .ok (.getfield 212, 3) := by decide +kernel
theorem dX11_replaceNext_101 : decode cX11_replaceNext 101 = .ok (.getfield 89, 3) := by decide +kernel
theorem dX11_replaceNext_104 : decode cX11_replaceNext 104 = .ok (.iadd, 1) := by decide +kernel
theorem dX11_replaceNext_105 : decode cX11_replaceNext 105 = .ok (.aload_n 0, 1) := by decide +kernel
theorem dX11_replaceNext_106 : decode cX11_replaceNext 106 = .ok (.getfield 21, 3) := by decide +kernel
theorem dX11_replaceNext_109 : decode cX11_replaceNext 109 = .ok (.getfield 89, 3) := by decide +kernel
theorem dX11_replaceNext_112 : decode cX11_replaceNext 112 = .ok (.invokevirtual 156, 3) := by decide +kernel
theorem dX11_replaceNext_115 : decode cX11_replaceNext 115 = .ok (.aload_n 0, 1) := by decide +kernel
theorem dX11_replaceNext_116 : decode cX11_replaceNext 116 = .ok (.invokevirtual 134, 3) := by decide +kernel
theorem dX11_replaceNext_119 : decode cX11_replaceNext 119 = .ok (.ifCond .ne 13, 3) := by decide +kernel
theorem dX11_replaceNext_122 : decode cX11_replaceNext 122 = .ok (.new 92, 3) := by decide +kernel
theorem dX11_replaceNext_125 : decode cX11_replaceNext 125 = .ok (.dup, 1) := by decide +kernel
theorem dX11_replaceNext_126 : decode cX11_replaceNext 126 = .ok (.ldc 138, 2) := by decide +kernel
theorem dX11_replaceNext_128 : decode cX11_replaceNext 128 = .ok (.invokespecial 96, 3) := by decide +kernel
theorem dX11_replaceNext_131 : decode cX11_replaceNext 131 = .ok (.athrow, 1) := by decide +kernel
theorem dX11_replaceNext_132 : decode cX11_replaceNext 132 = .ok (.aload_n 0, 1) := by decide +kernel
theorem dX11_replaceNext_133 : decode cX11_replaceNext 133 = .ok (.getfield 10, 3) := by decide +kernel
theorem dX11_replaceNext_136 : decode cX11_replaceNext 136 = .ok (.iload_n 1, 1) := by decide +kernel
theorem dX11_replaceNext_137 : decode cX11_replaceNext 137 = .ok (.aload_n 0, 1) := by decide +kernel
theorem dX11_replaceNext_138 : decode cX11_replaceNext 138 = .ok (.getfield 21, 3) := by decide +kernel
theorem dX11_replaceNext_141 : decode cX11_replaceNext 141 = .ok (.getfield 89, 3) := by decide +kernel
theorem dX11_replaceNext_144 : decode cX11_replaceNext 144 = .ok (.iadd, 1) := by decide +kernel
theorem dX11_replaceNext_145 : decode cX11_replaceNext 145 = .ok (.invokevirtual 215, 3) := by decide +kernel
theorem dX11_replaceNext_148 : decode cX11_replaceNext 148 = .ok (.iload_n 1, 1) := by decide +kernel
theorem dX11_replaceNext_149 : decode cX11_replaceNext 149 = .ok (.ireturn, 1) := by decide +kernel
theorem dX11_replaceAll_0 : decode cX11_replaceAll 0 = .ok (.aload_n 0, 1) := by decide +kernel
theorem dX11_replaceAll_1 : decode cX11_replaceAll 1 = .ok (.getfield 49, 3) := by decide +kernel
theorem dX11_replaceAll_4 : decode cX11_replaceAll 4 = .ok (.invokevirtual 200, 3) := by decide +kernel
theorem dX11_replaceAll_7 : decode cX11_replaceAll 7 = .ok (.ifCond .ne 13, 3) := by decide +kernel
theorem dX11_replaceAll_10 : decode cX11_replaceAll 10 = .ok (.new 92, 3) := by decide +kernel
theorem dX11_replaceAll_13 : decode cX11_replaceAll 13 = .ok (.dup, 1) := by decide +kernel
theorem dX11_replaceAll_14 : decode cX11_replaceAll 14 = .ok (.ldc 203, 2) := by decide +kernel
theorem dX11_replaceAll_16 : decode cX11_replaceAll 16 = .ok (.invokespecial 96, 3) := by decide +kernel
theorem dX11_replaceAll_19 : decode cX11_replaceAll 19 = .ok (.athrow, 1) := by decide +kernel
theorem dX11_replaceAll_20 : decode cX11_replaceAll 20 = .ok (.aload_n 0, 1) := by decide +kernel
theorem dX11_replaceAll_21 : decode cX11_replaceAll 21 = .ok (.getfield 35, 3) := by decide +kernel
theorem dX11_replaceAll_24 : decode cX11_replaceAll 24 = .ok (.aload_n 0, 1) := by decide +kernel
theorem dX11_replaceAll_25 : decode cX11_replaceAll 25 = .ok (.getfield 21, 3) := by decide +kernel
theorem dX11_replaceAll_28 : decode cX11_replaceAll 28 = .ok (.getfield 130, 3) := by decide +kernel
theorem dX11_replaceAll_31 : decode cX11_replaceAll 31 = .ok (.iconst 0, 1) := by decide +kernel
theorem dX11_replaceAll_32 : decode cX11_replaceAll 32 = .ok (.aload_n 0, 1) := by decide +kernel
theorem dX11_replaceAll_33 : decode cX11_replaceAll 33 = .ok (.getfield 21, 3) := by decide +kernel
theorem dX11_replaceAll_36 : decode cX11_replaceAll 36 = .ok (.getfield 89, 3) := by decide +kernel
theorem dX11_replaceAll_39 : decode cX11_replaceAll 39 = .ok (.invokevirtual 153, 3) := by decide +kernel
theorem dX11_replaceAll_42 : decode cX11_replaceAll 42 = .ok (.aload_n 0, 1) := by decide +kernel
theorem dX11_replaceAll_43 : decode cX11_replaceAll 43 = .ok (.getfield 49, 3) := by decide +kernel
theorem dX11_replaceAll_46 : decode cX11_replaceAll 46 = .ok (.aload_n 0, 1) := by decide +kernel
theorem dX11_replaceAll_47 : decode cX11_replaceAll 47 = .ok (.getfield 10, 3) := by decide +kernel
theorem dX11_replaceAll_50 : decode cX11_replaceAll 50 = .ok (.iconst 0, 1) := by decide +kernel
theorem dX11_replaceAll_51 : decode cX11_replaceAll 51 = .ok (.invokevirtual 208, 3) := by decide +kernel
theorem dX11_replaceAll_54 : decode cX11_replaceAll 54 = .ok (.istore_n 1, 1) := by decide +kernel
theorem dX11_replaceAll_55 : decode cX11_replaceAll 55 = .ok (.iconst 0, 1) := by decide +kernel
theorem dX11_replaceAll_56 : decode cX11_replaceAll 56 = .ok (.istore_n 2, 1) := by decide +kernel
theorem dX11_replaceAll_57 : decode cX11_replaceAll 57 = .ok (.iload_n 2, 1) := by decide +kernel
theorem dX11_replaceAll_58 : decode cX11_replaceAll 58 = .ok (.sipush 3000, 3) := by decide +kernel
theorem dX11_replaceAll_61 : decode cX11_replaceAll 61 = .ok (.if_icmp .ge 56, 3) := by decide +kernel
theorem dX11_replaceAll_64 : decode cX11_replaceAll 64 = .ok (.iload_n 1, 1) := by decide +kernel
theorem dX11_replaceAll_65 : decode cX11_replaceAll 65 = .ok (.iconst (-1), 1) := by decide +kernel
theorem dX11_replaceAll_66 : decode cX11_replaceAll 66 = .ok (.if_icmp .eq 51, 3) := by decide +kernel
theorem dX11_replaceAll_69 : decode cX11_replaceAll 69 = .ok (.iload_n 1, 1) := by decide +kernel
theorem dX11_replaceAll_70 : decode cX11_replaceAll 70 = .ok (.aload_n 0, 1) := by decide +kernel
theorem dX11_replaceAll_71 : decode cX11_replaceAll 71 = .ok (.getfield 49, 3) := by decide +kernel
theorem dX11_replaceAll_74 : decode cX11_replaceAll 74 = .ok (.getfield 212, 3) := by decide +kernel
theorem dX11_replaceAll_77 : decode cX11_replaceAll 77 = .ok (.getfield 89, 3) := by decide +kernel
theorem dX11_replaceAll_80 : decode cX11_replaceAll 80 = .ok (.iadd, 1) := by decide +kernel
theorem dX11_replaceAll_81 : decode cX11_replaceAll 81 = .ok (.istore_n 3, 1) := by decide +kernel
theorem dX11_replaceAll_82 : decode cX11_replaceAll 82 = .ok (.aload_n 0, 1) := by decide +kernel
theorem dX11_replaceAll_83 : decode cX11_replaceAll 83 = .ok (.getfield 35, 3) := by decide +kernel
theorem dX11_replaceAll_86 : decode cX11_replaceAll 86 = .ok (.iload_n 1, 1) := by decide +kernel
theorem dX11_replaceAll_87 : decode cX11_replaceAll 87 = .ok (.iload_n 3, 1) := by decide +kernel
theorem dX11_replaceAll_88 : decode cX11_replaceAll 88 = .ok (.aload_n 0, 1) := by decide +kernel
theorem dX11_replaceAll_89 : decode cX11_replaceAll 89 = .ok (.getfield 21, 3) := by decide +kernel
theorem dX11_replaceAll_92 : decode cX11_replaceAll 92 = .ok (.getfield 89, 3) := by decide +kernel
theorem dX11_replaceAll_95 : decode cX11_replaceAll 95 = .ok (.invokevirtual 156, 3) := by decide +kernel
theorem dX11_replaceAll_98 : decode cX11_replaceAll 98 = .ok (.aload_n 0, 1) := by decide +kernel
theorem dX11_replaceAll_99 : decode cX11_replaceAll 99 = .ok (.getfield 49, 3) := by decide +kernel
theorem dX11_replaceAll_102 : decode cX11_replaceAll 102 = .ok (.aload_n 0, 1) := by decide +kernel
theorem dX11_replaceAll_103 : decode cX11_replaceAll 103 = .ok (.getfield 10, 3) := by decide +kernel
theorem dX11_replaceAll_106 : decode cX11_replaceAll 106 = .ok (.iload_n 3, 1) := by decide +kernel
theorem dX11_replaceAll_107 : decode cX11_replaceAll 107 = .ok (.invokevirtual 208, 3) := by decide +kernel
theorem dX11_replaceAll_110 : decode cX11_replaceAll 110 = .ok (.istore_n 1, 1) := by decide +kernel
theorem dX11_replaceAll_111 : decode cX11_replaceAll 111 = .ok (.iinc 2 1, 3) := by decide +kernel
theorem dX11_replaceAll_114 : decode cX11_replaceAll 114 = .ok (.goto (-57), 3) := by decide +kernel
theorem dX11_replaceAll_117 : decode cX11_replaceAll 117 = .ok (.aload_n 0, 1) := by decide +kernel
theorem dX11_replaceAll_118 : decode cX11_replaceAll 118 = .ok (.getfield 35, 3) := by decide +kernel
theorem dX11_replaceAll_121 : decode cX11_replaceAll 121 = .ok (.getfield 179, 3) := by decide +kernel
theorem dX11_replaceAll_124 : decode cX11_replaceAll 124 = .ok (.istore_n 2, 1) := by decide +kernel
theorem dX11_replaceAll_125 : decode cX11_replaceAll 125 = .ok (.aload_n 0, 1) := by decide +kernel
theorem dX11_replaceAll_126 : decode cX11_replaceAll 126 = .ok (.invokevirtual 134, 3) := by decide +kernel
theorem dX11_replaceAll_129 : decode cX11_replaceAll 129 = .ok (.ifCond .ne 13, 3) := by decide +kernel
theorem dX11_replaceAll_132 : decode cX11_replaceAll 132 = .ok (.new 92, 3) := by decide +kernel
theorem dX11_replaceAll_135 : decode cX11_replaceAll 135 = .ok (.dup, 1) := by decide +kernel
theorem dX11_replaceAll_136 : decode cX11_replaceAll 136 = .ok (.ldc 138, 2) := by decide +kernel
theorem dX11_replaceAll_138 : decode cX11_replaceAll 138 = .ok (.invokespecial 96, 3) := by decide +kernel
theorem dX11_replaceAll_141 : decode cX11_replaceAll 141 = .ok (.athrow, 1) := by decide +kernel
theorem dX11_replaceAll_142 : decode cX11_replaceAll 142 = .ok (.iload_n 2, 1) := by decide +kernel
theorem dX11_replaceAll_143 : decode cX11_replaceAll 143 = .ok (.ireturn, 1) := by decide +kernel
theorem dX11_undo_0 : decode cX11_undo 0 = .ok (.iload_n 1, 1) := by decide +kernel
theorem dX11_undo_1 : decode cX11_undo 1 = .ok (.iconst 1, 1) := by decide +kernel
theorem dX11_undo_2 : decode cX11_undo 2 = .ok (.if_icmp .lt 10, 3) := by decide +kernel
theorem dX11_undo_5 : decode cX11_undo 5 = .ok (.iload_n 1, 1) := by decide +kernel
theorem dX11_undo_6 : decode cX11_undo 6 = .ok (.sipush 150, 3) := by decide +kernel
theorem dX11_undo_9 : decode cX11_undo 9 = .ok (.if_icmp .le 13, 3) := by decide +kernel
theorem dX11_undo_12 : decode cX11_undo 12 = .ok (.new 82, 3) := by decide +kernel
theorem dX11_undo_15 : decode cX11_undo 15 = .ok (.dup, 1) := by decide +kernel
theorem dX11_undo_16 : decode cX11_undo 16 = .ok (.ldc 145, 2) := by decide +kernel
theorem dX11_undo_18 : decode cX11_undo 18 = .ok (.invokespecial 86, 3) := by decide +kernel
theorem dX11_undo_21 : decode cX11_undo 21 = .ok (.athrow, 1) := by decide +kernel
theorem dX11_undo_22 : decode cX11_undo 22 = .ok (.aload_n 0, 1) := by decide +kernel
theorem dX11_undo_23 : decode cX11_undo 23 = .ok (.getfield 42, 3) := by decide +kernel
theorem dX11_undo_26 : decode cX11_undo 26 = .ok (.invokevirtual 218, 3) := by decide +kernel
theorem dX11_undo_29 : decode cX11_undo 29 = .ok (.aload_n 0, 1) := by decide +kernel
theorem dX11_undo_30 : decode cX11_undo 30 = .ok (.getfield 42, 3) := by decide +kernel
theorem dX11_undo_33 : decode cX11_undo 33 = .ok (.aload_n 0, 1) := by decide +kernel
theorem dX11_undo_34 : decode cX11_undo 34 = .ok (.getfield 10, 3) := by decide +kernel
theorem dX11_undo_37 : decode cX11_undo 37 = .ok (.iload_n 1, 1) := by decide +kernel
theorem dX11_undo_38 : decode cX11_undo 38 = .ok (.invokevirtual 221, 3) := by decide +kernel
theorem dX11_undo_41 : decode cX11_undo 41 = .ok (.ireturn, 1) := by decide +kernel
theorem dX11_redo_0 : decode cX11_redo 0 = .ok (.iload_n 1, 1) := by decide +kernel
theorem dX11_redo_1 : decode cX11_redo 1 = .ok (.iconst 1, 1) := by decide +kernel
theorem dX11_redo_2 : decode cX11_redo 2 = .ok (.if_icmp .lt 10, 3) := by decide +kernel
theorem dX11_redo_5 : decode cX11_redo 5 = .ok (.iload_n 1, 1) := by decide +kernel
theorem dX11_redo_6 : decode cX11_redo 6 = .ok (.sipush 150, 3) := by decide +kernel
theorem dX11_redo_9 : decode cX11_redo 9 = .ok (.if_icmp .le 13, 3) := by decide +kernel
theorem dX11_redo_12 : decode cX11_redo 12 = .ok (.new 82, 3) := by decide +kernel
theorem dX11_redo_15 : decode cX11_redo 15 = .ok (.dup, 1) := by decide +kernel
theorem dX11_redo_16 : decode cX11_redo 16 = .ok (.ldc 145, 2) := by decide +kernel
theorem dX11_redo_18 : decode cX11_redo 18 = .ok (.invokespecial 86, 3) := by decide +kernel
theorem dX11_redo_21 : decode cX11_redo 21 = .ok (.athrow, 1) := by decide +kernel
theorem dX11_redo_22 : decode cX11_redo 22 = .ok (.aload_n 0, 1) := by decide +kernel
theorem dX11_redo_23 : decode cX11_redo 23 = .ok (.getfield 42, 3) := by decide +kernel
theorem dX11_redo_26 : decode cX11_redo 26 = .ok (.invokevirtual 218, 3) := by decide +kernel
theorem dX11_redo_29 : decode cX11_redo 29 = .ok (.aload_n 0, 1) := by decide +kernel
theorem dX11_redo_30 : decode cX11_redo 30 = .ok (.getfield 42, 3) := by decide +kernel
theorem dX11_redo_33 : decode cX11_redo 33 = .ok (.aload_n 0, 1) := by decide +kernel
theorem dX11_redo_34 : decode cX11_redo 34 = .ok (.getfield 10, 3) := by decide +kernel
theorem dX11_redo_37 : decode cX11_redo 37 = .ok (.iload_n 1, 1) := by decide +kernel
theorem dX11_redo_38 : decode cX11_redo 38 = .ok (.invokevirtual 224, 3) := by decide +kernel
theorem dX11_redo_41 : decode cX11_redo 41 = .ok (.ireturn, 1) := by decide +kernel
theorem dX11_branch_0 : decode cX11_branch 0 = .ok (.aload_n 0, 1) := by decide +kernel
theorem dX11_branch_1 : decode cX11_branch 1 = .ok (.getfield 42, 3) := by decide +kernel
theorem dX11_branch_4 : decode cX11_branch 4 = .ok (.iload_n 1, 1) := by decide +kernel
theorem dX11_branch_5 : decode cX11_branch 5 = .ok (.invokevirtual 227, 3) := by decide +kernel
theorem dX11_branch_8 : decode cX11_branch 8 = .ok (.astore_n 2, 1) := by decide +kernel
theorem dX11_branch_9 : decode cX11_branch 9 = .ok (.aload_n 2, 1) := by decide +kernel
theorem dX11_branch_10 : decode cX11_branch 10 = .ok (.ifnonnull 13, 3) := by decide +kernel
theorem dX11_branch_13 : decode cX11_branch 13 = .ok (.new 231, 3) := by decide +kernel
theorem dX11_branch_16 : decode cX11_branch 16 = .ok (.dup, 1) := by decide +kernel
theorem dX11_branch_17 : decode cX11_branch 17 = .ok (.ldc 233, 2) := by decide +kernel
theorem dX11_branch_19 : decode cX11_branch 19 = .ok (.invokespecial 235, 3) := by decide +kernel
theorem dX11_branch_22 : decode cX11_branch 22 = .ok (.athrow, 1) := by decide +kernel
theorem dX11_branch_23 : decode cX11_branch 23 = .ok (.aload_n 0, 1) := by decide +kernel
theorem dX11_branch_24 : decode cX11_branch 24 = .ok (.getfield 42, 3) := by decide +kernel
theorem dX11_branch_27 : decode cX11_branch 27 = .ok (.invokevirtual 218, 3) := by decide +kernel
theorem dX11_branch_30 : decode cX11_branch 30 = .ok (.aload_n 0, 1) := by decide +kernel
theorem dX11_branch_31 : decode cX11_branch 31 = .ok (.getfield 42, 3) := by decide +kernel
theorem dX11_branch_34 : decode cX11_branch 34 = .ok (.getfield 236, 3) := by decide +kernel
theorem dX11_branch_37 : decode cX11_branch 37 = .ok (.aload_n 2, 1) := by decide +kernel
theorem dX11_branch_38 : decode cX11_branch 38 = .ok (.putfield 240, 3) := by decide +kernel
theorem dX11_branch_41 : decode cX11_branch 41 = .ok (.aload_n 0, 1) := by decide +kernel
theorem dX11_branch_42 : decode cX11_branch 42 = .ok (.getfield 42, 3) := by decide +kernel
theorem dX11_branch_45 : decode cX11_branch 45 = .ok (.invokevirtual 245, 3) := by decide +kernel
theorem dX11_branch_48 : decode cX11_branch 48 = .ok (.ireturn, 1) := by decide +kernel
theorem dX11_group_0 : decode cX11_group 0 = .ok (.aload_n 0, 1) := by decide +kernel
theorem dX11_group_1 : decode cX11_group 1 = .ok (.getfield 42, 3) := by decide +kernel
theorem dX11_group_4 : decode cX11_group 4 = .ok (.getfield 249, 3) := by decide +kernel
theorem dX11_group_7 : decode cX11_group 7 = .ok (.istore_n 2, 1) := by decide +kernel
theorem dX11_group_8 : decode cX11_group 8 = .ok (.aload_n 0, 1) := by decide +kernel
theorem dX11_group_9 : decode cX11_group 9 = .ok (.getfield 42, 3) := by decide +kernel
theorem dX11_group_12 : decode cX11_group 12 = .ok (.invokevirtual 218, 3) := by decide +kernel
theorem dX11_group_15 : decode cX11_group 15 = .ok (.aload_n 0, 1) := by decide +kernel
theorem dX11_group_16 : decode cX11_group 16 = .ok (.getfield 42, 3) := by decide +kernel
theorem dX11_group_19 : decode cX11_group 19 = .ok (.iload_n 1, 1) := by decide +kernel
theorem dX11_group_20 : decode cX11_group 20 = .ok (.putfield 249, 3) := by decide +kernel
theorem dX11_group_23 : decode cX11_group 23 = .ok (.iload_n 2, 1) := by decide +kernel
theorem dX11_group_24 : decode cX11_group 24 = .ok (.ireturn, 1) := by decide +kernel
theorem dX11_acts_0 : decode cX11_acts 0 = .ok (.iload_n 1, 1) := by decide +kernel
theorem dX11_acts_1 : decode cX11_acts 1 = .ok (.tableswitch 63 0 3 #[31, 39, 47, 55], 31) := by decide +kernel
theorem dX11_acts_32 : decode cX11_acts 32 = .ok (.aload_n 0, 1) := by decide +kernel
theorem dX11_acts_33 : decode cX11_acts 33 = .ok (.getfield 42, 3) := by decide +kernel
theorem dX11_acts_36 : decode cX11_acts 36 = .ok (.getfield 253, 3) := by decide +kernel
theorem dX11_acts_39 : decode cX11_acts 39 = .ok (.ireturn, 1) := by decide +kernel
theorem dX11_acts_40 : decode cX11_acts 40 = .ok (.aload_n 0, 1) := by decide +kernel
theorem dX11_acts_41 : decode cX11_acts 41 = .ok (.getfield 42, 3) := by decide +kernel
theorem dX11_acts_44 : decode cX11_acts 44 = .ok (.invokevirtual 256, 3) := by decide +kernel
theorem dX11_acts_47 : decode cX11_acts 47 = .ok (.ireturn, 1) := by decide +kernel
theorem dX11_acts_48 : decode cX11_acts 48 = .ok (.aload_n 0, 1) := by decide +kernel
theorem dX11_acts_49 : decode cX11_acts 49 = .ok (.getfield 42, 3) := by decide +kernel
theorem dX11_acts_52 : decode cX11_acts 52 = .ok (.invokevirtual 259, 3) := by decide +kernel
theorem dX11_acts_55 : decode cX11_acts 55 = .ok (.ireturn, 1) := by decide +kernel
theorem dX11_acts_56 : decode cX11_acts 56 = .ok (.aload_n 0, 1) := by decide +kernel
theorem dX11_acts_57 : decode cX11_acts 57 = .ok (.getfield 42, 3) := by decide +kernel
theorem dX11_acts_60 : decode cX11_acts 60 = .ok (.invokevirtual 245, 3) := by decide +kernel
theorem dX11_acts_63 : decode cX11_acts 63 = .ok (.ireturn, 1) := by decide +kernel
theorem dX11_acts_64 : decode cX11_acts 64 = .ok (.new 82, 3) := by decide +kernel
theorem dX11_acts_67 : decode cX11_acts 67 = .ok (.dup, 1) := by decide +kernel
theorem dX11_acts_68 : decode cX11_acts 68 = .ok (.ldc_w 262, 3) := by decide +kernel
theorem dX11_acts_71 : decode cX11_acts 71 = .ok (.invokespecial 86, 3) := by decide +kernel
theorem dX11_acts_74 : decode cX11_acts 74 = .ok (.athrow, 1) := by decide +kernel
theorem dX11_setCursor_0 : decode cX11_setCursor 0 = .ok (.aload_n 0, 1) := by decide +kernel
theorem dX11_setCursor_1 : decode cX11_setCursor 1 = .ok (.iload_n 1, 1) := by decide +kernel
theorem dX11_setCursor_2 : decode cX11_setCursor 2 = .ok (.invokevirtual 264, 3) := by decide +kernel
theorem dX11_setCursor_5 : decode cX11_setCursor 5 = .ok (.aload_n 0, 1) := by decide +kernel
theorem dX11_setCursor_6 : decode cX11_setCursor 6 = .ok (.getfield 10, 3) := by decide +kernel
theorem dX11_setCursor_9 : decode cX11_setCursor 9 = .ok (.getfield 267, 3) := by decide +kernel
theorem dX11_setCursor_12 : decode cX11_setCursor 12 = .ok (.istore_n 2, 1) := by decide +kernel
theorem dX11_setCursor_13 : decode cX11_setCursor 13 = .ok (.aload_n 0, 1) := by decide +kernel
theorem dX11_setCursor_14 : decode cX11_setCursor 14 = .ok (.getfield 10, 3) := by decide +kernel
theorem dX11_setCursor_17 : decode cX11_setCursor 17 = .ok (.iload_n 1, 1) := by decide +kernel
theorem dX11_setCursor_18 : decode cX11_setCursor 18 = .ok (.invokevirtual 215, 3) := by decide +kernel
theorem dX11_setCursor_21 : decode cX11_setCursor 21 = .ok (.iload_n 2, 1) := by decide +kernel
theorem dX11_setCursor_22 : decode cX11_setCursor 22 = .ok (.ireturn, 1) := by decide +kernel
theorem dX11_addCursor_0 : decode cX11_addCursor 0 = .ok (.aload_n 0, 1) := by decide +kernel
theorem dX11_addCursor_1 : decode cX11_addCursor 1 = .ok (.iload_n 1, 1) := by decide +kernel
theorem dX11_addCursor_2 : decode cX11_addCursor 2 = .ok (.invokevirtual 264, 3) := by decide +kernel
theorem dX11_addCursor_5 : decode cX11_addCursor 5 = .ok (.aload_n 0, 1) := by decide +kernel
theorem dX11_addCursor_6 : decode cX11_addCursor 6 = .ok (.getfield 10, 3) := by decide +kernel
theorem dX11_addCursor_9 : decode cX11_addCursor 9 = .ok (.iload_n 1, 1) := by decide +kernel
theorem dX11_addCursor_10 : decode cX11_addCursor 10 = .ok (.invokevirtual 270, 3) := by decide +kernel
theorem dX11_addCursor_13 : decode cX11_addCursor 13 = .ok (.ifCond .eq 11, 3) := by decide +kernel
theorem dX11_addCursor_16 : decode cX11_addCursor 16 = .ok (.aload_n 0, 1) := by decide +kernel
theorem dX11_addCursor_17 : decode cX11_addCursor 17 = .ok (.getfield 10, 3) := by decide +kernel
theorem dX11_addCursor_20 : decode cX11_addCursor 20 = .ok (.getfield 267, 3) := by decide +kernel
theorem dX11_addCursor_23 : decode cX11_addCursor 23 = .ok (.ireturn, 1) := by decide +kernel
theorem dX11_addCursor_24 : decode cX11_addCursor 24 = .ok (.aload_n 0, 1) := by decide +kernel
theorem dX11_addCursor_25 : decode cX11_addCursor 25 = .ok (.getfield 10, 3) := by decide +kernel
theorem dX11_addCursor_28 : decode cX11_addCursor 28 = .ok (.getfield 267, 3) := by decide +kernel
theorem dX11_addCursor_31 : decode cX11_addCursor 31 = .ok (.bipush 8, 2) := by decide +kernel
theorem dX11_addCursor_33 : decode cX11_addCursor 33 = .ok (.if_icmp .lt 14, 3) := by decide +kernel
theorem dX11_addCursor_36 : decode cX11_addCursor 36 = .ok (.new 92, 3) := by decide +kernel
theorem dX11_addCursor_39 : decode cX11_addCursor 39 = .ok (.dup, 1) := by decide +kernel
theorem dX11_addCursor_40 : decode cX11_addCursor 40 = .ok (.ldc_w 273, 3) := by decide +kernel
theorem dX11_addCursor_43 : decode cX11_addCursor 43 = .ok (.invokespecial 96, 3) := by decide +kernel
theorem dX11_addCursor_46 : decode cX11_addCursor 46 = .ok (.athrow, 1) := by decide +kernel
theorem dX11_addCursor_47 : decode cX11_addCursor 47 = .ok (.aload_n 0, 1) := by decide +kernel
theorem dX11_addCursor_48 : decode cX11_addCursor 48 = .ok (.getfield 10, 3) := by decide +kernel
theorem dX11_addCursor_51 : decode cX11_addCursor 51 = .ok (.getfield 205, 3) := by decide +kernel
theorem dX11_addCursor_54 : decode cX11_addCursor 54 = .ok (.aload_n 0, 1) := by decide +kernel
theorem dX11_addCursor_55 : decode cX11_addCursor 55 = .ok (.getfield 10, 3) := by decide +kernel
theorem dX11_addCursor_58 : decode cX11_addCursor 58 = .ok (.getfield 267, 3) := by decide +kernel
theorem dX11_addCursor_61 : decode cX11_addCursor 61 = .ok (.iload_n 1, 1) := by decide +kernel
theorem dX11_addCursor_62 : decode cX11_addCursor 62 = .ok (.iastore, 1) := by decide +kernel
theorem dX11_addCursor_63 : decode cX11_addCursor 63 = .ok (.aload_n 0, 1) := by decide +kernel
theorem dX11_addCursor_64 : decode cX11_addCursor 64 = .ok (.getfield 10, 3) := by decide +kernel
theorem dX11_addCursor_67 : decode cX11_addCursor 67 = .ok (.dup, 1) := by decide +kernel
theorem dX11_addCursor_68 : decode cX11_addCursor 68 = .ok (.getfield 267, 3) := by decide +kernel
theorem dX11_addCursor_71 : decode cX11_addCursor 71 = .ok (.iconst 1, 1) := by decide +kernel
theorem dX11_addCursor_72 : decode cX11_addCursor 72 = .ok (.iadd, 1) := by decide +kernel
theorem dX11_addCursor_73 : decode cX11_addCursor 73 = .ok (.putfield 267, 3) := by decide +kernel
theorem dX11_addCursor_76 : decode cX11_addCursor 76 = .ok (.aload_n 0, 1) := by decide +kernel
theorem dX11_addCursor_77 : decode cX11_addCursor 77 = .ok (.getfield 10, 3) := by decide +kernel
theorem dX11_addCursor_80 : decode cX11_addCursor 80 = .ok (.invokevirtual 275, 3) := by decide +kernel
theorem dX11_addCursor_83 : decode cX11_addCursor 83 = .ok (.aload_n 0, 1) := by decide +kernel
theorem dX11_addCursor_84 : decode cX11_addCursor 84 = .ok (.getfield 10, 3) := by decide +kernel
theorem dX11_addCursor_87 : decode cX11_addCursor 87 = .ok (.getfield 267, 3) := by decide +kernel
theorem dX11_addCursor_90 : decode cX11_addCursor 90 = .ok (.ireturn, 1) := by decide +kernel
theorem dX11_moveCursors_0 : decode cX11_moveCursors 0 = .ok (.iload_n 1, 1) := by decide +kernel
theorem dX11_moveCursors_1 : decode cX11_moveCursors 1 = .ok (.ifCond .lt 20, 3) := by decide +kernel
theorem dX11_moveCursors_4 : decode cX11_moveCursors 4 = .ok (.iload_n 1, 1) := by decide +kernel
theorem dX11_moveCursors_5 : decode cX11_moveCursors 5 = .ok (.iconst 4, 1) := by decide +kernel
theorem dX11_moveCursors_6 : decode cX11_moveCursors 6 = .ok (.if_icmp .gt 15, 3) := by decide +kernel
theorem dX11_moveCursors_9 : decode cX11_moveCursors 9 = .ok (.iload_n 2, 1) := by decide +kernel
theorem dX11_moveCursors_10 : decode cX11_moveCursors 10 = .ok (.bipush (-50), 2) := by decide +kernel
theorem dX11_moveCursors_12 : decode cX11_moveCursors 12 = .ok (.if_icmp .lt 9, 3) := by decide +kernel
theorem dX11_moveCursors_15 : decode cX11_moveCursors 15 = .ok (.iload_n 2, 1) := by decide +kernel
theorem dX11_moveCursors_16 : decode cX11_moveCursors 16 = .ok (.bipush 50, 2) := by decide +kernel
theorem dX11_moveCursors_18 : decode cX11_moveCursors 18 = .ok (.if_icmp .le 14, 3) := by decide +kernel
theorem dX11_moveCursors_21 : decode cX11_moveCursors 21 = .ok (.new 82, 3) := by decide +kernel
theorem dX11_moveCursors_24 : decode cX11_moveCursors 24 = .ok (.dup, 1) := by decide +kernel
theorem dX11_moveCursors_25 : decode cX11_moveCursors 25 = .ok (.ldc_w 278, 3) := by decide +kernel
theorem dX11_moveCursors_28 : decode cX11_moveCursors 28 = .ok (.invokespecial 86, 3) := by decide +kernel
theorem dX11_moveCursors_31 : decode cX11_moveCursors 31 = .ok (.athrow, 1) := by decide +kernel
theorem dX11_moveCursors_32 : decode cX11_moveCursors 32 = .ok (.aload_n 0, 1) := by decide +kernel
theorem dX11_moveCursors_33 : decode cX11_moveCursors 33 = .ok (.iload_n 1, 1) := by decide +kernel
theorem dX11_moveCursors_34 : decode cX11_moveCursors 34 = .ok (.iload_n 2, 1) := by decide +kernel
theorem dX11_moveCursors_35 : decode cX11_moveCursors 35 = .ok (.invokevirtual 280, 3) := by decide +kernel
theorem dX11_moveCursors_38 : decode cX11_moveCursors 38 = .ok (.aload_n 0, 1) := by decide +kernel
theorem dX11_moveCursors_39 : decode cX11_moveCursors 39 = .ok (.getfield 56, 3) := by decide +kernel
theorem dX11_moveCursors_42 : decode cX11_moveCursors 42 = .ok (.iconst 2, 1) := by decide +kernel
theorem dX11_moveCursors_43 : decode cX11_moveCursors 43 = .ok (.iload_n 1, 1) := by decide +kernel
theorem dX11_moveCursors_44 : decode cX11_moveCursors 44 = .ok (.iload_n 2, 1) := by decide +kernel
theorem dX11_moveCursors_45 : decode cX11_moveCursors 45 = .ok (.invokevirtual 150, 3) := by decide +kernel
theorem dX11_moveCursors_48 : decode cX11_moveCursors 48 = .ok (.aload_n 0, 1) := by decide +kernel
theorem dX11_moveCursors_49 : decode cX11_moveCursors 49 = .ok (.getfield 10, 3) := by decide +kernel
theorem dX11_moveCursors_52 : decode cX11_moveCursors 52 = .ok (.getfield 267, 3) := by decide +kernel
theorem dX11_moveCursors_55 : decode cX11_moveCursors 55 = .ok (.ireturn, 1) := by decide +kernel
theorem dX11_cursorAt_0 : decode cX11_cursorAt 0 = .ok (.iload_n 1, 1) := by decide +kernel
theorem dX11_cursorAt_1 : decode cX11_cursorAt 1 = .ok (.ifCond .lt 14, 3) := by decide +kernel
theorem dX11_cursorAt_4 : decode cX11_cursorAt 4 = .ok (.iload_n 1, 1) := by decide +kernel
theorem dX11_cursorAt_5 : decode cX11_cursorAt 5 = .ok (.aload_n 0, 1) := by decide +kernel
theorem dX11_cursorAt_6 : decode cX11_cursorAt 6 = .ok (.getfield 10, 3) := by decide +kernel
theorem dX11_cursorAt_9 : decode cX11_cursorAt 9 = .ok (.getfield 267, 3) := by decide +kernel
theorem dX11_cursorAt_12 : decode cX11_cursorAt 12 = .ok (.if_icmp .lt 14, 3) := by decide +kernel
theorem dX11_cursorAt_15 : decode cX11_cursorAt 15 = .ok (.new 119, 3) := by decide +kernel
theorem dX11_cursorAt_18 : decode cX11_cursorAt 18 = .ok (.dup, 1) := by decide +kernel
theorem dX11_cursorAt_19 : decode cX11_cursorAt 19 = .ok (.ldc_w 283, 3) := by decide +kernel
theorem dX11_cursorAt_22 : decode cX11_cursorAt 22 = .ok (.invokespecial 123, 3) := by decide +kernel
theorem dX11_cursorAt_25 : decode cX11_cursorAt 25 = .ok (.athrow, 1) := by decide +kernel
theorem dX11_cursorAt_26 : decode cX11_cursorAt 26 = .ok (.aload_n 0, 1) := by decide +kernel
theorem dX11_cursorAt_27 : decode cX11_cursorAt 27 = .ok (.getfield 10, 3) := by decide +kernel
theorem dX11_cursorAt_30 : decode cX11_cursorAt 30 = .ok (.getfield 205, 3) := by decide +kernel
theorem dX11_cursorAt_33 : decode cX11_cursorAt 33 = .ok (.iload_n 1, 1) := by decide +kernel
theorem dX11_cursorAt_34 : decode cX11_cursorAt 34 = .ok (.iaload, 1) := by decide +kernel
theorem dX11_cursorAt_35 : decode cX11_cursorAt 35 = .ok (.ireturn, 1) := by decide +kernel
theorem dX11_setMark_0 : decode cX11_setMark 0 = .ok (.aload_n 0, 1) := by decide +kernel
theorem dX11_setMark_1 : decode cX11_setMark 1 = .ok (.iload_n 1, 1) := by decide +kernel
theorem dX11_setMark_2 : decode cX11_setMark 2 = .ok (.invokevirtual 285, 3) := by decide +kernel
theorem dX11_setMark_5 : decode cX11_setMark 5 = .ok (.aload_n 0, 1) := by decide +kernel
theorem dX11_setMark_6 : decode cX11_setMark 6 = .ok (.iload_n 2, 1) := by decide +kernel
theorem dX11_setMark_7 : decode cX11_setMark 7 = .ok (.invokevirtual 264, 3) := by decide +kernel
theorem dX11_setMark_10 : decode cX11_setMark 10 = .ok (.aload_n 0, 1) := by decide +kernel
theorem dX11_setMark_11 : decode cX11_setMark 11 = .ok (.getfield 10, 3) := by decide +kernel
theorem dX11_setMark_14 : decode cX11_setMark 14 = .ok (.getfield 288, 3) := by decide +kernel
theorem dX11_setMark_17 : decode cX11_setMark 17 = .ok (.iload_n 1, 1) := by decide +kernel
theorem dX11_setMark_18 : decode cX11_setMark 18 = .ok (.iaload, 1) := by decide +kernel
theorem dX11_setMark_19 : decode cX11_setMark 19 = .ok (.istore 4, 2) := by decide +kernel
theorem dX11_setMark_21 : decode cX11_setMark 21 = .ok (.aload_n 0, 1) := by decide +kernel
theorem dX11_setMark_22 : decode cX11_setMark 22 = .ok (.getfield 10, 3) := by decide +kernel
theorem dX11_setMark_25 : decode cX11_setMark 25 = .ok (.getfield 288, 3) := by decide +kernel
theorem dX11_setMark_28 : decode cX11_setMark 28 = .ok (.iload_n 1, 1) := by decide +kernel
theorem dX11_setMark_29 : decode cX11_setMark 29 = .ok (.iload_n 2, 1) := by decide +kernel
theorem dX11_setMark_30 : decode cX11_setMark 30 = .ok (.iastore, 1) := by decide +kernel
theorem dX11_setMark_31 : decode cX11_setMark 31 = .ok (.aload_n 0, 1) := by decide +kernel
theorem dX11_setMark_32 : decode cX11_setMark 32 = .ok (.getfield 10, 3) := by decide +kernel
theorem dX11_setMark_35 : decode cX11_setMark 35 = .ok (.getfield 291, 3) := by decide +kernel
theorem dX11_setMark_38 : decode cX11_setMark 38 = .ok (.iload_n 1, 1) := by decide +kernel
theorem dX11_setMark_39 : decode cX11_setMark 39 = .ok (.iload_n 3, 1) := by decide +kernel
theorem dX11_setMark_40 : decode cX11_setMark 40 = .ok (.bastore, 1) := by decide +kernel
theorem dX11_setMark_41 : decode cX11_setMark 41 = .ok (.iload 4, 2) := by decide +kernel
theorem dX11_setMark_43 : decode cX11_setMark 43 = .ok (.ireturn, 1) := by decide +kernel
theorem dX11_dropMark_0 : decode cX11_dropMark 0 = .ok (.aload_n 0, 1) := by decide +kernel
theorem dX11_dropMark_1 : decode cX11_dropMark 1 = .ok (.iload_n 1, 1) := by decide +kernel
theorem dX11_dropMark_2 : decode cX11_dropMark 2 = .ok (.invokevirtual 285, 3) := by decide +kernel
theorem dX11_dropMark_5 : decode cX11_dropMark 5 = .ok (.aload_n 0, 1) := by decide +kernel
theorem dX11_dropMark_6 : decode cX11_dropMark 6 = .ok (.getfield 10, 3) := by decide +kernel
theorem dX11_dropMark_9 : decode cX11_dropMark 9 = .ok (.getfield 288, 3) := by decide +kernel
theorem dX11_dropMark_12 : decode cX11_dropMark 12 = .ok (.iload_n 1, 1) := by decide +kernel
theorem dX11_dropMark_13 : decode cX11_dropMark 13 = .ok (.iaload, 1) := by decide +kernel
theorem dX11_dropMark_14 : decode cX11_dropMark 14 = .ok (.istore_n 2, 1) := by decide +kernel
theorem dX11_dropMark_15 : decode cX11_dropMark 15 = .ok (.aload_n 0, 1) := by decide +kernel
theorem dX11_dropMark_16 : decode cX11_dropMark 16 = .ok (.getfield 10, 3) := by decide +kernel
theorem dX11_dropMark_19 : decode cX11_dropMark 19 = .ok (.getfield 288, 3) := by decide +kernel
theorem dX11_dropMark_22 : decode cX11_dropMark 22 = .ok (.iload_n 1, 1) := by decide +kernel
theorem dX11_dropMark_23 : decode cX11_dropMark 23 = .ok (.iconst (-1), 1) := by decide +kernel
theorem dX11_dropMark_24 : decode cX11_dropMark 24 = .ok (.iastore, 1) := by decide +kernel
theorem dX11_dropMark_25 : decode cX11_dropMark 25 = .ok (.iload_n 2, 1) := by decide +kernel
theorem dX11_dropMark_26 : decode cX11_dropMark 26 = .ok (.ireturn, 1) := by decide +kernel
theorem dX11_markAt_0 : decode cX11_markAt 0 = .ok (.aload_n 0, 1) := by decide +kernel
theorem dX11_markAt_1 : decode cX11_markAt 1 = .ok (.iload_n 1, 1) := by decide +kernel
theorem dX11_markAt_2 : decode cX11_markAt 2 = .ok (.invokevirtual 285, 3) := by decide +kernel
theorem dX11_markAt_5 : decode cX11_markAt 5 = .ok (.aload_n 0, 1) := by decide +kernel
theorem dX11_markAt_6 : decode cX11_markAt 6 = .ok (.getfield 10, 3) := by decide +kernel
theorem dX11_markAt_9 : decode cX11_markAt 9 = .ok (.getfield 288, 3) := by decide +kernel
theorem dX11_markAt_12 : decode cX11_markAt 12 = .ok (.iload_n 1, 1) := by decide +kernel
theorem dX11_markAt_13 : decode cX11_markAt 13 = .ok (.iaload, 1) := by decide +kernel
theorem dX11_markAt_14 : decode cX11_markAt 14 = .ok (.ireturn, 1) := by decide +kernel
theorem dX11_markBeside_0 : decode cX11_markBeside 0 = .ok (.aload_n 0, 1) := by decide +kernel
theorem dX11_markBeside_1 : decode cX11_markBeside 1 = .ok (.iload_n 1, 1) := by decide +kernel
theorem dX11_markBeside_2 : decode cX11_markBeside 2 = .ok (.invokevirtual 264, 3) := by decide +kernel
theorem dX11_markBeside_5 : decode cX11_markBeside 5 = .ok (.iload_n 2, 1) := by decide +kernel
theorem dX11_markBeside_6 : decode cX11_markBeside 6 = .ok (.ifCond .eq 14, 3) := by decide +kernel
theorem dX11_markBeside_9 : decode cX11_markBeside 9 = .ok (.aload_n 0, 1) := by decide +kernel
theorem dX11_markBeside_10 : decode cX11_markBeside 10 = .ok (.getfield 10, 3) := by decide +kernel
theorem dX11_markBeside_13 : decode cX11_markBeside 13 = .ok (.iload_n 1, 1) := by decide +kernel
theorem dX11_markBeside_14 : decode cX11_markBeside 14 = .ok (.invokevirtual 295, 3) := by decide +kernel
theorem dX11_markBeside_17 : decode cX11_markBeside 17 = .ok (.goto 11, 3) := by decide +kernel
theorem dX11_markBeside_20 : decode cX11_markBeside 20 = .ok (.aload_n 0, 1) := by decide +kernel
theorem dX11_markBeside_21 : decode cX11_markBeside 21 = .ok (.getfield 10, 3) := by decide +kernel
theorem dX11_markBeside_24 : decode cX11_markBeside 24 = .ok (.iload_n 1, 1) := by decide +kernel
theorem dX11_markBeside_25 : decode cX11_markBeside 25 = .ok (.invokevirtual 298, 3) := by decide +kernel
theorem dX11_markBeside_28 : decode cX11_markBeside 28 = .ok (.ireturn, 1) := by decide +kernel
theorem dX11_setPattern_0 : decode cX11_setPattern 0 = .ok (.aload_n 0, 1) := by decide +kernel
theorem dX11_setPattern_1 : decode cX11_setPattern 1 = .ok (.getfield 21, 3) := by decide +kernel
theorem dX11_setPattern_4 : decode cX11_setPattern 4 = .ok (.getfield 89, 3) := by decide +kernel
theorem dX11_setPattern_7 : decode cX11_setPattern 7 = .ok (.ifCond .eq 15, 3) := by decide +kernel
theorem dX11_setPattern_10 : decode cX11_setPattern 10 = .ok (.aload_n 0, 1) := by decide +kernel
theorem dX11_setPattern_11 : decode cX11_setPattern 11 = .ok (.getfield 21, 3) := by decide +kernel
theorem dX11_setPattern_14 : decode cX11_setPattern 14 = .ok (.getfield 89, 3) := by decide +kernel
theorem dX11_setPattern_17 : decode cX11_setPattern 17 = .ok (.bipush 40, 2) := by decide +kernel
theorem dX11_setPattern_19 : decode cX11_setPattern 19 = .ok (.if_icmp .le 14, 3) := by decide +kernel
theorem dX11_setPattern_22 : decode cX11_setPattern 22 = .ok (.new 92, 3) := by decide +kernel
theorem dX11_setPattern_25 : decode cX11_setPattern 25 = .ok (.dup, 1) := by decide +kernel
theorem dX11_setPattern_26 : decode cX11_setPattern 26 = .ok (.ldc_w 301, 3) := by decide +kernel
theorem dX11_setPattern_29 : decode cX11_setPattern 29 = .ok (.invokespecial 96, 3) := by decide +kernel
theorem dX11_setPattern_32 : decode cX11_setPattern 32 = .ok (.athrow, 1) := by decide +kernel
theorem dX11_setPattern_33 : decode cX11_setPattern 33 = .ok (.aload_n 0, 1) := by decide +kernel
theorem dX11_setPattern_34 : decode cX11_setPattern 34 = .ok (.getfield 49, 3) := by decide +kernel
theorem dX11_setPattern_37 : decode cX11_setPattern 37 = .ok (.getfield 212, 3) := by decide +kernel
theorem dX11_setPattern_40 : decode cX11_setPattern 40 = .ok (.aload_n 0, 1) := by decide +kernel
theorem dX11_setPattern_41 : decode cX11_setPattern 41 = .ok (.getfield 21, 3) := by decide +kernel
theorem dX11_setPattern_44 : decode cX11_setPattern 44 = .ok (.getfield 130, 3) := by decide +kernel
theorem dX11_setPattern_47 : decode cX11_setPattern 47 = .ok (.iconst 0, 1) := by decide +kernel
theorem dX11_setPattern_48 : decode cX11_setPattern 48 = .ok (.aload_n 0, 1) := by decide +kernel
theorem dX11_setPattern_49 : decode cX11_setPattern 49 = .ok (.getfield 21, 3) := by decide +kernel
theorem dX11_setPattern_52 : decode cX11_setPattern 52 = .ok (.getfield 89, 3) := by decide +kernel
theorem dX11_setPattern_55 : decode cX11_setPattern 55 = .ok (.invokevirtual 303, 3) := by decide +kernel
theorem dX11_setPattern_58 : decode cX11_setPattern 58 = .ok (.aload_n 0, 1) := by decide +kernel
theorem dX11_setPattern_59 : decode cX11_setPattern 59 = .ok (.getfield 49, 3) := by decide +kernel
theorem dX11_setPattern_62 : decode cX11_setPattern 62 = .ok (.iload_n 1, 1) := by decide +kernel
theorem dX11_setPattern_63 : decode cX11_setPattern 63 = .ok (.putfield 306, 3) := by decide +kernel
theorem dX11_setPattern_66 : decode cX11_setPattern 66 = .ok (.aload_n 0, 1) := by decide +kernel
theorem dX11_setPattern_67 : decode cX11_setPattern 67 = .ok (.getfield 49, 3) := by decide +kernel
theorem dX11_setPattern_70 : decode cX11_setPattern 70 = .ok (.aload_n 0, 1) := by decide +kernel
theorem dX11_setPattern_71 : decode cX11_setPattern 71 = .ok (.getfield 10, 3) := by decide +kernel
theorem dX11_setPattern_74 : decode cX11_setPattern 74 = .ok (.invokevirtual 309, 3) := by decide +kernel
theorem dX11_setPattern_77 : decode cX11_setPattern 77 = .ok (.ireturn, 1) := by decide +kernel
theorem dX11_find_0 : decode cX11_find 0 = .ok (.aload_n 0, 1) := by decide +kernel
theorem dX11_find_1 : decode cX11_find 1 = .ok (.iload_n 1, 1) := by decide +kernel
theorem dX11_find_2 : decode cX11_find 2 = .ok (.invokevirtual 264, 3) := by decide +kernel
theorem dX11_find_5 : decode cX11_find 5 = .ok (.aload_n 0, 1) := by decide +kernel
theorem dX11_find_6 : decode cX11_find 6 = .ok (.getfield 49, 3) := by decide +kernel
theorem dX11_find_9 : decode cX11_find 9 = .ok (.invokevirtual 200, 3) := by decide +kernel
theorem dX11_find_12 : decode cX11_find 12 = .ok (.ifCond .ne 13, 3) := by decide +kernel
theorem dX11_find_15 : decode cX11_find 15 = .ok (.new 92, 3) := by decide +kernel
theorem dX11_find_18 : decode cX11_find 18 = .ok (.dup, 1) := by decide +kernel
theorem dX11_find_19 : decode cX11_find 19 = .ok (.ldc 203, 2) := by decide +kernel
theorem dX11_find_21 : decode cX11_find 21 = .ok (.invokespecial 96, 3) := by decide +kernel
theorem dX11_find_24 : decode cX11_find 24 = .ok (.athrow, 1) := by decide +kernel
theorem dX11_find_25 : decode cX11_find 25 = .ok (.iload_n 2, 1) := by decide +kernel
theorem dX11_find_26 : decode cX11_find 26 = .ok (.ifCond .eq 18, 3) := by decide +kernel
theorem dX11_find_29 : decode cX11_find 29 = .ok (.aload_n 0, 1) := by decide +kernel
theorem dX11_find_30 : decode cX11_find 30 = .ok (.getfield 49, 3) := by decide +kernel
theorem dX11_find_33 : decode cX11_find 33 = .ok (.aload_n 0, 1) := by decide +kernel
theorem dX11_find_34 : decode cX11_find 34 = .ok (.getfield 10, 3) := by decide +kernel
theorem dX11_find_37 : decode cX11_find 37 = .ok (.iload_n 1, 1) := by decide +kernel
theorem dX11_find_38 : decode cX11_find 38 = .ok (.invokevirtual 208, 3) := by decide +kernel
theorem dX11_find_41 : decode cX11_find 41 = .ok (.goto 15, 3) := by decide +kernel
theorem dX11_find_44 : decode cX11_find 44 = .ok (.aload_n 0, 1) := by decide +kernel
theorem dX11_find_45 : decode cX11_find 45 = .ok (.getfield 49, 3) := by decide +kernel
theorem dX11_find_48 : decode cX11_find 48 = .ok (.aload_n 0, 1) := by decide +kernel
theorem dX11_find_49 : decode cX11_find 49 = .ok (.getfield 10, 3) := by decide +kernel
theorem dX11_find_52 : decode cX11_find 52 = .ok (.iload_n 1, 1) := by decide +kernel
theorem dX11_find_53 : decode cX11_find 53 = .ok (.invokevirtual 313, 3) := by decide +kernel
theorem dX11_find_56 : decode cX11_find 56 = .ok (.ireturn, 1) := by decide +kernel
theorem dX11_fold_0 : decode cX11_fold 0 = .ok (.aload_n 0, 1) := by decide +kernel
theorem dX11_fold_1 : decode cX11_fold 1 = .ok (.iload_n 1, 1) := by decide +kernel
theorem dX11_fold_2 : decode cX11_fold 2 = .ok (.invokevirtual 112, 3) := by decide +kernel
theorem dX11_fold_5 : decode cX11_fold 5 = .ok (.aload_n 0, 1) := by decide +kernel
theorem dX11_fold_6 : decode cX11_fold 6 = .ok (.iload_n 2, 1) := by decide +kernel
theorem dX11_fold_7 : decode cX11_fold 7 = .ok (.invokevirtual 112, 3) := by decide +kernel
theorem dX11_fold_10 : decode cX11_fold 10 = .ok (.iload_n 1, 1) := by decide +kernel
theorem dX11_fold_11 : decode cX11_fold 11 = .ok (.iload_n 2, 1) := by decide +kernel
theorem dX11_fold_12 : decode cX11_fold 12 = .ok (.if_icmp .lt 14, 3) := by decide +kernel
theorem dX11_fold_15 : decode cX11_fold 15 = .ok (.new 82, 3) := by decide +kernel
theorem dX11_fold_18 : decode cX11_fold 18 = .ok (.dup, 1) := by decide +kernel
theorem dX11_fold_19 : decode cX11_fold 19 = .ok (.ldc_w 316, 3) := by decide +kernel
theorem dX11_fold_22 : decode cX11_fold 22 = .ok (.invokespecial 86, 3) := by decide +kernel
theorem dX11_fold_25 : decode cX11_fold 25 = .ok (.athrow, 1) := by decide +kernel
theorem dX11_fold_26 : decode cX11_fold 26 = .ok (.aload_n 0, 1) := by decide +kernel
theorem dX11_fold_27 : decode cX11_fold 27 = .ok (.getfield 10, 3) := by decide +kernel
theorem dX11_fold_30 : decode cX11_fold 30 = .ok (.iload_n 1, 1) := by decide +kernel
theorem dX11_fold_31 : decode cX11_fold 31 = .ok (.iconst 1, 1) := by decide +kernel
theorem dX11_fold_32 : decode cX11_fold 32 = .ok (.iadd, 1) := by decide +kernel
theorem dX11_fold_33 : decode cX11_fold 33 = .ok (.iload_n 2, 1) := by decide +kernel
theorem dX11_fold_34 : decode cX11_fold 34 = .ok (.invokevirtual 318, 3) := by decide +kernel
theorem dX11_fold_37 : decode cX11_fold 37 = .ok (.ifCond .eq 14, 3) := by decide +kernel
theorem dX11_fold_40 : decode cX11_fold 40 = .ok (.new 92, 3) := by decide +kernel
theorem dX11_fold_43 : decode cX11_fold 43 = .ok (.dup, 1) := by decide +kernel
theorem dX11_fold_44 : decode cX11_fold 44 = .ok (.ldc_w 322, 3) := by decide +kernel
theorem dX11_fold_47 : decode cX11_fold 47 = .ok (.invokespecial 96, 3) := by decide +kernel
theorem dX11_fold_50 : decode cX11_fold 50 = .ok (.athrow, 1) := by decide +kernel
theorem dX11_fold_51 : decode cX11_fold 51 = .ok (.iload_n 1, 1) := by decide +kernel
theorem dX11_fold_52 : decode cX11_fold 52 = .ok (.iconst 1, 1) := by decide +kernel
theorem dX11_fold_53 : decode cX11_fold 53 = .ok (.iadd, 1) := by decide +kernel
theorem dX11_fold_54 : decode cX11_fold 54 = .ok (.istore_n 3, 1) := by decide +kernel
theorem dX11_fold_55 : decode cX11_fold 55 = .ok (.iload_n 3, 1) := by decide +kernel
theorem dX11_fold_56 : decode cX11_fold 56 = .ok (.iload_n 2, 1) := by decide +kernel
theorem dX11_fold_57 : decode cX11_fold 57 = .ok (.if_icmp .gt 19, 3) := by decide +kernel
theorem dX11_fold_60 : decode cX11_fold 60 = .ok (.aload_n 0, 1) := by decide +kernel
theorem dX11_fold_61 : decode cX11_fold 61 = .ok (.getfield 10, 3) := by decide +kernel
theorem dX11_fold_64 : decode cX11_fold 64 = .ok (.getfield 324, 3) := by decide +kernel
theorem dX11_fold_67 : decode cX11_fold 67 = .ok (.iload_n 3, 1) := by decide +kernel
theorem dX11_fold_68 : decode cX11_fold 68 = .ok (.iconst 1, 1) := by decide +kernel
theorem dX11_fold_69 : decode cX11_fold 69 = .ok (.bastore, 1) := by decide +kernel
theorem dX11_fold_70 : decode cX11_fold 70 = .ok (.iinc 3 1, 3) := by decide +kernel
theorem dX11_fold_73 : decode cX11_fold 73 = .ok (.goto (-18), 3) := by decide +kernel
theorem dX11_fold_76 : decode cX11_fold 76 = .ok (.aload_n 0, 1) := by decide +kernel
theorem dX11_fold_77 : decode cX11_fold 77 = .ok (.getfield 10, 3) := by decide +kernel
theorem dX11_fold_80 : decode cX11_fold 80 = .ok (.invokevirtual 327, 3) := by decide +kernel
theorem dX11_fold_83 : decode cX11_fold 83 = .ok (.ireturn, 1) := by decide +kernel
theorem dX11_unfold_0 : decode cX11_unfold 0 = .ok (.aload_n 0, 1) := by decide +kernel
theorem dX11_unfold_1 : decode cX11_unfold 1 = .ok (.iload_n 1, 1) := by decide +kernel
theorem dX11_unfold_2 : decode cX11_unfold 2 = .ok (.invokevirtual 112, 3) := by decide +kernel
theorem dX11_unfold_5 : decode cX11_unfold 5 = .ok (.aload_n 0, 1) := by decide +kernel
theorem dX11_unfold_6 : decode cX11_unfold 6 = .ok (.getfield 10, 3) := by decide +kernel
theorem dX11_unfold_9 : decode cX11_unfold 9 = .ok (.getfield 324, 3) := by decide +kernel
theorem dX11_unfold_12 : decode cX11_unfold 12 = .ok (.aload_n 0, 1) := by decide +kernel
theorem dX11_unfold_13 : decode cX11_unfold 13 = .ok (.getfield 10, 3) := by decide +kernel
theorem dX11_unfold_16 : decode cX11_unfold 16 = .ok (.getfield 116, 3) := by decide +kernel
theorem dX11_unfold_19 : decode cX11_unfold 19 = .ok (.iload_n 1, 1) := by decide +kernel
theorem dX11_unfold_20 : decode cX11_unfold 20 = .ok (.invokestatic 330, 3) := by decide +kernel
theorem dX11_unfold_23 : decode cX11_unfold 23 = .ok (.ireturn, 1) := by decide +kernel
theorem dX11_isHidden_0 : decode cX11_isHidden 0 = .ok (.aload_n 0, 1) := by decide +kernel
theorem dX11_isHidden_1 : decode cX11_isHidden 1 = .ok (.iload_n 1, 1) := by decide +kernel
theorem dX11_isHidden_2 : decode cX11_isHidden 2 = .ok (.invokevirtual 112, 3) := by decide +kernel
theorem dX11_isHidden_5 : decode cX11_isHidden 5 = .ok (.aload_n 0, 1) := by decide +kernel
theorem dX11_isHidden_6 : decode cX11_isHidden 6 = .ok (.getfield 10, 3) := by decide +kernel
theorem dX11_isHidden_9 : decode cX11_isHidden 9 = .ok (.getfield 324, 3) := by decide +kernel
theorem dX11_isHidden_12 : decode cX11_isHidden 12 = .ok (.iload_n 1, 1) := by decide +kernel
theorem dX11_isHidden_13 : decode cX11_isHidden 13 = .ok (.baload, 1) := by decide +kernel
theorem dX11_isHidden_14 : decode cX11_isHidden 14 = .ok (.ireturn, 1) := by decide +kernel
theorem dX11_setView_0 : decode cX11_setView 0 = .ok (.aload_n 0, 1) := by decide +kernel
theorem dX11_setView_1 : decode cX11_setView 1 = .ok (.iload_n 1, 1) := by decide +kernel
theorem dX11_setView_2 : decode cX11_setView 2 = .ok (.invokevirtual 334, 3) := by decide +kernel
theorem dX11_setView_5 : decode cX11_setView 5 = .ok (.iload_n 2, 1) := by decide +kernel
theorem dX11_setView_6 : decode cX11_setView 6 = .ok (.ifCond .lt 14, 3) := by decide +kernel
theorem dX11_setView_9 : decode cX11_setView 9 = .ok (.iload_n 3, 1) := by decide +kernel
theorem dX11_setView_10 : decode cX11_setView 10 = .ok (.iconst 1, 1) := by decide +kernel
theorem dX11_setView_11 : decode cX11_setView 11 = .ok (.if_icmp .lt 9, 3) := by decide +kernel
theorem dX11_setView_14 : decode cX11_setView 14 = .ok (.iload_n 3, 1) := by decide +kernel
theorem dX11_setView_15 : decode cX11_setView 15 = .ok (.bipush 40, 2) := by decide +kernel
theorem dX11_setView_17 : decode cX11_setView 17 = .ok (.if_icmp .le 14, 3) := by decide +kernel
theorem dX11_setView_20 : decode cX11_setView 20 = .ok (.new 82, 3) := by decide +kernel
theorem dX11_setView_23 : decode cX11_setView 23 = .ok (.dup, 1) := by decide +kernel
theorem dX11_setView_24 : decode cX11_setView 24 = .ok (.ldc_w 337, 3) := by decide +kernel
theorem dX11_setView_27 : decode cX11_setView 27 = .ok (.invokespecial 86, 3) := by decide +kernel
theorem dX11_setView_30 : decode cX11_setView 30 = .ok (.athrow, 1) := by decide +kernel
theorem dX11_setView_31 : decode cX11_setView 31 = .ok (.aload_n 0, 1) := by decide +kernel
theorem dX11_setView_32 : decode cX11_setView 32 = .ok (.getfield 67, 3) := by decide +kernel
theorem dX11_setView_35 : decode cX11_setView 35 = .ok (.iload_n 1, 1) := by decide +kernel
theorem dX11_setView_36 : decode cX11_setView 36 = .ok (.iaload, 1) := by decide +kernel
theorem dX11_setView_37 : decode cX11_setView 37 = .ok (.istore 4, 2) := by decide +kernel
theorem dX11_setView_39 : decode cX11_setView 39 = .ok (.aload_n 0, 1) := by decide +kernel
theorem dX11_setView_40 : decode cX11_setView 40 = .ok (.getfield 67, 3) := by decide +kernel
theorem dX11_setView_43 : decode cX11_setView 43 = .ok (.iload_n 1, 1) := by decide +kernel
theorem dX11_setView_44 : decode cX11_setView 44 = .ok (.iload_n 2, 1) := by decide +kernel
theorem dX11_setView_45 : decode cX11_setView 45 = .ok (.iastore, 1) := by decide +kernel
theorem dX11_setView_46 : decode cX11_setView 46 = .ok (.aload_n 0, 1) := by decide +kernel
theorem dX11_setView_47 : decode cX11_setView 47 = .ok (.getfield 71, 3) := by decide +kernel
theorem dX11_setView_50 : decode cX11_setView 50 = .ok (.iload_n 1, 1) := by decide +kernel
theorem dX11_setView_51 : decode cX11_setView 51 = .ok (.iload_n 3, 1) := by decide +kernel
theorem dX11_setView_52 : decode cX11_setView 52 = .ok (.iastore, 1) := by decide +kernel
theorem dX11_setView_53 : decode cX11_setView 53 = .ok (.iload 4, 2) := by decide +kernel
theorem dX11_setView_55 : decode cX11_setView 55 = .ok (.ireturn, 1) := by decide +kernel
theorem dX11_rowOf_0 : decode cX11_rowOf 0 = .ok (.aload_n 0, 1) := by decide +kernel
theorem dX11_rowOf_1 : decode cX11_rowOf 1 = .ok (.iload_n 1, 1) := by decide +kernel
theorem dX11_rowOf_2 : decode cX11_rowOf 2 = .ok (.invokevirtual 334, 3) := by decide +kernel
theorem dX11_rowOf_5 : decode cX11_rowOf 5 = .ok (.iload_n 2, 1) := by decide +kernel
theorem dX11_rowOf_6 : decode cX11_rowOf 6 = .ok (.ifCond .lt 13, 3) := by decide +kernel
theorem dX11_rowOf_9 : decode cX11_rowOf 9 = .ok (.iload_n 2, 1) := by decide +kernel
theorem dX11_rowOf_10 : decode cX11_rowOf 10 = .ok (.aload_n 0, 1) := by decide +kernel
theorem dX11_rowOf_11 : decode cX11_rowOf 11 = .ok (.getfield 71, 3) := by decide +kernel
theorem dX11_rowOf_14 : decode cX11_rowOf 14 = .ok (.iload_n 1, 1) := by decide +kernel
theorem dX11_rowOf_15 : decode cX11_rowOf 15 = .ok (.iaload, 1) := by decide +kernel
theorem dX11_rowOf_16 : decode cX11_rowOf 16 = .ok (.if_icmp .lt 14, 3) := by decide +kernel
theorem dX11_rowOf_19 : decode cX11_rowOf 19 = .ok (.new 82, 3) := by decide +kernel
theorem dX11_rowOf_22 : decode cX11_rowOf 22 = .ok (.dup, 1) := by decide +kernel
theorem dX11_rowOf_23 : decode cX11_rowOf 23 = .ok (.ldc_w 339, 3) := by decide +kernel
theorem dX11_rowOf_26 : decode cX11_rowOf 26 = .ok (.invokespecial 86, 3) := by decide +kernel
theorem dX11_rowOf_29 : decode cX11_rowOf 29 = .ok (.athrow, 1) := by decide +kernel
theorem dX11_rowOf_30 : decode cX11_rowOf 30 = .ok (.aload_n 0, 1) := by decide +kernel
theorem dX11_rowOf_31 : decode cX11_rowOf 31 = .ok (.getfield 67, 3) := by decide +kernel
theorem dX11_rowOf_34 : decode cX11_rowOf 34 = .ok (.iload_n 1, 1) := by decide +kernel
theorem dX11_rowOf_35 : decode cX11_rowOf 35 = .ok (.iaload, 1) := by decide +kernel
theorem dX11_rowOf_36 : decode cX11_rowOf 36 = .ok (.aload_n 0, 1) := by decide +kernel
theorem dX11_rowOf_37 : decode cX11_rowOf 37 = .ok (.getfield 10, 3) := by decide +kernel
theorem dX11_rowOf_40 : decode cX11_rowOf 40 = .ok (.getfield 116, 3) := by decide +kernel
theorem dX11_rowOf_43 : decode cX11_rowOf 43 = .ok (.iconst 1, 1) := by decide +kernel
theorem dX11_rowOf_44 : decode cX11_rowOf 44 = .ok (.isub, 1) := by decide +kernel
theorem dX11_rowOf_45 : decode cX11_rowOf 45 = .ok (.invokestatic 341, 3) := by decide +kernel
theorem dX11_rowOf_48 : decode cX11_rowOf 48 = .ok (.istore_n 3, 1) := by decide +kernel
theorem dX11_rowOf_49 : decode cX11_rowOf 49 = .ok (.iload_n 3, 1) := by decide +kernel
theorem dX11_rowOf_50 : decode cX11_rowOf 50 = .ok (.ifCond .le 21, 3) := by decide +kernel
theorem dX11_rowOf_53 : decode cX11_rowOf 53 = .ok (.aload_n 0, 1) := by decide +kernel
theorem dX11_rowOf_54 : decode cX11_rowOf 54 = .ok (.getfield 10, 3) := by decide +kernel
theorem dX11_rowOf_57 : decode cX11_rowOf 57 = .ok (.getfield 324, 3) := by decide +kernel
theorem dX11_rowOf_60 : decode cX11_rowOf 60 = .ok (.iload_n 3, 1) := by decide +kernel
theorem dX11_rowOf_61 : decode cX11_rowOf 61 = .ok (.baload, 1) := by decide +kernel
theorem dX11_rowOf_62 : decode cX11_rowOf 62 = .ok (.ifCond .eq 9, 3) := by decide +kernel
theorem dX11_rowOf_65 : decode cX11_rowOf 65 = .ok (.iinc 3 (-1), 3) := by decide +kernel
theorem dX11_rowOf_68 : decode cX11_rowOf 68 = .ok (.goto (-19), 3) := by decide +kernel
theorem dX11_rowOf_71 : decode cX11_rowOf 71 = .ok (.iload_n 2, 1) := by decide +kernel
theorem dX11_rowOf_72 : decode cX11_rowOf 72 = .ok (.istore 4, 2) := by decide +kernel
theorem dX11_rowOf_74 : decode cX11_rowOf 74 = .ok (.iload 4, 2) := by decide +kernel
theorem dX11_rowOf_76 : decode cX11_rowOf 76 = .ok (.ifCond .le 46, 3) := by decide +kernel
theorem dX11_rowOf_79 : decode cX11_rowOf 79 = .ok (.iload_n 3, 1) := by decide +kernel
theorem dX11_rowOf_80 : decode cX11_rowOf 80 = .ok (.aload_n 0, 1) := by decide +kernel
theorem dX11_rowOf_81 : decode cX11_rowOf 81 = .ok (.getfield 10, 3) := by decide +kernel
theorem dX11_rowOf_84 : decode cX11_rowOf 84 = .ok (.getfield 116, 3) := by decide +kernel
theorem dX11_rowOf_87 : decode cX11_rowOf 87 = .ok (.if_icmp .ge 35, 3) := by decide +kernel
theorem dX11_rowOf_90 : decode cX11_rowOf 90 = .ok (.iinc 3 1, 3) := by decide +kernel
theorem dX11_rowOf_93 : decode cX11_rowOf 93 = .ok (.iload_n 3, 1) := by decide +kernel
theorem dX11_rowOf_94 : decode cX11_rowOf 94 = .ok (.aload_n 0, 1) := by decide +kernel
theorem dX11_rowOf_95 : decode cX11_rowOf 95 = .ok (.getfield 10, 3) := by decide +kernel
theorem dX11_rowOf_98 : decode cX11_rowOf 98 = .ok (.getfield 116, 3) := by decide +kernel
theorem dX11_rowOf_101 : decode cX11_rowOf 101 = .ok (.if_icmp .ge (-27), 3) := by decide +kernel
theorem dX11_rowOf_104 : decode cX11_rowOf 104 = .ok (.aload_n 0, 1) := by decide +kernel
theorem dX11_rowOf_105 : decode cX11_rowOf 105 = .ok (.getfield 10, 3) := by decide +kernel
theorem dX11_rowOf_108 : decode cX11_rowOf 108 = .ok (.getfield 324, 3) := by decide +kernel
theorem dX11_rowOf_111 : decode cX11_rowOf 111 = .ok (.iload_n 3, 1) := by decide +kernel
theorem dX11_rowOf_112 : decode cX11_rowOf 112 = .ok (.baload, 1) := by decide +kernel
theorem dX11_rowOf_113 : decode cX11_rowOf 113 = .ok (.ifCond .ne (-39), 3) := by decide +kernel
theorem dX11_rowOf_116 : decode cX11_rowOf 116 = .ok (.iinc 4 (-1), 3) := by decide +kernel
theorem dX11_rowOf_119 : decode cX11_rowOf 119 = .ok (.goto (-45), 3) := by decide +kernel
theorem dX11_rowOf_122 : decode cX11_rowOf 122 = .ok (.iload_n 3, 1) := by decide +kernel
theorem dX11_rowOf_123 : decode cX11_rowOf 123 = .ok (.aload_n 0, 1) := by decide +kernel
theorem dX11_rowOf_124 : decode cX11_rowOf 124 = .ok (.getfield 10, 3) := by decide +kernel
theorem dX11_rowOf_127 : decode cX11_rowOf 127 = .ok (.getfield 116, 3) := by decide +kernel
theorem dX11_rowOf_130 : decode cX11_rowOf 130 = .ok (.if_icmp .ge 7, 3) := by decide +kernel
theorem dX11_rowOf_133 : decode cX11_rowOf 133 = .ok (.iload_n 3, 1) := by decide +kernel
theorem dX11_rowOf_134 : decode cX11_rowOf 134 = .ok (.goto 4, 3) := by decide +kernel
theorem dX11_rowOf_137 : decode cX11_rowOf 137 = .ok (.iconst (-1), 1) := by decide +kernel
theorem dX11_rowOf_138 : decode cX11_rowOf 138 = .ok (.ireturn, 1) := by decide +kernel
theorem dX11_record_0 : decode cX11_record 0 = .ok (.aload_n 0, 1) := by decide +kernel
theorem dX11_record_1 : decode cX11_record 1 = .ok (.getfield 56, 3) := by decide +kernel
theorem dX11_record_4 : decode cX11_record 4 = .ok (.getfield 344, 3) := by decide +kernel
theorem dX11_record_7 : decode cX11_record 7 = .ok (.istore_n 2, 1) := by decide +kernel
theorem dX11_record_8 : decode cX11_record 8 = .ok (.iload_n 1, 1) := by decide +kernel
theorem dX11_record_9 : decode cX11_record 9 = .ok (.ifCond .eq 11, 3) := by decide +kernel
theorem dX11_record_12 : decode cX11_record 12 = .ok (.aload_n 0, 1) := by decide +kernel
theorem dX11_record_13 : decode cX11_record 13 = .ok (.getfield 56, 3) := by decide +kernel
theorem dX11_record_16 : decode cX11_record 16 = .ok (.iconst 0, 1) := by decide +kernel
theorem dX11_record_17 : decode cX11_record 17 = .ok (.putfield 344, 3) := by decide +kernel
theorem dX11_record_20 : decode cX11_record 20 = .ok (.aload_n 0, 1) := by decide +kernel
theorem dX11_record_21 : decode cX11_record 21 = .ok (.getfield 56, 3) := by decide +kernel
theorem dX11_record_24 : decode cX11_record 24 = .ok (.iload_n 1, 1) := by decide +kernel
theorem dX11_record_25 : decode cX11_record 25 = .ok (.putfield 345, 3) := by decide +kernel
theorem dX11_record_28 : decode cX11_record 28 = .ok (.iload_n 2, 1) := by decide +kernel
theorem dX11_record_29 : decode cX11_record 29 = .ok (.ireturn, 1) := by decide +kernel
theorem dX11_play_0 : decode cX11_play 0 = .ok (.iload_n 1, 1) := by decide +kernel
theorem dX11_play_1 : decode cX11_play 1 = .ok (.iconst 1, 1) := by decide +kernel
theorem dX11_play_2 : decode cX11_play 2 = .ok (.if_icmp .lt 9, 3) := by decide +kernel
theorem dX11_play_5 : decode cX11_play 5 = .ok (.iload_n 1, 1) := by decide +kernel
theorem dX11_play_6 : decode cX11_play 6 = .ok (.bipush 20, 2) := by decide +kernel
theorem dX11_play_8 : decode cX11_play 8 = .ok (.if_icmp .le 14, 3) := by decide +kernel
theorem dX11_play_11 : decode cX11_play 11 = .ok (.new 82, 3) := by decide +kernel
theorem dX11_play_14 : decode cX11_play 14 = .ok (.dup, 1) := by decide +kernel
theorem dX11_play_15 : decode cX11_play 15 = .ok (.ldc_w 348, 3) := by decide +kernel
theorem dX11_play_18 : decode cX11_play 18 = .ok (.invokespecial 86, 3) := by decide +kernel
theorem dX11_play_21 : decode cX11_play 21 = .ok (.athrow, 1) := by decide +kernel
theorem dX11_play_22 : decode cX11_play 22 = .ok (.aload_n 0, 1) := by decide +kernel
theorem dX11_play_23 : decode cX11_play 23 = .ok (.getfield 56, 3) := by decide +kernel
theorem dX11_play_26 : decode cX11_play 26 = .ok (.getfield 345, 3) := by decide +kernel
theorem dX11_play_29 : decode cX11_play 29 = .ok (.ifCond .eq 14, 3) := by decide +kernel
theorem dX11_play_32 : decode cX11_play 32 = .ok (.new 92, 3) := by decide +kernel
theorem dX11_play_35 : decode cX11_play 35 = .ok (.dup, 1) := by decide +kernel
theorem dX11_play_36 : decode cX11_play 36 = .ok (.ldc_w 350, 3) := by decide +kernel
theorem dX11_play_39 : decode cX11_play 39 = .ok (.invokespecial 96, 3) := by decide +kernel
theorem dX11_play_42 : decode cX11_play 42 = .ok (.athrow, 1) := by decide +kernel
theorem dX11_play_43 : decode cX11_play 43 = .ok (.aload_n 0, 1) := by decide +kernel
theorem dX11_play_44 : decode cX11_play 44 = .ok (.getfield 42, 3) := by decide +kernel
theorem dX11_play_47 : decode cX11_play 47 = .ok (.getfield 249, 3) := by decide +kernel
theorem dX11_play_50 : decode cX11_play 50 = .ok (.ifCond .ne 7, 3) := by decide +kernel
theorem dX11_play_53 : decode cX11_play 53 = .ok (.iconst 1, 1) := by decide +kernel
theorem dX11_play_54 : decode cX11_play 54 = .ok (.goto 4, 3) := by decide +kernel
theorem dX11_play_57 : decode cX11_play 57 = .ok (.iconst 0, 1) := by decide +kernel
theorem dX11_play_58 : decode cX11_play 58 = .ok (.istore_n 2, 1) := by decide +kernel
theorem dX11_play_59 : decode cX11_play 59 = .ok (.aload_n 0, 1) := by decide +kernel
theorem dX11_play_60 : decode cX11_play 60 = .ok (.getfield 42, 3) := by decide +kernel
theorem dX11_play_63 : decode cX11_play 63 = .ok (.iconst 1, 1) := by decide +kernel
theorem dX11_play_64 : decode cX11_play 64 = .ok (.putfield 249, 3) := by decide +kernel
theorem dX11_play_67 : decode cX11_play 67 = .ok (.iconst 0, 1) := by decide +kernel
theorem dX11_play_68 : decode cX11_play 68 = .ok (.istore_n 3, 1) := by decide +kernel
theorem dX11_play_69 : decode cX11_play 69 = .ok (.iconst 0, 1) := by decide +kernel
theorem dX11_play_70 : decode cX11_play 70 = .ok (.istore 4, 2) := by decide +kernel
theorem dX11_play_72 : decode cX11_play 72 = .ok (.iconst 0, 1) := by decide +kernel
theorem dX11_play_73 : decode cX11_play 73 = .ok (.istore 5, 2) := by decide +kernel
theorem dX11_play_75 : decode cX11_play 75 = .ok (.iload 5, 2) := by decide +kernel
theorem dX11_play_77 : decode cX11_play 77 = .ok (.iload_n 1, 1) := by decide +kernel
theorem dX11_play_78 : decode cX11_play 78 = .ok (.if_icmp .ge 69, 3) := by decide +kernel
theorem dX11_play_81 : decode cX11_play 81 = .ok (.iload 4, 2) := by decide +kernel
theorem dX11_play_83 : decode cX11_play 83 = .ok (.ifCond .ne 64, 3) := by decide +kernel
theorem dX11_play_86 : decode cX11_play 86 = .ok (.iconst 0, 1) := by decide +kernel
theorem dX11_play_87 : decode cX11_play 87 = .ok (.istore 6, 2) := by decide +kernel
theorem dX11_play_89 : decode cX11_play 89 = .ok (.iload 6, 2) := by decide +kernel
theorem dX11_play_91 : decode cX11_play 91 = .ok (.aload_n 0, 1) := by decide +kernel
theorem dX11_play_92 : decode cX11_play 92 = .ok (.getfield 56, 3) := by decide +kernel
theorem dX11_play_95 : decode cX11_play 95 = .ok (.getfield 344, 3) := by decide +kernel
theorem dX11_play_98 : decode cX11_play 98 = .ok (.if_icmp .ge 43, 3) := by decide +kernel
theorem dX11_play_101 : decode cX11_play 101 = .ok (.iload 4, 2) := by decide +kernel
theorem dX11_play_103 : decode cX11_play 103 = .ok (.ifCond .ne 38, 3) := by decide +kernel
theorem dX11_play_106 : decode cX11_play 106 = .ok (.aload_n 0, 1) := by decide +kernel
theorem dX11_play_107 : decode cX11_play 107 = .ok (.iload 6, 2) := by decide +kernel
theorem dX11_play_109 : decode cX11_play 109 = .ok (.invokevirtual 352, 3) := by decide +kernel
theorem dX11_play_112 : decode cX11_play 112 = .ok (.ifCond .ne 7, 3) := by decide +kernel
theorem dX11_play_115 : decode cX11_play 115 = .ok (.iconst 1, 1) := by decide +kernel
theorem dX11_play_116 : decode cX11_play 116 = .ok (.goto 4, 3) := by decide +kernel
theorem dX11_play_119 : decode cX11_play 119 = .ok (.iconst 0, 1) := by decide +kernel
theorem dX11_play_120 : decode cX11_play 120 = .ok (.istore 4, 2) := by decide +kernel
theorem dX11_play_122 : decode cX11_play 122 = .ok (.iload_n 3, 1) := by decide +kernel
theorem dX11_play_123 : decode cX11_play 123 = .ok (.iload 4, 2) := by decide +kernel
theorem dX11_play_125 : decode cX11_play 125 = .ok (.ifCond .eq 7, 3) := by decide +kernel
theorem dX11_play_128 : decode cX11_play 128 = .ok (.iconst 0, 1) := by decide +kernel
theorem dX11_play_129 : decode cX11_play 129 = .ok (.goto 4, 3) := by decide +kernel
theorem dX11_play_132 : decode cX11_play 132 = .ok (.iconst 1, 1) := by decide +kernel
theorem dX11_play_133 : decode cX11_play 133 = .ok (.iadd, 1) := by decide +kernel
theorem dX11_play_134 : decode cX11_play 134 = .ok (.istore_n 3, 1) := by decide +kernel
theorem dX11_play_135 : decode cX11_play 135 = .ok (.iinc 6 1, 3) := by decide +kernel
theorem dX11_play_138 : decode cX11_play 138 = .ok (.goto (-49), 3) := by decide +kernel
theorem dX11_play_141 : decode cX11_play 141 = .ok (.iinc 5 1, 3) := by decide +kernel
theorem dX11_play_144 : decode cX11_play 144 = .ok (.goto (-69), 3) := by decide +kernel
theorem dX11_play_147 : decode cX11_play 147 = .ok (.iload_n 2, 1) := by decide +kernel
theorem dX11_play_148 : decode cX11_play 148 = .ok (.ifCond .eq 10, 3) := by decide +kernel
theorem dX11_play_151 : decode cX11_play 151 = .ok (.aload_n 0, 1) := by decide +kernel
theorem dX11_play_152 : decode cX11_play 152 = .ok (.getfield 42, 3) := by decide +kernel
theorem dX11_play_155 : decode cX11_play 155 = .ok (.invokevirtual 218, 3) := by decide +kernel
theorem dX11_play_158 : decode cX11_play 158 = .ok (.iload_n 3, 1) := by decide +kernel
theorem dX11_play_159 : decode cX11_play 159 = .ok (.ireturn, 1) := by decide +kernel
theorem dX11_count_0 : decode cX11_count 0 = .ok (.iload_n 1, 1) := by decide +kernel
theorem dX11_count_1 : decode cX11_count 1 = .ok (.tableswitch 114 0 7 #[47, 55, 63, 71, 79, 87, 95, 106], 47) := by decide +kernel
theorem dX11_count_48 : decode cX11_count 48 = .ok (.aload_n 0, 1) := by decide +kernel
theorem dX11_count_49 : decode cX11_count 49 = .ok (.getfield 10, 3) := by decide +kernel
theorem dX11_count_52 : decode cX11_count 52 = .ok (.getfield 144, 3) := by decide +kernel
theorem dX11_count_55 : decode cX11_count 55 = .ok (.ireturn, 1) := by decide +kernel
theorem dX11_count_56 : decode cX11_count 56 = .ok (.aload_n 0, 1) := by decide +kernel
theorem dX11_count_57 : decode cX11_count 57 = .ok (.getfield 10, 3) := by decide +kernel
theorem dX11_count_60 : decode cX11_count 60 = .ok (.getfield 116, 3) := by decide +kernel
theorem dX11_count_63 : decode cX11_count 63 = .ok (.ireturn, 1) := by decide +kernel
theorem dX11_count_64 : decode cX11_count 64 = .ok (.aload_n 0, 1) := by decide +kernel
theorem dX11_count_65 : decode cX11_count 65 = .ok (.getfield 10, 3) := by decide +kernel
theorem dX11_count_68 : decode cX11_count 68 = .ok (.getfield 267, 3) := by decide +kernel
theorem dX11_count_71 : decode cX11_count 71 = .ok (.ireturn, 1) := by decide +kernel
theorem dX11_count_72 : decode cX11_count 72 = .ok (.aload_n 0, 1) := by decide +kernel
theorem dX11_count_73 : decode cX11_count 73 = .ok (.getfield 10, 3) := by decide +kernel
theorem dX11_count_76 : decode cX11_count 76 = .ok (.invokevirtual 355, 3) := by decide +kernel
theorem dX11_count_79 : decode cX11_count 79 = .ok (.ireturn, 1) := by decide +kernel
theorem dX11_count_80 : decode cX11_count 80 = .ok (.aload_n 0, 1) := by decide +kernel
theorem dX11_count_81 : decode cX11_count 81 = .ok (.getfield 10, 3) := by decide +kernel
theorem dX11_count_84 : decode cX11_count 84 = .ok (.invokevirtual 327, 3) := by decide +kernel
theorem dX11_count_87 : decode cX11_count 87 = .ok (.ireturn, 1) := by decide +kernel
theorem dX11_count_88 : decode cX11_count 88 = .ok (.aload_n 0, 1) := by decide +kernel
theorem dX11_count_89 : decode cX11_count 89 = .ok (.getfield 21, 3) := by decide +kernel
theorem dX11_count_92 : decode cX11_count 92 = .ok (.getfield 89, 3) := by decide +kernel
theorem dX11_count_95 : decode cX11_count 95 = .ok (.ireturn, 1) := by decide +kernel
theorem dX11_count_96 : decode cX11_count 96 = .ok (.aload_n 0, 1) := by decide +kernel
theorem dX11_count_97 : decode cX11_count 97 = .ok (.getfield 28, 3) := by decide +kernel
theorem dX11_count_100 : decode cX11_count 100 = .ok (.getfield 358, 3) := by decide +kernel
theorem dX11_count_103 : decode cX11_count 103 = .ok (.getfield 89, 3) := by decide +kernel
theorem dX11_count_106 : decode cX11_count 106 = .ok (.ireturn, 1) := by decide +kernel
theorem dX11_count_107 : decode cX11_count 107 = .ok (.aload_n 0, 1) := by decide +kernel
theorem dX11_count_108 : decode cX11_count 108 = .ok (.getfield 10, 3) := by decide +kernel
theorem dX11_count_111 : decode cX11_count 111 = .ok (.invokevirtual 360, 3) := by decide +kernel
theorem dX11_count_114 : decode cX11_count 114 = .ok (.ireturn, 1) := by decide +kernel
theorem dX11_count_115 : decode cX11_count 115 = .ok (.new 82, 3) := by decide +kernel
theorem dX11_count_118 : decode cX11_count 118 = .ok (.dup, 1) := by decide +kernel
theorem dX11_count_119 : decode cX11_count 119 = .ok (.ldc_w 262, 3) := by decide +kernel
theorem dX11_count_122 : decode cX11_count 122 = .ok (.invokespecial 86, 3) := by decide +kernel
theorem dX11_count_125 : decode cX11_count 125 = .ok (.athrow, 1) := by decide +kernel
theorem dX11_letterAt_0 : decode cX11_letterAt 0 = .ok (.iload_n 1, 1) := by decide +kernel
theorem dX11_letterAt_1 : decode cX11_letterAt 1 = .ok (.ifCond .lt 14, 3) := by decide +kernel
theorem dX11_letterAt_4 : decode cX11_letterAt 4 = .ok (.iload_n 1, 1) := by decide +kernel
theorem dX11_letterAt_5 : decode cX11_letterAt 5 = .ok (.aload_n 0, 1) := by decide +kernel
theorem dX11_letterAt_6 : decode cX11_letterAt 6 = .ok (.getfield 10, 3) := by decide +kernel
theorem dX11_letterAt_9 : decode cX11_letterAt 9 = .ok (.getfield 144, 3) := by decide +kernel
theorem dX11_letterAt_12 : decode cX11_letterAt 12 = .ok (.if_icmp .lt 14, 3) := by decide +kernel
theorem dX11_letterAt_15 : decode cX11_letterAt 15 = .ok (.new 119, 3) := by decide +kernel
theorem dX11_letterAt_18 : decode cX11_letterAt 18 = .ok (.dup, 1) := by decide +kernel
theorem dX11_letterAt_19 : decode cX11_letterAt 19 = .ok (.ldc_w 363, 3) := by decide +kernel
theorem dX11_letterAt_22 : decode cX11_letterAt 22 = .ok (.invokespecial 123, 3) := by decide +kernel
theorem dX11_letterAt_25 : decode cX11_letterAt 25 = .ok (.athrow, 1) := by decide +kernel
theorem dX11_letterAt_26 : decode cX11_letterAt 26 = .ok (.aload_n 0, 1) := by decide +kernel
theorem dX11_letterAt_27 : decode cX11_letterAt 27 = .ok (.getfield 10, 3) := by decide +kernel
theorem dX11_letterAt_30 : decode cX11_letterAt 30 = .ok (.getfield 104, 3) := by decide +kernel
theorem dX11_letterAt_33 : decode cX11_letterAt 33 = .ok (.iload_n 1, 1) := by decide +kernel
theorem dX11_letterAt_34 : decode cX11_letterAt 34 = .ok (.baload, 1) := by decide +kernel
theorem dX11_letterAt_35 : decode cX11_letterAt 35 = .ok (.ireturn, 1) := by decide +kernel
theorem dX11_lineOf_0 : decode cX11_lineOf 0 = .ok (.aload_n 0, 1) := by decide +kernel
theorem dX11_lineOf_1 : decode cX11_lineOf 1 = .ok (.iload_n 1, 1) := by decide +kernel
theorem dX11_lineOf_2 : decode cX11_lineOf 2 = .ok (.invokevirtual 264, 3) := by decide +kernel
theorem dX11_lineOf_5 : decode cX11_lineOf 5 = .ok (.aload_n 0, 1) := by decide +kernel
theorem dX11_lineOf_6 : decode cX11_lineOf 6 = .ok (.getfield 10, 3) := by decide +kernel
theorem dX11_lineOf_9 : decode cX11_lineOf 9 = .ok (.iload_n 1, 1) := by decide +kernel
theorem dX11_lineOf_10 : decode cX11_lineOf 10 = .ok (.invokevirtual 365, 3) := by decide +kernel
theorem dX11_lineOf_13 : decode cX11_lineOf 13 = .ok (.ireturn, 1) := by decide +kernel
theorem dX11_columnOf_0 : decode cX11_columnOf 0 = .ok (.aload_n 0, 1) := by decide +kernel
theorem dX11_columnOf_1 : decode cX11_columnOf 1 = .ok (.iload_n 1, 1) := by decide +kernel
theorem dX11_columnOf_2 : decode cX11_columnOf 2 = .ok (.invokevirtual 264, 3) := by decide +kernel
theorem dX11_columnOf_5 : decode cX11_columnOf 5 = .ok (.aload_n 0, 1) := by decide +kernel
theorem dX11_columnOf_6 : decode cX11_columnOf 6 = .ok (.getfield 10, 3) := by decide +kernel
theorem dX11_columnOf_9 : decode cX11_columnOf 9 = .ok (.iload_n 1, 1) := by decide +kernel
theorem dX11_columnOf_10 : decode cX11_columnOf 10 = .ok (.aload_n 0, 1) := by decide +kernel
theorem dX11_columnOf_11 : decode cX11_columnOf 11 = .ok (.getfield 74, 3) := by decide +kernel
theorem dX11_columnOf_14 : decode cX11_columnOf 14 = .ok (.invokevirtual 368, 3) := by decide +kernel
theorem dX11_columnOf_17 : decode cX11_columnOf 17 = .ok (.ireturn, 1) := by decide +kernel
theorem dX11_placeAt_0 : decode cX11_placeAt 0 = .ok (.aload_n 0, 1) := by decide +kernel
theorem dX11_placeAt_1 : decode cX11_placeAt 1 = .ok (.iload_n 1, 1) := by decide +kernel
theorem dX11_placeAt_2 : decode cX11_placeAt 2 = .ok (.invokevirtual 112, 3) := by decide +kernel
theorem dX11_placeAt_5 : decode cX11_placeAt 5 = .ok (.iload_n 2, 1) := by decide +kernel
theorem dX11_placeAt_6 : decode cX11_placeAt 6 = .ok (.ifCond .ge 14, 3) := by decide +kernel
theorem dX11_placeAt_9 : decode cX11_placeAt 9 = .ok (.new 82, 3) := by decide +kernel
theorem dX11_placeAt_12 : decode cX11_placeAt 12 = .ok (.dup, 1) := by decide +kernel
theorem dX11_placeAt_13 : decode cX11_placeAt 13 = .ok (.ldc_w 371, 3) := by decide +kernel
theorem dX11_placeAt_16 : decode cX11_placeAt 16 = .ok (.invokespecial 86, 3) := by decide +kernel
theorem dX11_placeAt_19 : decode cX11_placeAt 19 = .ok (.athrow, 1) := by decide +kernel
theorem dX11_placeAt_20 : decode cX11_placeAt 20 = .ok (.aload_n 0, 1) := by decide +kernel
theorem dX11_placeAt_21 : decode cX11_placeAt 21 = .ok (.getfield 10, 3) := by decide +kernel
theorem dX11_placeAt_24 : decode cX11_placeAt 24 = .ok (.iload_n 1, 1) := by decide +kernel
theorem dX11_placeAt_25 : decode cX11_placeAt 25 = .ok (.iload_n 2, 1) := by decide +kernel
theorem dX11_placeAt_26 : decode cX11_placeAt 26 = .ok (.aload_n 0, 1) := by decide +kernel
theorem dX11_placeAt_27 : decode cX11_placeAt 27 = .ok (.getfield 74, 3) := by decide +kernel
theorem dX11_placeAt_30 : decode cX11_placeAt 30 = .ok (.invokevirtual 373, 3) := by decide +kernel
theorem dX11_placeAt_33 : decode cX11_placeAt 33 = .ok (.ireturn, 1) := by decide +kernel
theorem dX11_setTab_0 : decode cX11_setTab 0 = .ok (.iload_n 1, 1) := by decide +kernel
theorem dX11_setTab_1 : decode cX11_setTab 1 = .ok (.iconst 1, 1) := by decide +kernel
theorem dX11_setTab_2 : decode cX11_setTab 2 = .ok (.if_icmp .lt 9, 3) := by decide +kernel
theorem dX11_setTab_5 : decode cX11_setTab 5 = .ok (.iload_n 1, 1) := by decide +kernel
theorem dX11_setTab_6 : decode cX11_setTab 6 = .ok (.bipush 8, 2) := by decide +kernel
theorem dX11_setTab_8 : decode cX11_setTab 8 = .ok (.if_icmp .le 13, 3) := by decide +kernel
theorem dX11_setTab_11 : decode cX11_setTab 11 = .ok (.new 82, 3) := by decide +kernel
theorem dX11_setTab_14 : decode cX11_setTab 14 = .ok (.dup, 1) := by decide +kernel
theorem dX11_setTab_15 : decode cX11_setTab 15 = .ok (.ldc 182, 2) := by decide +kernel
theorem dX11_setTab_17 : decode cX11_setTab 17 = .ok (.invokespecial 86, 3) := by decide +kernel
theorem dX11_setTab_20 : decode cX11_setTab 20 = .ok (.athrow, 1) := by decide +kernel
theorem dX11_setTab_21 : decode cX11_setTab 21 = .ok (.aload_n 0, 1) := by decide +kernel
theorem dX11_setTab_22 : decode cX11_setTab 22 = .ok (.getfield 74, 3) := by decide +kernel
theorem dX11_setTab_25 : decode cX11_setTab 25 = .ok (.istore_n 2, 1) := by decide +kernel
theorem dX11_setTab_26 : decode cX11_setTab 26 = .ok (.aload_n 0, 1) := by decide +kernel
theorem dX11_setTab_27 : decode cX11_setTab 27 = .ok (.iload_n 1, 1) := by decide +kernel
theorem dX11_setTab_28 : decode cX11_setTab 28 = .ok (.putfield 74, 3) := by decide +kernel
theorem dX11_setTab_31 : decode cX11_setTab 31 = .ok (.iload_n 2, 1) := by decide +kernel
theorem dX11_setTab_32 : decode cX11_setTab 32 = .ok (.ireturn, 1) := by decide +kernel
theorem dX11_hash_0 : decode cX11_hash 0 = .ok (.aload_n 0, 1) := by decide +kernel
theorem dX11_hash_1 : decode cX11_hash 1 = .ok (.getfield 10, 3) := by decide +kernel
theorem dX11_hash_4 : decode cX11_hash 4 = .ok (.iconst 0, 1) := by decide +kernel
theorem dX11_hash_5 : decode cX11_hash 5 = .ok (.aload_n 0, 1) := by decide +kernel
theorem dX11_hash_6 : decode cX11_hash 6 = .ok (.getfield 10, 3) := by decide +kernel
theorem dX11_hash_9 : decode cX11_hash 9 = .ok (.getfield 144, 3) := by decide +kernel
theorem dX11_hash_12 : decode cX11_hash 12 = .ok (.invokevirtual 376, 3) := by decide +kernel
theorem dX11_hash_15 : decode cX11_hash 15 = .ok (.ireturn, 1) := by decide +kernel
theorem dX11_meanLine_0 : decode cX11_meanLine 0 = .ok (.aload_n 0, 1) := by decide +kernel
theorem dX11_meanLine_1 : decode cX11_meanLine 1 = .ok (.getfield 10, 3) := by decide +kernel
theorem dX11_meanLine_4 : decode cX11_meanLine 4 = .ok (.getfield 144, 3) := by decide +kernel
theorem dX11_meanLine_7 : decode cX11_meanLine 7 = .ok (.aload_n 0, 1) := by decide +kernel
theorem dX11_meanLine_8 : decode cX11_meanLine 8 = .ok (.getfield 10, 3) := by decide +kernel
theorem dX11_meanLine_11 : decode cX11_meanLine 11 = .ok (.getfield 116, 3) := by decide +kernel
theorem dX11_meanLine_14 : decode cX11_meanLine 14 = .ok (.iconst 1, 1) := by decide +kernel
theorem dX11_meanLine_15 : decode cX11_meanLine 15 = .ok (.isub, 1) := by decide +kernel
theorem dX11_meanLine_16 : decode cX11_meanLine 16 = .ok (.isub, 1) := by decide +kernel
theorem dX11_meanLine_17 : decode cX11_meanLine 17 = .ok (.istore_n 1, 1) := by decide +kernel
theorem dX11_meanLine_18 : decode cX11_meanLine 18 = .ok (.iload_n 1, 1) := by decide +kernel
theorem dX11_meanLine_19 : decode cX11_meanLine 19 = .ok (.i2d, 1) := by decide +kernel
theorem dX11_meanLine_20 : decode cX11_meanLine 20 = .ok (.aload_n 0, 1) := by decide +kernel
theorem dX11_meanLine_21 : decode cX11_meanLine 21 = .ok (.getfield 10, 3) := by decide +kernel
theorem dX11_meanLine_24 : decode cX11_meanLine 24 = .ok (.getfield 116, 3) := by decide +kernel
theorem dX11_meanLine_27 : decode cX11_meanLine 27 = .ok (.i2d, 1) := by decide +kernel
theorem dX11_meanLine_28 : decode cX11_meanLine 28 = .ok (.ddiv, 1) := by decide +kernel
theorem dX11_meanLine_29 : decode cX11_meanLine 29 = .ok (.dreturn, 1) := by decide +kernel
theorem dX11_keep_0 : decode cX11_keep 0 = .ok (.aload_n 0, 1) := by decide +kernel
theorem dX11_keep_1 : decode cX11_keep 1 = .ok (.getfield 63, 3) := by decide +kernel
theorem dX11_keep_4 : decode cX11_keep 4 = .ok (.getfield 379, 3) := by decide +kernel
theorem dX11_keep_7 : decode cX11_keep 7 = .ok (.aload_n 0, 1) := by decide +kernel
theorem dX11_keep_8 : decode cX11_keep 8 = .ok (.getfield 10, 3) := by decide +kernel
theorem dX11_keep_11 : decode cX11_keep 11 = .ok (.invokevirtual 382, 3) := by decide +kernel
theorem dX11_keep_14 : decode cX11_keep 14 = .ok (.aload_n 0, 1) := by decide +kernel
theorem dX11_keep_15 : decode cX11_keep 15 = .ok (.getfield 10, 3) := by decide +kernel
theorem dX11_keep_18 : decode cX11_keep 18 = .ok (.getfield 116, 3) := by decide +kernel
theorem dX11_keep_21 : decode cX11_keep 21 = .ok (.ireturn, 1) := by decide +kernel
theorem dX11_differences_0 : decode cX11_differences 0 = .ok (.aload_n 0, 1) := by decide +kernel
theorem dX11_differences_1 : decode cX11_differences 1 = .ok (.getfield 63, 3) := by decide +kernel
theorem dX11_differences_4 : decode cX11_differences 4 = .ok (.aload_n 0, 1) := by decide +kernel
theorem dX11_differences_5 : decode cX11_differences 5 = .ok (.getfield 10, 3) := by decide +kernel
theorem dX11_differences_8 : decode cX11_differences 8 = .ok (.invokevirtual 385, 3) := by decide +kernel
theorem dX11_differences_11 : decode cX11_differences 11 = .ok (.istore_n 1, 1) := by decide +kernel
theorem dX11_differences_12 : decode cX11_differences 12 = .ok (.aload_n 0, 1) := by decide +kernel
theorem dX11_differences_13 : decode cX11_differences 13 = .ok (.getfield 63, 3) := by decide +kernel
theorem dX11_differences_16 : decode cX11_differences 16 = .ok (.getfield 379, 3) := by decide +kernel
theorem dX11_differences_19 : decode cX11_differences 19 = .ok (.getfield 116, 3) := by decide +kernel
theorem dX11_differences_22 : decode cX11_differences 22 = .ok (.aload_n 0, 1) := by decide +kernel
theorem dX11_differences_23 : decode cX11_differences 23 = .ok (.getfield 10, 3) := by decide +kernel
theorem dX11_differences_26 : decode cX11_differences 26 = .ok (.getfield 116, 3) := by decide +kernel
theorem dX11_differences_29 : decode cX11_differences 29 = .ok (.iadd, 1) := by decide +kernel
theorem dX11_differences_30 : decode cX11_differences 30 = .ok (.iconst 2, 1) := by decide +kernel
theorem dX11_differences_31 : decode cX11_differences 31 = .ok (.iload_n 1, 1) := by decide +kernel
theorem dX11_differences_32 : decode cX11_differences 32 = .ok (.imul, 1) := by decide +kernel
theorem dX11_differences_33 : decode cX11_differences 33 = .ok (.isub, 1) := by decide +kernel
theorem dX11_differences_34 : decode cX11_differences 34 = .ok (.ireturn, 1) := by decide +kernel
theorem dX11_sameShare_0 : decode cX11_sameShare 0 = .ok (.aload_n 0, 1) := by decide +kernel
theorem dX11_sameShare_1 : decode cX11_sameShare 1 = .ok (.getfield 63, 3) := by decide +kernel
theorem dX11_sameShare_4 : decode cX11_sameShare 4 = .ok (.aload_n 0, 1) := by decide +kernel
theorem dX11_sameShare_5 : decode cX11_sameShare 5 = .ok (.getfield 10, 3) := by decide +kernel
theorem dX11_sameShare_8 : decode cX11_sameShare 8 = .ok (.invokevirtual 385, 3) := by decide +kernel
theorem dX11_sameShare_11 : decode cX11_sameShare 11 = .ok (.i2f, 1) := by decide +kernel
theorem dX11_sameShare_12 : decode cX11_sameShare 12 = .ok (.aload_n 0, 1) := by decide +kernel
theorem dX11_sameShare_13 : decode cX11_sameShare 13 = .ok (.getfield 10, 3) := by decide +kernel
theorem dX11_sameShare_16 : decode cX11_sameShare 16 = .ok (.getfield 116, 3) := by decide +kernel
theorem dX11_sameShare_19 : decode cX11_sameShare 19 = .ok (.i2f, 1) := by decide +kernel
theorem dX11_sameShare_20 : decode cX11_sameShare 20 = .ok (.fdiv, 1) := by decide +kernel
theorem dX11_sameShare_21 : decode cX11_sameShare 21 = .ok (.freturn, 1) := by decide +kernel
theorem dX11_errors_0 : decode cX11_errors 0 = .ok (.aload_n 0, 1) := by decide +kernel
theorem dX11_errors_1 : decode cX11_errors 1 = .ok (.getfield 42, 3) := by decide +kernel
theorem dX11_errors_4 : decode cX11_errors 4 = .ok (.invokevirtual 218, 3) := by decide +kernel
theorem dX11_errors_7 : decode cX11_errors 7 = .ok (.aload_n 0, 1) := by decide +kernel
theorem dX11_errors_8 : decode cX11_errors 8 = .ok (.getfield 10, 3) := by decide +kernel
theorem dX11_errors_11 : decode cX11_errors 11 = .ok (.invokevirtual 388, 3) := by decide +kernel
theorem dX11_errors_14 : decode cX11_errors 14 = .ok (.ifCond .eq 7, 3) := by decide +kernel
theorem dX11_errors_17 : decode cX11_errors 17 = .ok (.iconst 0, 1) := by decide +kernel
theorem dX11_errors_18 : decode cX11_errors 18 = .ok (.goto 4, 3) := by decide +kernel
theorem dX11_errors_21 : decode cX11_errors 21 = .ok (.iconst 1, 1) := by decide +kernel
theorem dX11_errors_22 : decode cX11_errors 22 = .ok (.istore_n 1, 1) := by decide +kernel
theorem dX11_errors_23 : decode cX11_errors 23 = .ok (.aload_n 0, 1) := by decide +kernel
theorem dX11_errors_24 : decode cX11_errors 24 = .ok (.getfield 63, 3) := by decide +kernel
theorem dX11_errors_27 : decode cX11_errors 27 = .ok (.getfield 391, 3) := by decide +kernel
theorem dX11_errors_30 : decode cX11_errors 30 = .ok (.astore_n 2, 1) := by decide +kernel
theorem dX11_errors_31 : decode cX11_errors 31 = .ok (.aload_n 2, 1) := by decide +kernel
theorem dX11_errors_32 : decode cX11_errors 32 = .ok (.aload_n 0, 1) := by decide +kernel
theorem dX11_errors_33 : decode cX11_errors 33 = .ok (.getfield 10, 3) := by decide +kernel
theorem dX11_errors_36 : decode cX11_errors 36 = .ok (.invokevirtual 382, 3) := by decide +kernel
theorem dX11_errors_39 : decode cX11_errors 39 = .ok (.aload_n 0, 1) := by decide +kernel
theorem dX11_errors_40 : decode cX11_errors 40 = .ok (.getfield 42, 3) := by decide +kernel
theorem dX11_errors_43 : decode cX11_errors 43 = .ok (.aload_n 0, 1) := by decide +kernel
theorem dX11_errors_44 : decode cX11_errors 44 = .ok (.getfield 10, 3) := by decide +kernel
theorem dX11_errors_47 : decode cX11_errors 47 = .ok (.sipush 150, 3) := by decide +kernel
theorem dX11_errors_50 : decode cX11_errors 50 = .ok (.invokevirtual 221, 3) := by decide +kernel
theorem dX11_errors_53 : decode cX11_errors 53 = .ok (.istore_n 3, 1) := by decide +kernel
theorem dX11_errors_54 : decode cX11_errors 54 = .ok (.aload_n 0, 1) := by decide +kernel
theorem dX11_errors_55 : decode cX11_errors 55 = .ok (.getfield 42, 3) := by decide +kernel
theorem dX11_errors_58 : decode cX11_errors 58 = .ok (.aload_n 0, 1) := by decide +kernel
theorem dX11_errors_59 : decode cX11_errors 59 = .ok (.getfield 10, 3) := by decide +kernel
theorem dX11_errors_62 : decode cX11_errors 62 = .ok (.iload_n 3, 1) := by decide +kernel
theorem dX11_errors_63 : decode cX11_errors 63 = .ok (.invokevirtual 224, 3) := by decide +kernel
theorem dX11_errors_66 : decode cX11_errors 66 = .ok (.pop, 1) := by decide +kernel
theorem dX11_errors_67 : decode cX11_errors 67 = .ok (.iload_n 1, 1) := by decide +kernel
theorem dX11_errors_68 : decode cX11_errors 68 = .ok (.aload_n 0, 1) := by decide +kernel
theorem dX11_errors_69 : decode cX11_errors 69 = .ok (.getfield 10, 3) := by decide +kernel
theorem dX11_errors_72 : decode cX11_errors 72 = .ok (.aload_n 2, 1) := by decide +kernel
theorem dX11_errors_73 : decode cX11_errors 73 = .ok (.invokevirtual 394, 3) := by decide +kernel
theorem dX11_errors_76 : decode cX11_errors 76 = .ok (.iadd, 1) := by decide +kernel
theorem dX11_errors_77 : decode cX11_errors 77 = .ok (.ireturn, 1) := by decide +kernel
theorem dX11_requirePlace_0 : decode cX11_requirePlace 0 = .ok (.iload_n 1, 1) := by decide +kernel
theorem dX11_requirePlace_1 : decode cX11_requirePlace 1 = .ok (.ifCond .lt 14, 3) := by decide +kernel
theorem dX11_requirePlace_4 : decode cX11_requirePlace 4 = .ok (.iload_n 1, 1) := by decide +kernel
theorem dX11_requirePlace_5 : decode cX11_requirePlace 5 = .ok (.aload_n 0, 1) := by decide +kernel
theorem dX11_requirePlace_6 : decode cX11_requirePlace 6 = .ok (.getfield 10, 3) := by decide +kernel
theorem dX11_requirePlace_9 : decode cX11_requirePlace 9 = .ok (.getfield 144, 3) := by decide +kernel
theorem dX11_requirePlace_12 : decode cX11_requirePlace 12 = .ok (.if_icmp .le 14, 3) := by decide +kernel
theorem dX11_requirePlace_15 : decode cX11_requirePlace 15 = .ok (.new 119, 3) := by decide +kernel
theorem dX11_requirePlace_18 : decode cX11_requirePlace 18 = .ok (.dup, 1) := by decide +kernel
theorem dX11_requirePlace_19 : decode cX11_requirePlace 19 = .ok (.ldc_w 397, 3) := by decide +kernel
theorem dX11_requirePlace_22 : decode cX11_requirePlace 22 = .ok (.invokespecial 123, 3) := by decide +kernel
theorem dX11_requirePlace_25 : decode cX11_requirePlace 25 = .ok (.athrow, 1) := by decide +kernel
theorem dX11_requirePlace_26 : decode cX11_requirePlace 26 = .ok (.return_, 1) := by decide +kernel
theorem dX11_requirePart_0 : decode cX11_requirePart 0 = .ok (.aload_n 0, 1) := by decide +kernel
theorem dX11_requirePart_1 : decode cX11_requirePart 1 = .ok (.iload_n 1, 1) := by decide +kernel
theorem dX11_requirePart_2 : decode cX11_requirePart 2 = .ok (.invokevirtual 264, 3) := by decide +kernel
theorem dX11_requirePart_5 : decode cX11_requirePart 5 = .ok (.aload_n 0, 1) := by decide +kernel
theorem dX11_requirePart_6 : decode cX11_requirePart 6 = .ok (.iload_n 2, 1) := by decide +kernel
theorem dX11_requirePart_7 : decode cX11_requirePart 7 = .ok (.invokevirtual 264, 3) := by decide +kernel
theorem dX11_requirePart_10 : decode cX11_requirePart 10 = .ok (.iload_n 1, 1) := by decide +kernel
theorem dX11_requirePart_11 : decode cX11_requirePart 11 = .ok (.iload_n 2, 1) := by decide +kernel
theorem dX11_requirePart_12 : decode cX11_requirePart 12 = .ok (.if_icmp .le 13, 3) := by decide +kernel
theorem dX11_requirePart_15 : decode cX11_requirePart 15 = .ok (.new 82, 3) := by decide +kernel
theorem dX11_requirePart_18 : decode cX11_requirePart 18 = .ok (.dup, 1) := by decide +kernel
theorem dX11_requirePart_19 : decode cX11_requirePart 19 = .ok (.ldc 195, 2) := by decide +kernel
theorem dX11_requirePart_21 : decode cX11_requirePart 21 = .ok (.invokespecial 86, 3) := by decide +kernel
theorem dX11_requirePart_24 : decode cX11_requirePart 24 = .ok (.athrow, 1) := by decide +kernel
theorem dX11_requirePart_25 : decode cX11_requirePart 25 = .ok (.return_, 1) := by decide +kernel
theorem dX11_requireLine_0 : decode cX11_requireLine 0 = .ok (.iload_n 1, 1) := by decide +kernel
theorem dX11_requireLine_1 : decode cX11_requireLine 1 = .ok (.ifCond .lt 14, 3) := by decide +kernel
theorem dX11_requireLine_4 : decode cX11_requireLine 4 = .ok (.iload_n 1, 1) := by decide +kernel
theorem dX11_requireLine_5 : decode cX11_requireLine 5 = .ok (.aload_n 0, 1) := by decide +kernel
theorem dX11_requireLine_6 : decode cX11_requireLine 6 = .ok (.getfield 10, 3) := by decide +kernel
theorem dX11_requireLine_9 : decode cX11_requireLine 9 = .ok (.getfield 116, 3) := by decide +kernel
theorem dX11_requireLine_12 : decode cX11_requireLine 12 = .ok (.if_icmp .lt 14, 3) := by decide +kernel
theorem dX11_requireLine_15 : decode cX11_requireLine 15 = .ok (.new 119, 3) := by decide +kernel
theorem dX11_requireLine_18 : decode cX11_requireLine 18 = .ok (.dup, 1) := by decide +kernel
theorem dX11_requireLine_19 : decode cX11_requireLine 19 = .ok (.ldc_w 399, 3) := by decide +kernel
theorem dX11_requireLine_22 : decode cX11_requireLine 22 = .ok (.invokespecial 123, 3) := by decide +kernel
theorem dX11_requireLine_25 : decode cX11_requireLine 25 = .ok (.athrow, 1) := by decide +kernel
theorem dX11_requireLine_26 : decode cX11_requireLine 26 = .ok (.return_, 1) := by decide +kernel
theorem dX11_requireMark_0 : decode cX11_requireMark 0 = .ok (.iload_n 1, 1) := by decide +kernel
theorem dX11_requireMark_1 : decode cX11_requireMark 1 = .ok (.ifCond .lt 9, 3) := by decide +kernel
theorem dX11_requireMark_4 : decode cX11_requireMark 4 = .ok (.iload_n 1, 1) := by decide +kernel
theorem dX11_requireMark_5 : decode cX11_requireMark 5 = .ok (.bipush 16, 2) := by decide +kernel
theorem dX11_requireMark_7 : decode cX11_requireMark 7 = .ok (.if_icmp .lt 14, 3) := by decide +kernel
theorem dX11_requireMark_10 : decode cX11_requireMark 10 = .ok (.new 119, 3) := by decide +kernel
theorem dX11_requireMark_13 : decode cX11_requireMark 13 = .ok (.dup, 1) := by decide +kernel
theorem dX11_requireMark_14 : decode cX11_requireMark 14 = .ok (.ldc_w 401, 3) := by decide +kernel
theorem dX11_requireMark_17 : decode cX11_requireMark 17 = .ok (.invokespecial 123, 3) := by decide +kernel
theorem dX11_requireMark_20 : decode cX11_requireMark 20 = .ok (.athrow, 1) := by decide +kernel
theorem dX11_requireMark_21 : decode cX11_requireMark 21 = .ok (.return_, 1) := by decide +kernel
theorem dX11_requireView_0 : decode cX11_requireView 0 = .ok (.iload_n 1, 1) := by decide +kernel
theorem dX11_requireView_1 : decode cX11_requireView 1 = .ok (.ifCond .lt 8, 3) := by decide +kernel
theorem dX11_requireView_4 : decode cX11_requireView 4 = .ok (.iload_n 1, 1) := by decide +kernel
theorem dX11_requireView_5 : decode cX11_requireView 5 = .ok (.iconst 2, 1) := by decide +kernel
theorem dX11_requireView_6 : decode cX11_requireView 6 = .ok (.if_icmp .lt 14, 3) := by decide +kernel
theorem dX11_requireView_9 : decode cX11_requireView 9 = .ok (.new 119, 3) := by decide +kernel
theorem dX11_requireView_12 : decode cX11_requireView 12 = .ok (.dup, 1) := by decide +kernel
theorem dX11_requireView_13 : decode cX11_requireView 13 = .ok (.ldc_w 403, 3) := by decide +kernel
theorem dX11_requireView_16 : decode cX11_requireView 16 = .ok (.invokespecial 123, 3) := by decide +kernel
theorem dX11_requireView_19 : decode cX11_requireView 19 = .ok (.athrow, 1) := by decide +kernel
theorem dX11_requireView_20 : decode cX11_requireView 20 = .ok (.return_, 1) := by decide +kernel
theorem dX11_perform_0 : decode cX11_perform 0 = .ok (.aload_n 0, 1) := by decide +kernel
theorem dX11_perform_1 : decode cX11_perform 1 = .ok (.getfield 35, 3) := by decide +kernel
theorem dX11_perform_4 : decode cX11_perform 4 = .ok (.getfield 179, 3) := by decide +kernel
theorem dX11_perform_7 : decode cX11_perform 7 = .ok (.ifCond .ne 5, 3) := by decide +kernel
theorem dX11_perform_10 : decode cX11_perform 10 = .ok (.iconst 1, 1) := by decide +kernel
theorem dX11_perform_11 : decode cX11_perform 11 = .ok (.ireturn, 1) := by decide +kernel
theorem dX11_perform_12 : decode cX11_perform 12 = .ok (.aload_n 0, 1) := by decide +kernel
theorem dX11_perform_13 : decode cX11_perform 13 = .ok (.getfield 42, 3) := by decide +kernel
theorem dX11_perform_16 : decode cX11_perform 16 = .ok (.invokevirtual 405, 3) := by decide +kernel
theorem dX11_perform_19 : decode cX11_perform 19 = .ok (.ifCond .eq 17, 3) := by decide +kernel
theorem dX11_perform_22 : decode cX11_perform 22 = .ok (.aload_n 0, 1) := by decide +kernel
theorem dX11_perform_23 : decode cX11_perform 23 = .ok (.getfield 35, 3) := by decide +kernel
theorem dX11_perform_26 : decode cX11_perform 26 = .ok (.aload_n 0, 1) := by decide +kernel
theorem dX11_perform_27 : decode cX11_perform 27 = .ok (.getfield 10, 3) := by decide +kernel
theorem dX11_perform_30 : decode cX11_perform 30 = .ok (.invokevirtual 408, 3) := by decide +kernel
theorem dX11_perform_33 : decode cX11_perform 33 = .ok (.ifCond .ne 5, 3) := by decide +kernel
theorem dX11_perform_36 : decode cX11_perform 36 = .ok (.iconst 0, 1) := by decide +kernel
theorem dX11_perform_37 : decode cX11_perform 37 = .ok (.ireturn, 1) := by decide +kernel
theorem dX11_perform_38 : decode cX11_perform 38 = .ok (.aload_n 0, 1) := by decide +kernel
theorem dX11_perform_39 : decode cX11_perform 39 = .ok (.getfield 42, 3) := by decide +kernel
theorem dX11_perform_42 : decode cX11_perform 42 = .ok (.aload_n 0, 1) := by decide +kernel
theorem dX11_perform_43 : decode cX11_perform 43 = .ok (.getfield 10, 3) := by decide +kernel
theorem dX11_perform_46 : decode cX11_perform 46 = .ok (.invokevirtual 412, 3) := by decide +kernel
theorem dX11_perform_49 : decode cX11_perform 49 = .ok (.aload_n 0, 1) := by decide +kernel
theorem dX11_perform_50 : decode cX11_perform 50 = .ok (.getfield 35, 3) := by decide +kernel
theorem dX11_perform_53 : decode cX11_perform 53 = .ok (.aload_n 0, 1) := by decide +kernel
theorem dX11_perform_54 : decode cX11_perform 54 = .ok (.getfield 10, 3) := by decide +kernel
theorem dX11_perform_57 : decode cX11_perform 57 = .ok (.invokevirtual 415, 3) := by decide +kernel
theorem dX11_perform_60 : decode cX11_perform 60 = .ok (.iconst 1, 1) := by decide +kernel
theorem dX11_perform_61 : decode cX11_perform 61 = .ok (.ireturn, 1) := by decide +kernel
theorem dX11_planAtCursors_0 : decode cX11_planAtCursors 0 = .ok (.aload_n 0, 1) := by decide +kernel
theorem dX11_planAtCursors_1 : decode cX11_planAtCursors 1 = .ok (.getfield 35, 3) := by decide +kernel
theorem dX11_planAtCursors_4 : decode cX11_planAtCursors 4 = .ok (.aload_n 1, 1) := by decide +kernel
theorem dX11_planAtCursors_5 : decode cX11_planAtCursors 5 = .ok (.iload_n 2, 1) := by decide +kernel
theorem dX11_planAtCursors_6 : decode cX11_planAtCursors 6 = .ok (.iload_n 3, 1) := by decide +kernel
theorem dX11_planAtCursors_7 : decode cX11_planAtCursors 7 = .ok (.invokevirtual 153, 3) := by decide +kernel
theorem dX11_planAtCursors_10 : decode cX11_planAtCursors 10 = .ok (.iconst 0, 1) := by decide +kernel
theorem dX11_planAtCursors_11 : decode cX11_planAtCursors 11 = .ok (.istore 4, 2) := by decide +kernel
theorem dX11_planAtCursors_13 : decode cX11_planAtCursors 13 = .ok (.iload 4, 2) := by decide +kernel
theorem dX11_planAtCursors_15 : decode cX11_planAtCursors 15 = .ok (.aload_n 0, 1) := by decide +kernel
theorem dX11_planAtCursors_16 : decode cX11_planAtCursors 16 = .ok (.getfield 10, 3) := by decide +kernel
theorem dX11_planAtCursors_19 : decode cX11_planAtCursors 19 = .ok (.getfield 267, 3) := by decide +kernel
theorem dX11_planAtCursors_22 : decode cX11_planAtCursors 22 = .ok (.if_icmp .ge 33, 3) := by decide +kernel
theorem dX11_planAtCursors_25 : decode cX11_planAtCursors 25 = .ok (.aload_n 0, 1) := by decide +kernel
theorem dX11_planAtCursors_26 : decode cX11_planAtCursors 26 = .ok (.getfield 10, 3) := by decide +kernel
theorem dX11_planAtCursors_29 : decode cX11_planAtCursors 29 = .ok (.getfield 205, 3) := by decide +kernel
theorem dX11_planAtCursors_32 : decode cX11_planAtCursors 32 = .ok (.iload 4, 2) := by decide +kernel
theorem dX11_planAtCursors_34 : decode cX11_planAtCursors 34 = .ok (.iaload, 1) := by decide +kernel
theorem dX11_planAtCursors_35 : decode cX11_planAtCursors 35 = .ok (.istore 5, 2) := by decide +kernel
theorem dX11_planAtCursors_37 : decode cX11_planAtCursors 37 = .ok (.aload_n 0, 1) := by decide +kernel
theorem dX11_planAtCursors_38 : decode cX11_planAtCursors 38 = .ok (.getfield 35, 3) := by decide +kernel
theorem dX11_planAtCursors_41 : decode cX11_planAtCursors 41 = .ok (.iload 5, 2) := by decide +kernel
theorem dX11_planAtCursors_43 : decode cX11_planAtCursors 43 = .ok (.iload 5, 2) := by decide +kernel
theorem dX11_planAtCursors_45 : decode cX11_planAtCursors 45 = .ok (.iload_n 3, 1) := by decide +kernel
theorem dX11_planAtCursors_46 : decode cX11_planAtCursors 46 = .ok (.invokevirtual 156, 3) := by decide +kernel
theorem dX11_planAtCursors_49 : decode cX11_planAtCursors 49 = .ok (.iinc 4 1, 3) := by decide +kernel
theorem dX11_planAtCursors_52 : decode cX11_planAtCursors 52 = .ok (.goto (-39), 3) := by decide +kernel
theorem dX11_planAtCursors_55 : decode cX11_planAtCursors 55 = .ok (.return_, 1) := by decide +kernel
theorem dX11_planErasing_0 : decode cX11_planErasing 0 = .ok (.aload_n 0, 1) := by decide +kernel
theorem dX11_planErasing_1 : decode cX11_planErasing 1 = .ok (.getfield 35, 3) := by decide +kernel
theorem dX11_planErasing_4 : decode cX11_planErasing 4 = .ok (.aload_n 0, 1) := by decide +kernel
theorem dX11_planErasing_5 : decode cX11_planErasing 5 = .ok (.getfield 21, 3) := by decide +kernel
theorem dX11_planErasing_8 : decode cX11_planErasing 8 = .ok (.getfield 130, 3) := by decide +kernel
theorem dX11_planErasing_11 : decode cX11_planErasing 11 = .ok (.iconst 0, 1) := by decide +kernel
theorem dX11_planErasing_12 : decode cX11_planErasing 12 = .ok (.iconst 0, 1) := by decide +kernel
theorem dX11_planErasing_13 : decode cX11_planErasing 13 = .ok (.invokevirtual 153, 3) := by decide +kernel
theorem dX11_planErasing_16 : decode cX11_planErasing 16 = .ok (.iconst 0, 1) := by decide +kernel
theorem dX11_planErasing_17 : decode cX11_planErasing 17 = .ok (.istore_n 2, 1) := by decide +kernel
theorem dX11_planErasing_18 : decode cX11_planErasing 18 = .ok (.iconst 0, 1) := by decide +kernel
theorem dX11_planErasing_19 : decode cX11_planErasing 19 = .ok (.istore_n 3, 1) := by decide +kernel
theorem dX11_planErasing_20 : decode cX11_planErasing 20 = .ok (.iload_n 3, 1) := by decide +kernel
theorem dX11_planErasing_21 : decode cX11_planErasing 21 = .ok (.aload_n 0, 1) := by decide +kernel
theorem dX11_planErasing_22 : decode cX11_planErasing 22 = .ok (.getfield 10, 3) := by decide +kernel
theorem dX11_planErasing_25 : decode cX11_planErasing 25 = .ok (.getfield 267, 3) := by decide +kernel
theorem dX11_planErasing_28 : decode cX11_planErasing 28 = .ok (.if_icmp .ge 74, 3) := by decide +kernel
theorem dX11_planErasing_31 : decode cX11_planErasing 31 = .ok (.aload_n 0, 1) := by decide +kernel
theorem dX11_planErasing_32 : decode cX11_planErasing 32 = .ok (.getfield 10, 3) := by decide +kernel
theorem dX11_planErasing_35 : decode cX11_planErasing 35 = .ok (.getfield 205, 3) := by decide +kernel
theorem dX11_planErasing_38 : decode cX11_planErasing 38 = .ok (.iload_n 3, 1) := by decide +kernel
theorem dX11_planErasing_39 : decode cX11_planErasing 39 = .ok (.iaload, 1) := by decide +kernel
theorem dX11_planErasing_40 : decode cX11_planErasing 40 = .ok (.istore 4, 2) := by decide +kernel
theorem dX11_planErasing_42 : decode cX11_planErasing 42 = .ok (.iload_n 2, 1) := by decide +kernel
theorem dX11_planErasing_43 : decode cX11_planErasing 43 = .ok (.iload 4, 2) := by decide +kernel
theorem dX11_planErasing_45 : decode cX11_planErasing 45 = .ok (.iload_n 1, 1) := by decide +kernel
theorem dX11_planErasing_46 : decode cX11_planErasing 46 = .ok (.iconst 0, 1) := by decide +kernel
theorem dX11_planErasing_47 : decode cX11_planErasing 47 = .ok (.invokestatic 341, 3) := by decide +kernel
theorem dX11_planErasing_50 : decode cX11_planErasing 50 = .ok (.iadd, 1) := by decide +kernel
theorem dX11_planErasing_51 : decode cX11_planErasing 51 = .ok (.invokestatic 167, 3) := by decide +kernel
theorem dX11_planErasing_54 : decode cX11_planErasing 54 = .ok (.istore 5, 2) := by decide +kernel
theorem dX11_planErasing_56 : decode cX11_planErasing 56 = .ok (.iload_n 2, 1) := by decide +kernel
theorem dX11_planErasing_57 : decode cX11_planErasing 57 = .ok (.aload_n 0, 1) := by decide +kernel
theorem dX11_planErasing_58 : decode cX11_planErasing 58 = .ok (.getfield 10, 3) := by decide +kernel
theorem dX11_planErasing_61 : decode cX11_planErasing 61 = .ok (.getfield 144, 3) := by decide +kernel
theorem dX11_planErasing_64 : decode cX11_planErasing 64 = .ok (.iload 4, 2) := by decide +kernel
theorem dX11_planErasing_66 : decode cX11_planErasing 66 = .ok (.iload_n 1, 1) := by decide +kernel
theorem dX11_planErasing_67 : decode cX11_planErasing 67 = .ok (.iconst 0, 1) := by decide +kernel
theorem dX11_planErasing_68 : decode cX11_planErasing 68 = .ok (.invokestatic 167, 3) := by decide +kernel
theorem dX11_planErasing_71 : decode cX11_planErasing 71 = .ok (.iadd, 1) := by decide +kernel
theorem dX11_planErasing_72 : decode cX11_planErasing 72 = .ok (.invokestatic 341, 3) := by decide +kernel
theorem dX11_planErasing_75 : decode cX11_planErasing 75 = .ok (.invokestatic 167, 3) := by decide +kernel
theorem dX11_planErasing_78 : decode cX11_planErasing 78 = .ok (.istore_n 2, 1) := by decide +kernel
theorem dX11_planErasing_79 : decode cX11_planErasing 79 = .ok (.iload 5, 2) := by decide +kernel
theorem dX11_planErasing_81 : decode cX11_planErasing 81 = .ok (.iload_n 2, 1) := by decide +kernel
theorem dX11_planErasing_82 : decode cX11_planErasing 82 = .ok (.if_icmp .ge 14, 3) := by decide +kernel
theorem dX11_planErasing_85 : decode cX11_planErasing 85 = .ok (.aload_n 0, 1) := by decide +kernel
theorem dX11_planErasing_86 : decode cX11_planErasing 86 = .ok (.getfield 35, 3) := by decide +kernel
theorem dX11_planErasing_89 : decode cX11_planErasing 89 = .ok (.iload 5, 2) := by decide +kernel
theorem dX11_planErasing_91 : decode cX11_planErasing 91 = .ok (.iload_n 2, 1) := by decide +kernel
theorem dX11_planErasing_92 : decode cX11_planErasing 92 = .ok (.iconst 0, 1) := by decide +kernel
theorem dX11_planErasing_93 : decode cX11_planErasing 93 = .ok (.invokevirtual 156, 3) := by decide +kernel
theorem dX11_planErasing_96 : decode cX11_planErasing 96 = .ok (.iinc 3 1, 3) := by decide +kernel
theorem dX11_planErasing_99 : decode cX11_planErasing 99 = .ok (.goto (-79), 3) := by decide +kernel
theorem dX11_planErasing_102 : decode cX11_planErasing 102 = .ok (.return_, 1) := by decide +kernel
theorem dX11_planPasting_0 : decode cX11_planPasting 0 = .ok (.aload_n 0, 1) := by decide +kernel
theorem dX11_planPasting_1 : decode cX11_planPasting 1 = .ok (.getfield 28, 3) := by decide +kernel
theorem dX11_planPasting_4 : decode cX11_planPasting 4 = .ok (.getfield 418, 3) := by decide +kernel
theorem dX11_planPasting_7 : decode cX11_planPasting 7 = .ok (.ifCond .eq 21, 3) := by decide +kernel
theorem dX11_planPasting_10 : decode cX11_planPasting 10 = .ok (.aload_n 0, 1) := by decide +kernel
theorem dX11_planPasting_11 : decode cX11_planPasting 11 = .ok (.getfield 28, 3) := by decide +kernel
theorem dX11_planPasting_14 : decode cX11_planPasting 14 = .ok (.aload_n 0, 1) := by decide +kernel
theorem dX11_planPasting_15 : decode cX11_planPasting 15 = .ok (.getfield 10, 3) := by decide +kernel
theorem dX11_planPasting_18 : decode cX11_planPasting 18 = .ok (.aload_n 0, 1) := by decide +kernel
theorem dX11_planPasting_19 : decode cX11_planPasting 19 = .ok (.getfield 35, 3) := by decide +kernel
theorem dX11_planPasting_22 : decode cX11_planPasting 22 = .ok (.invokevirtual 421, 3) := by decide +kernel
theorem dX11_planPasting_25 : decode cX11_planPasting 25 = .ok (.goto 28, 3) := by decide +kernel
theorem dX11_planPasting_28 : decode cX11_planPasting 28 = .ok (.aload_n 0, 1) := by decide +kernel
theorem dX11_planPasting_29 : decode cX11_planPasting 29 = .ok (.aload_n 0, 1) := by decide +kernel
theorem dX11_planPasting_30 : decode cX11_planPasting 30 = .ok (.getfield 28, 3) := by decide +kernel
theorem dX11_planPasting_33 : decode cX11_planPasting 33 = .ok (.getfield 358, 3) := by decide +kernel
theorem dX11_planPasting_36 : decode cX11_planPasting 36 = .ok (.getfield 130, 3) := by decide +kernel
theorem dX11_planPasting_39 : decode cX11_planPasting 39 = .ok (.iconst 0, 1) := by decide +kernel
theorem dX11_planPasting_40 : decode cX11_planPasting 40 = .ok (.aload_n 0, 1) := by decide +kernel
theorem dX11_planPasting_41 : decode cX11_planPasting 41 = .ok (.getfield 28, 3) := by decide +kernel
theorem dX11_planPasting_44 : decode cX11_planPasting 44 = .ok (.getfield 358, 3) := by decide +kernel
theorem dX11_planPasting_47 : decode cX11_planPasting 47 = .ok (.getfield 89, 3) := by decide +kernel
theorem dX11_planPasting_50 : decode cX11_planPasting 50 = .ok (.invokevirtual 131, 3) := by decide +kernel
theorem dX11_planPasting_53 : decode cX11_planPasting 53 = .ok (.return_, 1) := by decide +kernel
theorem dX11_indentLine_0 : decode cX11_indentLine 0 = .ok (.aload_n 0, 1) := by decide +kernel
theorem dX11_indentLine_1 : decode cX11_indentLine 1 = .ok (.getfield 10, 3) := by decide +kernel
theorem dX11_indentLine_4 : decode cX11_indentLine 4 = .ok (.getfield 188, 3) := by decide +kernel
theorem dX11_indentLine_7 : decode cX11_indentLine 7 = .ok (.iload_n 1, 1) := by decide +kernel
theorem dX11_indentLine_8 : decode cX11_indentLine 8 = .ok (.iaload, 1) := by decide +kernel
theorem dX11_indentLine_9 : decode cX11_indentLine 9 = .ok (.istore_n 3, 1) := by decide +kernel
theorem dX11_indentLine_10 : decode cX11_indentLine 10 = .ok (.iload_n 2, 1) := by decide +kernel
theorem dX11_indentLine_11 : decode cX11_indentLine 11 = .ok (.ifCond .le 25, 3) := by decide +kernel
theorem dX11_indentLine_14 : decode cX11_indentLine 14 = .ok (.aload_n 0, 1) := by decide +kernel
theorem dX11_indentLine_15 : decode cX11_indentLine 15 = .ok (.getfield 10, 3) := by decide +kernel
theorem dX11_indentLine_18 : decode cX11_indentLine 18 = .ok (.iload_n 1, 1) := by decide +kernel
theorem dX11_indentLine_19 : decode cX11_indentLine 19 = .ok (.invokevirtual 184, 3) := by decide +kernel
theorem dX11_indentLine_22 : decode cX11_indentLine 22 = .ok (.iload_n 3, 1) := by decide +kernel
theorem dX11_indentLine_23 : decode cX11_indentLine 23 = .ok (.if_icmp .le 13, 3) := by decide +kernel
theorem dX11_indentLine_26 : decode cX11_indentLine 26 = .ok (.aload_n 0, 1) := by decide +kernel
theorem dX11_indentLine_27 : decode cX11_indentLine 27 = .ok (.getfield 35, 3) := by decide +kernel
theorem dX11_indentLine_30 : decode cX11_indentLine 30 = .ok (.iload_n 3, 1) := by decide +kernel
theorem dX11_indentLine_31 : decode cX11_indentLine 31 = .ok (.iload_n 3, 1) := by decide +kernel
theorem dX11_indentLine_32 : decode cX11_indentLine 32 = .ok (.iload_n 2, 1) := by decide +kernel
theorem dX11_indentLine_33 : decode cX11_indentLine 33 = .ok (.invokevirtual 156, 3) := by decide +kernel
theorem dX11_indentLine_36 : decode cX11_indentLine 36 = .ok (.iload_n 2, 1) := by decide +kernel
theorem dX11_indentLine_37 : decode cX11_indentLine 37 = .ok (.ifCond .ge 24, 3) := by decide +kernel
theorem dX11_indentLine_40 : decode cX11_indentLine 40 = .ok (.aload_n 0, 1) := by decide +kernel
theorem dX11_indentLine_41 : decode cX11_indentLine 41 = .ok (.getfield 35, 3) := by decide +kernel
theorem dX11_indentLine_44 : decode cX11_indentLine 44 = .ok (.iload_n 3, 1) := by decide +kernel
theorem dX11_indentLine_45 : decode cX11_indentLine 45 = .ok (.iload_n 3, 1) := by decide +kernel
theorem dX11_indentLine_46 : decode cX11_indentLine 46 = .ok (.aload_n 0, 1) := by decide +kernel
theorem dX11_indentLine_47 : decode cX11_indentLine 47 = .ok (.getfield 10, 3) := by decide +kernel
theorem dX11_indentLine_50 : decode cX11_indentLine 50 = .ok (.iload_n 3, 1) := by decide +kernel
theorem dX11_indentLine_51 : decode cX11_indentLine 51 = .ok (.iload_n 2, 1) := by decide +kernel
theorem dX11_indentLine_52 : decode cX11_indentLine 52 = .ok (.ineg, 1) := by decide +kernel
theorem dX11_indentLine_53 : decode cX11_indentLine 53 = .ok (.invokevirtual 197, 3) := by decide +kernel
theorem dX11_indentLine_56 : decode cX11_indentLine 56 = .ok (.iadd, 1) := by decide +kernel
theorem dX11_indentLine_57 : decode cX11_indentLine 57 = .ok (.iconst 0, 1) := by decide +kernel
theorem dX11_indentLine_58 : decode cX11_indentLine 58 = .ok (.invokevirtual 156, 3) := by decide +kernel
theorem dX11_indentLine_61 : decode cX11_indentLine 61 = .ok (.return_, 1) := by decide +kernel
theorem dX11_breakFor_0 : decode cX11_breakFor 0 = .ok (.iload_n 2, 1) := by decide +kernel
theorem dX11_breakFor_1 : decode cX11_breakFor 1 = .ok (.iload_n 1, 1) := by decide +kernel
theorem dX11_breakFor_2 : decode cX11_breakFor 2 = .ok (.isub, 1) := by decide +kernel
theorem dX11_breakFor_3 : decode cX11_breakFor 3 = .ok (.iload_n 3, 1) := by decide +kernel
theorem dX11_breakFor_4 : decode cX11_breakFor 4 = .ok (.if_icmp .gt 5, 3) := by decide +kernel
theorem dX11_breakFor_7 : decode cX11_breakFor 7 = .ok (.iconst (-1), 1) := by decide +kernel
theorem dX11_breakFor_8 : decode cX11_breakFor 8 = .ok (.ireturn, 1) := by decide +kernel
theorem dX11_breakFor_9 : decode cX11_breakFor 9 = .ok (.iload_n 1, 1) := by decide +kernel
theorem dX11_breakFor_10 : decode cX11_breakFor 10 = .ok (.iload_n 3, 1) := by decide +kernel
theorem dX11_breakFor_11 : decode cX11_breakFor 11 = .ok (.iadd, 1) := by decide +kernel
theorem dX11_breakFor_12 : decode cX11_breakFor 12 = .ok (.istore 4, 2) := by decide +kernel
theorem dX11_breakFor_14 : decode cX11_breakFor 14 = .ok (.iload 4, 2) := by decide +kernel
theorem dX11_breakFor_16 : decode cX11_breakFor 16 = .ok (.iload_n 1, 1) := by decide +kernel
theorem dX11_breakFor_17 : decode cX11_breakFor 17 = .ok (.if_icmp .le 27, 3) := by decide +kernel
theorem dX11_breakFor_20 : decode cX11_breakFor 20 = .ok (.aload_n 0, 1) := by decide +kernel
theorem dX11_breakFor_21 : decode cX11_breakFor 21 = .ok (.getfield 10, 3) := by decide +kernel
theorem dX11_breakFor_24 : decode cX11_breakFor 24 = .ok (.getfield 104, 3) := by decide +kernel
theorem dX11_breakFor_27 : decode cX11_breakFor 27 = .ok (.iload 4, 2) := by decide +kernel
theorem dX11_breakFor_29 : decode cX11_breakFor 29 = .ok (.baload, 1) := by decide +kernel
theorem dX11_breakFor_30 : decode cX11_breakFor 30 = .ok (.bipush 32, 2) := by decide +kernel
theorem dX11_breakFor_32 : decode cX11_breakFor 32 = .ok (.if_icmp .ne 6, 3) := by decide +kernel
theorem dX11_breakFor_35 : decode cX11_breakFor 35 = .ok (.iload 4, 2) := by decide +kernel
theorem dX11_breakFor_37 : decode cX11_breakFor 37 = .ok (.ireturn, 1) := by decide +kernel
theorem dX11_breakFor_38 : decode cX11_breakFor 38 = .ok (.iinc 4 (-1), 3) := by decide +kernel
theorem dX11_breakFor_41 : decode cX11_breakFor 41 = .ok (.goto (-27), 3) := by decide +kernel
theorem dX11_breakFor_44 : decode cX11_breakFor 44 = .ok (.iload_n 1, 1) := by decide +kernel
theorem dX11_breakFor_45 : decode cX11_breakFor 45 = .ok (.iload_n 3, 1) := by decide +kernel
theorem dX11_breakFor_46 : decode cX11_breakFor 46 = .ok (.iadd, 1) := by decide +kernel
theorem dX11_breakFor_47 : decode cX11_breakFor 47 = .ok (.iconst 1, 1) := by decide +kernel
theorem dX11_breakFor_48 : decode cX11_breakFor 48 = .ok (.iadd, 1) := by decide +kernel
theorem dX11_breakFor_49 : decode cX11_breakFor 49 = .ok (.istore 4, 2) := by decide +kernel
theorem dX11_breakFor_51 : decode cX11_breakFor 51 = .ok (.iload 4, 2) := by decide +kernel
theorem dX11_breakFor_53 : decode cX11_breakFor 53 = .ok (.iload_n 2, 1) := by decide +kernel
theorem dX11_breakFor_54 : decode cX11_breakFor 54 = .ok (.if_icmp .ge 27, 3) := by decide +kernel
theorem dX11_breakFor_57 : decode cX11_breakFor 57 = .ok (.aload_n 0, 1) := by decide +kernel
theorem dX11_breakFor_58 : decode cX11_breakFor 58 = .ok (.getfield 10, 3) := by decide +kernel
theorem dX11_breakFor_61 : decode cX11_breakFor 61 = .ok (.getfield 104, 3) := by decide +kernel
theorem dX11_breakFor_64 : decode cX11_breakFor 64 = .ok (.iload 4, 2) := by decide +kernel
theorem dX11_breakFor_66 : decode cX11_breakFor 66 = .ok (.baload, 1) := by decide +kernel
theorem dX11_breakFor_67 : decode cX11_breakFor 67 = .ok (.bipush 32, 2) := by decide +kernel
theorem dX11_breakFor_69 : decode cX11_breakFor 69 = .ok (.if_icmp .ne 6, 3) := by decide +kernel
theorem dX11_breakFor_72 : decode cX11_breakFor 72 = .ok (.iload 4, 2) := by decide +kernel
theorem dX11_breakFor_74 : decode cX11_breakFor 74 = .ok (.ireturn, 1) := by decide +kernel
theorem dX11_breakFor_75 : decode cX11_breakFor 75 = .ok (.iinc 4 1, 3) := by decide +kernel
theorem dX11_breakFor_78 : decode cX11_breakFor 78 = .ok (.goto (-27), 3) := by decide +kernel
theorem dX11_breakFor_81 : decode cX11_breakFor 81 = .ok (.iconst (-1), 1) := by decide +kernel
theorem dX11_breakFor_82 : decode cX11_breakFor 82 = .ok (.ireturn, 1) := by decide +kernel
theorem dX11_moveAll_0 : decode cX11_moveAll 0 = .ok (.iconst 0, 1) := by decide +kernel
theorem dX11_moveAll_1 : decode cX11_moveAll 1 = .ok (.istore_n 3, 1) := by decide +kernel
theorem dX11_moveAll_2 : decode cX11_moveAll 2 = .ok (.iload_n 3, 1) := by decide +kernel
theorem dX11_moveAll_3 : decode cX11_moveAll 3 = .ok (.aload_n 0, 1) := by decide +kernel
theorem dX11_moveAll_4 : decode cX11_moveAll 4 = .ok (.getfield 10, 3) := by decide +kernel
theorem dX11_moveAll_7 : decode cX11_moveAll 7 = .ok (.getfield 267, 3) := by decide +kernel
theorem dX11_moveAll_10 : decode cX11_moveAll 10 = .ok (.if_icmp .ge 33, 3) := by decide +kernel
theorem dX11_moveAll_13 : decode cX11_moveAll 13 = .ok (.aload_n 0, 1) := by decide +kernel
theorem dX11_moveAll_14 : decode cX11_moveAll 14 = .ok (.getfield 10, 3) := by decide +kernel
theorem dX11_moveAll_17 : decode cX11_moveAll 17 = .ok (.getfield 205, 3) := by decide +kernel
theorem dX11_moveAll_20 : decode cX11_moveAll 20 = .ok (.iload_n 3, 1) := by decide +kernel
theorem dX11_moveAll_21 : decode cX11_moveAll 21 = .ok (.aload_n 0, 1) := by decide +kernel
theorem dX11_moveAll_22 : decode cX11_moveAll 22 = .ok (.aload_n 0, 1) := by decide +kernel
theorem dX11_moveAll_23 : decode cX11_moveAll 23 = .ok (.getfield 10, 3) := by decide +kernel
theorem dX11_moveAll_26 : decode cX11_moveAll 26 = .ok (.getfield 205, 3) := by decide +kernel
theorem dX11_moveAll_29 : decode cX11_moveAll 29 = .ok (.iload_n 3, 1) := by decide +kernel
theorem dX11_moveAll_30 : decode cX11_moveAll 30 = .ok (.iaload, 1) := by decide +kernel
theorem dX11_moveAll_31 : decode cX11_moveAll 31 = .ok (.iload_n 1, 1) := by decide +kernel
theorem dX11_moveAll_32 : decode cX11_moveAll 32 = .ok (.iload_n 2, 1) := by decide +kernel
theorem dX11_moveAll_33 : decode cX11_moveAll 33 = .ok (.invokevirtual 425, 3) := by decide +kernel
theorem dX11_moveAll_36 : decode cX11_moveAll 36 = .ok (.iastore, 1) := by decide +kernel
theorem dX11_moveAll_37 : decode cX11_moveAll 37 = .ok (.iinc 3 1, 3) := by decide +kernel
theorem dX11_moveAll_40 : decode cX11_moveAll 40 = .ok (.goto (-38), 3) := by decide +kernel
theorem dX11_moveAll_43 : decode cX11_moveAll 43 = .ok (.aload_n 0, 1) := by decide +kernel
theorem dX11_moveAll_44 : decode cX11_moveAll 44 = .ok (.getfield 10, 3) := by decide +kernel
theorem dX11_moveAll_47 : decode cX11_moveAll 47 = .ok (.invokevirtual 275, 3) := by decide +kernel
theorem dX11_moveAll_50 : decode cX11_moveAll 50 = .ok (.return_, 1) := by decide +kernel
theorem dX11_movedPlace_0 : decode cX11_movedPlace 0 = .ok (.iload_n 3, 1) := by decide +kernel
theorem dX11_movedPlace_1 : decode cX11_movedPlace 1 = .ok (.ifCond .ne 5, 3) := by decide +kernel
theorem dX11_movedPlace_4 : decode cX11_movedPlace 4 = .ok (.iload_n 1, 1) := by decide +kernel
theorem dX11_movedPlace_5 : decode cX11_movedPlace 5 = .ok (.ireturn, 1) := by decide +kernel
theorem dX11_movedPlace_6 : decode cX11_movedPlace 6 = .ok (.iload_n 2, 1) := by decide +kernel
theorem dX11_movedPlace_7 : decode cX11_movedPlace 7 = .ok (.tableswitch 108 0 3 #[29, 47, 61, 71], 29) := by decide +kernel
theorem dX11_movedPlace_36 : decode cX11_movedPlace 36 = .ok (.iconst 0, 1) := by decide +kernel
theorem dX11_movedPlace_37 : decode cX11_movedPlace 37 = .ok (.aload_n 0, 1) := by decide +kernel
theorem dX11_movedPlace_38 : decode cX11_movedPlace 38 = .ok (.getfield 10, 3) := by decide +kernel
theorem dX11_movedPlace_41 : decode cX11_movedPlace 41 = .ok (.getfield 144, 3) := by decide +kernel
theorem dX11_movedPlace_44 : decode cX11_movedPlace 44 = .ok (.iload_n 1, 1) := by decide +kernel
theorem dX11_movedPlace_45 : decode cX11_movedPlace 45 = .ok (.iload_n 3, 1) := by decide +kernel
theorem dX11_movedPlace_46 : decode cX11_movedPlace 46 = .ok (.iadd, 1) := by decide +kernel
theorem dX11_movedPlace_47 : decode cX11_movedPlace 47 = .ok (.invokestatic 341, 3) := by decide +kernel
theorem dX11_movedPlace_50 : decode cX11_movedPlace 50 = .ok (.invokestatic 167, 3) := by decide +kernel
theorem dX11_movedPlace_53 : decode cX11_movedPlace 53 = .ok (.ireturn, 1) := by decide +kernel
theorem dX11_movedPlace_54 : decode cX11_movedPlace 54 = .ok (.aload_n 0, 1) := by decide +kernel
theorem dX11_movedPlace_55 : decode cX11_movedPlace 55 = .ok (.getfield 10, 3) := by decide +kernel
theorem dX11_movedPlace_58 : decode cX11_movedPlace 58 = .ok (.iload_n 1, 1) := by decide +kernel
theorem dX11_movedPlace_59 : decode cX11_movedPlace 59 = .ok (.iload_n 3, 1) := by decide +kernel
theorem dX11_movedPlace_60 : decode cX11_movedPlace 60 = .ok (.aload_n 0, 1) := by decide +kernel
theorem dX11_movedPlace_61 : decode cX11_movedPlace 61 = .ok (.getfield 74, 3) := by decide +kernel
theorem dX11_movedPlace_64 : decode cX11_movedPlace 64 = .ok (.invokestatic 428, 3) := by decide +kernel
theorem dX11_movedPlace_67 : decode cX11_movedPlace 67 = .ok (.ireturn, 1) := by decide +kernel
theorem dX11_movedPlace_68 : decode cX11_movedPlace 68 = .ok (.aload_n 0, 1) := by decide +kernel
theorem dX11_movedPlace_69 : decode cX11_movedPlace 69 = .ok (.getfield 10, 3) := by decide +kernel
theorem dX11_movedPlace_72 : decode cX11_movedPlace 72 = .ok (.iload_n 1, 1) := by decide +kernel
theorem dX11_movedPlace_73 : decode cX11_movedPlace 73 = .ok (.iload_n 3, 1) := by decide +kernel
theorem dX11_movedPlace_74 : decode cX11_movedPlace 74 = .ok (.invokestatic 434, 3) := by decide +kernel
theorem dX11_movedPlace_77 : decode cX11_movedPlace 77 = .ok (.ireturn, 1) := by decide +kernel
theorem dX11_movedPlace_78 : decode cX11_movedPlace 78 = .ok (.aload_n 0, 1) := by decide +kernel
theorem dX11_movedPlace_79 : decode cX11_movedPlace 79 = .ok (.getfield 10, 3) := by decide +kernel
theorem dX11_movedPlace_82 : decode cX11_movedPlace 82 = .ok (.iload_n 1, 1) := by decide +kernel
theorem dX11_movedPlace_83 : decode cX11_movedPlace 83 = .ok (.invokevirtual 365, 3) := by decide +kernel
theorem dX11_movedPlace_86 : decode cX11_movedPlace 86 = .ok (.istore 4, 2) := by decide +kernel
theorem dX11_movedPlace_88 : decode cX11_movedPlace 88 = .ok (.iload_n 3, 1) := by decide +kernel
theorem dX11_movedPlace_89 : decode cX11_movedPlace 89 = .ok (.ifCond .ge 16, 3) := by decide +kernel
theorem dX11_movedPlace_92 : decode cX11_movedPlace 92 = .ok (.aload_n 0, 1) := by decide +kernel
theorem dX11_movedPlace_93 : decode cX11_movedPlace 93 = .ok (.getfield 10, 3) := by decide +kernel
theorem dX11_movedPlace_96 : decode cX11_movedPlace 96 = .ok (.getfield 188, 3) := by decide +kernel
theorem dX11_movedPlace_99 : decode cX11_movedPlace 99 = .ok (.iload 4, 2) := by decide +kernel
theorem dX11_movedPlace_101 : decode cX11_movedPlace 101 = .ok (.iaload, 1) := by decide +kernel
theorem dX11_movedPlace_102 : decode cX11_movedPlace 102 = .ok (.goto 12, 3) := by decide +kernel
theorem dX11_movedPlace_105 : decode cX11_movedPlace 105 = .ok (.aload_n 0, 1) := by decide +kernel
theorem dX11_movedPlace_106 : decode cX11_movedPlace 106 = .ok (.getfield 10, 3) := by decide +kernel
theorem dX11_movedPlace_109 : decode cX11_movedPlace 109 = .ok (.iload 4, 2) := by decide +kernel
theorem dX11_movedPlace_111 : decode cX11_movedPlace 111 = .ok (.invokevirtual 184, 3) := by decide +kernel
theorem dX11_movedPlace_114 : decode cX11_movedPlace 114 = .ok (.ireturn, 1) := by decide +kernel
theorem dX11_movedPlace_115 : decode cX11_movedPlace 115 = .ok (.iload_n 3, 1) := by decide +kernel
theorem dX11_movedPlace_116 : decode cX11_movedPlace 116 = .ok (.ifCond .ge 16, 3) := by decide +kernel
theorem dX11_movedPlace_119 : decode cX11_movedPlace 119 = .ok (.aload_n 0, 1) := by decide +kernel
theorem dX11_movedPlace_120 : decode cX11_movedPlace 120 = .ok (.getfield 10, 3) := by decide +kernel
theorem dX11_movedPlace_123 : decode cX11_movedPlace 123 = .ok (.iload_n 1, 1) := by decide +kernel
theorem dX11_movedPlace_124 : decode cX11_movedPlace 124 = .ok (.iload_n 3, 1) := by decide +kernel
theorem dX11_movedPlace_125 : decode cX11_movedPlace 125 = .ok (.ineg, 1) := by decide +kernel
theorem dX11_movedPlace_126 : decode cX11_movedPlace 126 = .ok (.invokestatic 438, 3) := by decide +kernel
theorem dX11_movedPlace_129 : decode cX11_movedPlace 129 = .ok (.goto 12, 3) := by decide +kernel
theorem dX11_movedPlace_132 : decode cX11_movedPlace 132 = .ok (.aload_n 0, 1) := by decide +kernel
theorem dX11_movedPlace_133 : decode cX11_movedPlace 133 = .ok (.getfield 10, 3) := by decide +kernel
theorem dX11_movedPlace_136 : decode cX11_movedPlace 136 = .ok (.iload_n 1, 1) := by decide +kernel
theorem dX11_movedPlace_137 : decode cX11_movedPlace 137 = .ok (.iload_n 3, 1) := by decide +kernel
theorem dX11_movedPlace_138 : decode cX11_movedPlace 138 = .ok (.invokestatic 441, 3) := by decide +kernel
theorem dX11_movedPlace_141 : decode cX11_movedPlace 141 = .ok (.ireturn, 1) := by decide +kernel
theorem dX11_playStep_0 : decode cX11_playStep 0 = .ok (.aload_n 0, 1) := by decide +kernel
theorem dX11_playStep_1 : decode cX11_playStep 1 = .ok (.getfield 56, 3) := by decide +kernel
theorem dX11_playStep_4 : decode cX11_playStep 4 = .ok (.getfield 444, 3) := by decide +kernel
theorem dX11_playStep_7 : decode cX11_playStep 7 = .ok (.iload_n 1, 1) := by decide +kernel
theorem dX11_playStep_8 : decode cX11_playStep 8 = .ok (.iaload, 1) := by decide +kernel
theorem dX11_playStep_9 : decode cX11_playStep 9 = .ok (.istore_n 2, 1) := by decide +kernel
theorem dX11_playStep_10 : decode cX11_playStep 10 = .ok (.aload_n 0, 1) := by decide +kernel
theorem dX11_playStep_11 : decode cX11_playStep 11 = .ok (.getfield 56, 3) := by decide +kernel
theorem dX11_playStep_14 : decode cX11_playStep 14 = .ok (.getfield 447, 3) := by decide +kernel
theorem dX11_playStep_17 : decode cX11_playStep 17 = .ok (.iload_n 1, 1) := by decide +kernel
theorem dX11_playStep_18 : decode cX11_playStep 18 = .ok (.iaload, 1) := by decide +kernel
theorem dX11_playStep_19 : decode cX11_playStep 19 = .ok (.tableswitch 70 0 3 #[29, 51, 70, 61], 29) := by decide +kernel
theorem dX11_playStep_48 : decode cX11_playStep 48 = .ok (.aload_n 0, 1) := by decide +kernel
theorem dX11_playStep_49 : decode cX11_playStep 49 = .ok (.aload_n 0, 1) := by decide +kernel
theorem dX11_playStep_50 : decode cX11_playStep 50 = .ok (.getfield 56, 3) := by decide +kernel
theorem dX11_playStep_53 : decode cX11_playStep 53 = .ok (.getfield 450, 3) := by decide +kernel
theorem dX11_playStep_56 : decode cX11_playStep 56 = .ok (.iload_n 1, 1) := by decide +kernel
theorem dX11_playStep_57 : decode cX11_playStep 57 = .ok (.sipush 200, 3) := by decide +kernel
theorem dX11_playStep_60 : decode cX11_playStep 60 = .ok (.imul, 1) := by decide +kernel
theorem dX11_playStep_61 : decode cX11_playStep 61 = .ok (.iload_n 2, 1) := by decide +kernel
theorem dX11_playStep_62 : decode cX11_playStep 62 = .ok (.invokevirtual 131, 3) := by decide +kernel
theorem dX11_playStep_65 : decode cX11_playStep 65 = .ok (.aload_n 0, 1) := by decide +kernel
theorem dX11_playStep_66 : decode cX11_playStep 66 = .ok (.invokevirtual 134, 3) := by decide +kernel
theorem dX11_playStep_69 : decode cX11_playStep 69 = .ok (.ireturn, 1) := by decide +kernel
theorem dX11_playStep_70 : decode cX11_playStep 70 = .ok (.aload_n 0, 1) := by decide +kernel
theorem dX11_playStep_71 : decode cX11_playStep 71 = .ok (.iload_n 2, 1) := by decide +kernel
theorem dX11_playStep_72 : decode cX11_playStep 72 = .ok (.invokevirtual 147, 3) := by decide +kernel
theorem dX11_playStep_75 : decode cX11_playStep 75 = .ok (.aload_n 0, 1) := by decide +kernel
theorem dX11_playStep_76 : decode cX11_playStep 76 = .ok (.invokevirtual 134, 3) := by decide +kernel
theorem dX11_playStep_79 : decode cX11_playStep 79 = .ok (.ireturn, 1) := by decide +kernel
theorem dX11_playStep_80 : decode cX11_playStep 80 = .ok (.aload_n 0, 1) := by decide +kernel
theorem dX11_playStep_81 : decode cX11_playStep 81 = .ok (.invokevirtual 162, 3) := by decide +kernel
theorem dX11_playStep_84 : decode cX11_playStep 84 = .ok (.aload_n 0, 1) := by decide +kernel
theorem dX11_playStep_85 : decode cX11_playStep 85 = .ok (.invokevirtual 134, 3) := by decide +kernel
theorem dX11_playStep_88 : decode cX11_playStep 88 = .ok (.ireturn, 1) := by decide +kernel
theorem dX11_playStep_89 : decode cX11_playStep 89 = .ok (.aload_n 0, 1) := by decide +kernel
theorem dX11_playStep_90 : decode cX11_playStep 90 = .ok (.aload_n 0, 1) := by decide +kernel
theorem dX11_playStep_91 : decode cX11_playStep 91 = .ok (.getfield 56, 3) := by decide +kernel
theorem dX11_playStep_94 : decode cX11_playStep 94 = .ok (.getfield 451, 3) := by decide +kernel
theorem dX11_playStep_97 : decode cX11_playStep 97 = .ok (.iload_n 1, 1) := by decide +kernel
theorem dX11_playStep_98 : decode cX11_playStep 98 = .ok (.iaload, 1) := by decide +kernel
theorem dX11_playStep_99 : decode cX11_playStep 99 = .ok (.iload_n 2, 1) := by decide +kernel
theorem dX11_playStep_100 : decode cX11_playStep 100 = .ok (.invokevirtual 280, 3) := by decide +kernel
theorem dX11_playStep_103 : decode cX11_playStep 103 = .ok (.iconst 1, 1) := by decide +kernel
theorem dX11_playStep_104 : decode cX11_playStep 104 = .ok (.ireturn, 1) := by decide +kernel
theorem dX11_isLetter_0 : decode cX11_isLetter 0 = .ok (.iload_n 0, 1) := by decide +kernel
theorem dX11_isLetter_1 : decode cX11_isLetter 1 = .ok (.bipush 9, 2) := by decide +kernel
theorem dX11_isLetter_3 : decode cX11_isLetter 3 = .ok (.if_icmp .eq 21, 3) := by decide +kernel
theorem dX11_isLetter_6 : decode cX11_isLetter 6 = .ok (.iload_n 0, 1) := by decide +kernel
theorem dX11_isLetter_7 : decode cX11_isLetter 7 = .ok (.bipush 10, 2) := by decide +kernel
theorem dX11_isLetter_9 : decode cX11_isLetter 9 = .ok (.if_icmp .eq 15, 3) := by decide +kernel
theorem dX11_isLetter_12 : decode cX11_isLetter 12 = .ok (.iload_n 0, 1) := by decide +kernel
theorem dX11_isLetter_13 : decode cX11_isLetter 13 = .ok (.bipush 32, 2) := by decide +kernel
theorem dX11_isLetter_15 : decode cX11_isLetter 15 = .ok (.if_icmp .lt 13, 3) := by decide +kernel
theorem dX11_isLetter_18 : decode cX11_isLetter 18 = .ok (.iload_n 0, 1) := by decide +kernel
theorem dX11_isLetter_19 : decode cX11_isLetter 19 = .ok (.bipush 126, 2) := by decide +kernel
theorem dX11_isLetter_21 : decode cX11_isLetter 21 = .ok (.if_icmp .gt 7, 3) := by decide +kernel
theorem dX11_isLetter_24 : decode cX11_isLetter 24 = .ok (.iconst 1, 1) := by decide +kernel
theorem dX11_isLetter_25 : decode cX11_isLetter 25 = .ok (.goto 4, 3) := by decide +kernel
theorem dX11_isLetter_28 : decode cX11_isLetter 28 = .ok (.iconst 0, 1) := by decide +kernel
theorem dX11_isLetter_29 : decode cX11_isLetter 29 = .ok (.ireturn, 1) := by decide +kernel
theorem dX11_isOfWord_0 : decode cX11_isOfWord 0 = .ok (.iload_n 0, 1) := by decide +kernel
theorem dX11_isOfWord_1 : decode cX11_isOfWord 1 = .ok (.bipush 97, 2) := by decide +kernel
theorem dX11_isOfWord_3 : decode cX11_isOfWord 3 = .ok (.if_icmp .lt 9, 3) := by decide +kernel
theorem dX11_isOfWord_6 : decode cX11_isOfWord 6 = .ok (.iload_n 0, 1) := by decide +kernel
theorem dX11_isOfWord_7 : decode cX11_isOfWord 7 = .ok (.bipush 122, 2) := by decide +kernel
theorem dX11_isOfWord_9 : decode cX11_isOfWord 9 = .ok (.if_icmp .le 33, 3) := by decide +kernel
theorem dX11_isOfWord_12 : decode cX11_isOfWord 12 = .ok (.iload_n 0, 1) := by decide +kernel
theorem dX11_isOfWord_13 : decode cX11_isOfWord 13 = .ok (.bipush 65, 2) := by decide +kernel
theorem dX11_isOfWord_15 : decode cX11_isOfWord 15 = .ok (.if_icmp .lt 9, 3) := by decide +kernel
theorem dX11_isOfWord_18 : decode cX11_isOfWord 18 = .ok (.iload_n 0, 1) := by decide +kernel
theorem dX11_isOfWord_19 : decode cX11_isOfWord 19 = .ok (.bipush 90, 2) := by decide +kernel
theorem dX11_isOfWord_21 : decode cX11_isOfWord 21 = .ok (.if_icmp .le 21, 3) := by decide +kernel
theorem dX11_isOfWord_24 : decode cX11_isOfWord 24 = .ok (.iload_n 0, 1) := by decide +kernel
theorem dX11_isOfWord_25 : decode cX11_isOfWord 25 = .ok (.bipush 48, 2) := by decide +kernel
theorem dX11_isOfWord_27 : decode cX11_isOfWord 27 = .ok (.if_icmp .lt 9, 3) := by decide +kernel
theorem dX11_isOfWord_30 : decode cX11_isOfWord 30 = .ok (.iload_n 0, 1) := by decide +kernel
theorem dX11_isOfWord_31 : decode cX11_isOfWord 31 = .ok (.bipush 57, 2) := by decide +kernel
theorem dX11_isOfWord_33 : decode cX11_isOfWord 33 = .ok (.if_icmp .le 9, 3) := by decide +kernel
theorem dX11_isOfWord_36 : decode cX11_isOfWord 36 = .ok (.iload_n 0, 1) := by decide +kernel
theorem dX11_isOfWord_37 : decode cX11_isOfWord 37 = .ok (.bipush 95, 2) := by decide +kernel
theorem dX11_isOfWord_39 : decode cX11_isOfWord 39 = .ok (.if_icmp .ne 7, 3) := by decide +kernel
theorem dX11_isOfWord_42 : decode cX11_isOfWord 42 = .ok (.iconst 1, 1) := by decide +kernel
theorem dX11_isOfWord_43 : decode cX11_isOfWord 43 = .ok (.goto 4, 3) := by decide +kernel
theorem dX11_isOfWord_46 : decode cX11_isOfWord 46 = .ok (.iconst 0, 1) := by decide +kernel
theorem dX11_isOfWord_47 : decode cX11_isOfWord 47 = .ok (.ireturn, 1) := by decide +kernel
theorem dX11_columnBehind_0 : decode cX11_columnBehind 0 = .ok (.iload_n 1, 1) := by decide +kernel
theorem dX11_columnBehind_1 : decode cX11_columnBehind 1 = .ok (.bipush 9, 2) := by decide +kernel
theorem dX11_columnBehind_3 : decode cX11_columnBehind 3 = .ok (.if_icmp .ne 8, 3) := by decide +kernel
theorem dX11_columnBehind_6 : decode cX11_columnBehind 6 = .ok (.iload_n 2, 1) := by decide +kernel
theorem dX11_columnBehind_7 : decode cX11_columnBehind 7 = .ok (.iconst 1, 1) := by decide +kernel
theorem dX11_columnBehind_8 : decode cX11_columnBehind 8 = .ok (.if_icmp .ge 7, 3) := by decide +kernel
theorem dX11_columnBehind_11 : decode cX11_columnBehind 11 = .ok (.iload_n 0, 1) := by decide +kernel
theorem dX11_columnBehind_12 : decode cX11_columnBehind 12 = .ok (.iconst 1, 1) := by decide +kernel
theorem dX11_columnBehind_13 : decode cX11_columnBehind 13 = .ok (.iadd, 1) := by decide +kernel
theorem dX11_columnBehind_14 : decode cX11_columnBehind 14 = .ok (.ireturn, 1) := by decide +kernel
theorem dX11_columnBehind_15 : decode cX11_columnBehind 15 = .ok (.iload_n 0, 1) := by decide +kernel
theorem dX11_columnBehind_16 : decode cX11_columnBehind 16 = .ok (.iload_n 2, 1) := by decide +kernel
theorem dX11_columnBehind_17 : decode cX11_columnBehind 17 = .ok (.iadd, 1) := by decide +kernel
theorem dX11_columnBehind_18 : decode cX11_columnBehind 18 = .ok (.iload_n 0, 1) := by decide +kernel
theorem dX11_columnBehind_19 : decode cX11_columnBehind 19 = .ok (.iload_n 2, 1) := by decide +kernel
theorem dX11_columnBehind_20 : decode cX11_columnBehind 20 = .ok (.irem, 1) := by decide +kernel
theorem dX11_columnBehind_21 : decode cX11_columnBehind 21 = .ok (.isub, 1) := by decide +kernel
theorem dX11_columnBehind_22 : decode cX11_columnBehind 22 = .ok (.ireturn, 1) := by decide +kernel
theorem dX11_openFold_0 : decode cX11_openFold 0 = .ok (.aload_n 0, 1) := by decide +kernel
theorem dX11_openFold_1 : decode cX11_openFold 1 = .ok (.iload_n 2, 1) := by decide +kernel
theorem dX11_openFold_2 : decode cX11_openFold 2 = .ok (.baload, 1) := by decide +kernel
theorem dX11_openFold_3 : decode cX11_openFold 3 = .ok (.ifCond .ne 5, 3) := by decide +kernel
theorem dX11_openFold_6 : decode cX11_openFold 6 = .ok (.iconst 0, 1) := by decide +kernel
theorem dX11_openFold_7 : decode cX11_openFold 7 = .ok (.ireturn, 1) := by decide +kernel
theorem dX11_openFold_8 : decode cX11_openFold 8 = .ok (.iload_n 2, 1) := by decide +kernel
theorem dX11_openFold_9 : decode cX11_openFold 9 = .ok (.istore_n 3, 1) := by decide +kernel
theorem dX11_openFold_10 : decode cX11_openFold 10 = .ok (.iload_n 3, 1) := by decide +kernel
theorem dX11_openFold_11 : decode cX11_openFold 11 = .ok (.ifCond .le 17, 3) := by decide +kernel
theorem dX11_openFold_14 : decode cX11_openFold 14 = .ok (.aload_n 0, 1) := by decide +kernel
theorem dX11_openFold_15 : decode cX11_openFold 15 = .ok (.iload_n 3, 1) := by decide +kernel
theorem dX11_openFold_16 : decode cX11_openFold 16 = .ok (.iconst 1, 1) := by decide +kernel
theorem dX11_openFold_17 : decode cX11_openFold 17 = .ok (.isub, 1) := by decide +kernel
theorem dX11_openFold_18 : decode cX11_openFold 18 = .ok (.baload, 1) := by decide +kernel
theorem dX11_openFold_19 : decode cX11_openFold 19 = .ok (.ifCond .eq 9, 3) := by decide +kernel
theorem dX11_openFold_22 : decode cX11_openFold 22 = .ok (.iinc 3 (-1), 3) := by decide +kernel
theorem dX11_openFold_25 : decode cX11_openFold 25 = .ok (.goto (-15), 3) := by decide +kernel
theorem dX11_openFold_28 : decode cX11_openFold 28 = .ok (.iconst 0, 1) := by decide +kernel
theorem dX11_openFold_29 : decode cX11_openFold 29 = .ok (.istore 4, 2) := by decide +kernel
theorem dX11_openFold_31 : decode cX11_openFold 31 = .ok (.iload_n 3, 1) := by decide +kernel
theorem dX11_openFold_32 : decode cX11_openFold 32 = .ok (.istore 5, 2) := by decide +kernel
theorem dX11_openFold_34 : decode cX11_openFold 34 = .ok (.iload 5, 2) := by decide +kernel
theorem dX11_openFold_36 : decode cX11_openFold 36 = .ok (.iload_n 1, 1) := by decide +kernel
theorem dX11_openFold_37 : decode cX11_openFold 37 = .ok (.if_icmp .ge 24, 3) := by decide +kernel
theorem dX11_openFold_40 : decode cX11_openFold 40 = .ok (.aload_n 0, 1) := by decide +kernel
theorem dX11_openFold_41 : decode cX11_openFold 41 = .ok (.iload 5, 2) := by decide +kernel
theorem dX11_openFold_43 : decode cX11_openFold 43 = .ok (.baload, 1) := by decide +kernel
theorem dX11_openFold_44 : decode cX11_openFold 44 = .ok (.ifCond .eq 17, 3) := by decide +kernel
theorem dX11_openFold_47 : decode cX11_openFold 47 = .ok (.aload_n 0, 1) := by decide +kernel
theorem dX11_openFold_48 : decode cX11_openFold 48 = .ok (.iload 5, 2) := by decide +kernel
theorem dX11_openFold_50 : decode cX11_openFold 50 = .ok (.iconst 0, 1) := by decide +kernel
theorem dX11_openFold_51 : decode cX11_openFold 51 = .ok (.bastore, 1) := by decide +kernel
theorem dX11_openFold_52 : decode cX11_openFold 52 = .ok (.iinc 4 1, 3) := by decide +kernel
theorem dX11_openFold_55 : decode cX11_openFold 55 = .ok (.iinc 5 1, 3) := by decide +kernel
theorem dX11_openFold_58 : decode cX11_openFold 58 = .ok (.goto (-24), 3) := by decide +kernel
theorem dX11_openFold_61 : decode cX11_openFold 61 = .ok (.iload 4, 2) := by decide +kernel
theorem dX11_openFold_63 : decode cX11_openFold 63 = .ok (.ireturn, 1) := by decide +kernel
theorem dX12_init_0 : decode cX12_init 0 = .ok (.aload_n 0, 1) := by decide +kernel
theorem dX12_init_1 : decode cX12_init 1 = .ok (.invokespecial 1, 3) := by decide +kernel
theorem dX12_init_4 : decode cX12_init 4 = .ok (.aload_n 0, 1) := by decide +kernel
theorem dX12_init_5 : decode cX12_init 5 = .ok (.sipush 3000, 3) := by decide +kernel
theorem dX12_init_8 : decode cX12_init 8 = .ok (.newarray .int, 2) := by decide +kernel
theorem dX12_init_10 : decode cX12_init 10 = .ok (.putfield 7, 3) := by decide +kernel
theorem dX12_init_13 : decode cX12_init 13 = .ok (.aload_n 0, 1) := by decide +kernel
theorem dX12_init_14 : decode cX12_init 14 = .ok (.bipush 8, 2) := by decide +kernel
theorem dX12_init_16 : decode cX12_init 16 = .ok (.newarray .int, 2) := by decide +kernel
theorem dX12_init_18 : decode cX12_init 18 = .ok (.putfield 13, 3) := by decide +kernel
theorem dX12_init_21 : decode cX12_init 21 = .ok (.aload_n 0, 1) := by decide +kernel
theorem dX12_init_22 : decode cX12_init 22 = .ok (.bipush 16, 2) := by decide +kernel
theorem dX12_init_24 : decode cX12_init 24 = .ok (.newarray .int, 2) := by decide +kernel
theorem dX12_init_26 : decode cX12_init 26 = .ok (.putfield 16, 3) := by decide +kernel
theorem dX12_init_29 : decode cX12_init 29 = .ok (.aload_n 0, 1) := by decide +kernel
theorem dX12_init_30 : decode cX12_init 30 = .ok (.bipush 16, 2) := by decide +kernel
theorem dX12_init_32 : decode cX12_init 32 = .ok (.newarray .boolean, 2) := by decide +kernel
theorem dX12_init_34 : decode cX12_init 34 = .ok (.putfield 19, 3) := by decide +kernel
theorem dX12_init_37 : decode cX12_init 37 = .ok (.aload_n 0, 1) := by decide +kernel
theorem dX12_init_38 : decode cX12_init 38 = .ok (.sipush 301, 3) := by decide +kernel
theorem dX12_init_41 : decode cX12_init 41 = .ok (.newarray .boolean, 2) := by decide +kernel
theorem dX12_init_43 : decode cX12_init 43 = .ok (.putfield 23, 3) := by decide +kernel
theorem dX12_init_46 : decode cX12_init 46 = .ok (.aload_n 0, 1) := by decide +kernel
theorem dX12_init_47 : decode cX12_init 47 = .ok (.iconst 1, 1) := by decide +kernel
theorem dX12_init_48 : decode cX12_init 48 = .ok (.putfield 26, 3) := by decide +kernel
theorem dX12_init_51 : decode cX12_init 51 = .ok (.aload_n 0, 1) := by decide +kernel
theorem dX12_init_52 : decode cX12_init 52 = .ok (.sipush 200, 3) := by decide +kernel
theorem dX12_init_55 : decode cX12_init 55 = .ok (.newarray .int, 2) := by decide +kernel
theorem dX12_init_57 : decode cX12_init 57 = .ok (.putfield 30, 3) := by decide +kernel
theorem dX12_init_60 : decode cX12_init 60 = .ok (.aload_n 0, 1) := by decide +kernel
theorem dX12_init_61 : decode cX12_init 61 = .ok (.sipush 12000, 3) := by decide +kernel
theorem dX12_init_64 : decode cX12_init 64 = .ok (.newarray .int, 2) := by decide +kernel
theorem dX12_init_66 : decode cX12_init 66 = .ok (.putfield 33, 3) := by decide +kernel
theorem dX12_init_69 : decode cX12_init 69 = .ok (.aload_n 0, 1) := by decide +kernel
theorem dX12_init_70 : decode cX12_init 70 = .ok (.bipush 40, 2) := by decide +kernel
theorem dX12_init_72 : decode cX12_init 72 = .ok (.newarray .int, 2) := by decide +kernel
theorem dX12_init_74 : decode cX12_init 74 = .ok (.putfield 36, 3) := by decide +kernel
theorem dX12_init_77 : decode cX12_init 77 = .ok (.aload_n 0, 1) := by decide +kernel
theorem dX12_init_78 : decode cX12_init 78 = .ok (.sipush 3000, 3) := by decide +kernel
theorem dX12_init_81 : decode cX12_init 81 = .ok (.newarray .int, 2) := by decide +kernel
theorem dX12_init_83 : decode cX12_init 83 = .ok (.putfield 39, 3) := by decide +kernel
theorem dX12_init_86 : decode cX12_init 86 = .ok (.aload_n 0, 1) := by decide +kernel
theorem dX12_init_87 : decode cX12_init 87 = .ok (.iconst 4, 1) := by decide +kernel
theorem dX12_init_88 : decode cX12_init 88 = .ok (.putfield 42, 3) := by decide +kernel
theorem dX12_init_91 : decode cX12_init 91 = .ok (.aload_n 0, 1) := by decide +kernel
theorem dX12_init_92 : decode cX12_init 92 = .ok (.iconst 2, 1) := by decide +kernel
theorem dX12_init_93 : decode cX12_init 93 = .ok (.newarray .int, 2) := by decide +kernel
theorem dX12_init_95 : decode cX12_init 95 = .ok (.dup, 1) := by decide +kernel
theorem dX12_init_96 : decode cX12_init 96 = .ok (.iconst 0, 1) := by decide +kernel
theorem dX12_init_97 : decode cX12_init 97 = .ok (.iconst 0, 1) := by decide +kernel
theorem dX12_init_98 : decode cX12_init 98 = .ok (.iastore, 1) := by decide +kernel
theorem dX12_init_99 : decode cX12_init 99 = .ok (.dup, 1) := by decide +kernel
theorem dX12_init_100 : decode cX12_init 100 = .ok (.iconst 1, 1) := by decide +kernel
theorem dX12_init_101 : decode cX12_init 101 = .ok (.iconst 0, 1) := by decide +kernel
theorem dX12_init_102 : decode cX12_init 102 = .ok (.iastore, 1) := by decide +kernel
theorem dX12_init_103 : decode cX12_init 103 = .ok (.putfield 45, 3) := by decide +kernel
theorem dX12_init_106 : decode cX12_init 106 = .ok (.aload_n 0, 1) := by decide +kernel
theorem dX12_init_107 : decode cX12_init 107 = .ok (.iconst 2, 1) := by decide +kernel
theorem dX12_init_108 : decode cX12_init 108 = .ok (.newarray .int, 2) := by decide +kernel
theorem dX12_init_110 : decode cX12_init 110 = .ok (.dup, 1) := by decide +kernel
theorem dX12_init_111 : decode cX12_init 111 = .ok (.iconst 0, 1) := by decide +kernel
theorem dX12_init_112 : decode cX12_init 112 = .ok (.bipush 10, 2) := by decide +kernel
theorem dX12_init_114 : decode cX12_init 114 = .ok (.iastore, 1) := by decide +kernel
theorem dX12_init_115 : decode cX12_init 115 = .ok (.dup, 1) := by decide +kernel
theorem dX12_init_116 : decode cX12_init 116 = .ok (.iconst 1, 1) := by decide +kernel
theorem dX12_init_117 : decode cX12_init 117 = .ok (.bipush 10, 2) := by decide +kernel
theorem dX12_init_119 : decode cX12_init 119 = .ok (.iastore, 1) := by decide +kernel
theorem dX12_init_120 : decode cX12_init 120 = .ok (.putfield 48, 3) := by decide +kernel
theorem dX12_init_123 : decode cX12_init 123 = .ok (.aload_n 0, 1) := by decide +kernel
theorem dX12_init_124 : decode cX12_init 124 = .ok (.sipush 3001, 3) := by decide +kernel
theorem dX12_init_127 : decode cX12_init 127 = .ok (.newarray .int, 2) := by decide +kernel
theorem dX12_init_129 : decode cX12_init 129 = .ok (.putfield 51, 3) := by decide +kernel
theorem dX12_init_132 : decode cX12_init 132 = .ok (.aload_n 0, 1) := by decide +kernel
theorem dX12_init_133 : decode cX12_init 133 = .ok (.sipush 3001, 3) := by decide +kernel
theorem dX12_init_136 : decode cX12_init 136 = .ok (.newarray .int, 2) := by decide +kernel
theorem dX12_init_138 : decode cX12_init 138 = .ok (.putfield 54, 3) := by decide +kernel
theorem dX12_init_141 : decode cX12_init 141 = .ok (.aload_n 0, 1) := by decide +kernel
theorem dX12_init_142 : decode cX12_init 142 = .ok (.sipush 3001, 3) := by decide +kernel
theorem dX12_init_145 : decode cX12_init 145 = .ok (.newarray .int, 2) := by decide +kernel
theorem dX12_init_147 : decode cX12_init 147 = .ok (.putfield 57, 3) := by decide +kernel
theorem dX12_init_150 : decode cX12_init 150 = .ok (.aload_n 0, 1) := by decide +kernel
theorem dX12_init_151 : decode cX12_init 151 = .ok (.sipush 3001, 3) := by decide +kernel
theorem dX12_init_154 : decode cX12_init 154 = .ok (.newarray .int, 2) := by decide +kernel
theorem dX12_init_156 : decode cX12_init 156 = .ok (.putfield 60, 3) := by decide +kernel
theorem dX12_init_159 : decode cX12_init 159 = .ok (.aload_n 0, 1) := by decide +kernel
theorem dX12_init_160 : decode cX12_init 160 = .ok (.sipush 3200, 3) := by decide +kernel
theorem dX12_init_163 : decode cX12_init 163 = .ok (.newarray .int, 2) := by decide +kernel
theorem dX12_init_165 : decode cX12_init 165 = .ok (.putfield 63, 3) := by decide +kernel
theorem dX12_init_168 : decode cX12_init 168 = .ok (.aload_n 0, 1) := by decide +kernel
theorem dX12_init_169 : decode cX12_init 169 = .ok (.sipush 151, 3) := by decide +kernel
theorem dX12_init_172 : decode cX12_init 172 = .ok (.newarray .int, 2) := by decide +kernel
theorem dX12_init_174 : decode cX12_init 174 = .ok (.putfield 66, 3) := by decide +kernel
theorem dX12_init_177 : decode cX12_init 177 = .ok (.aload_n 0, 1) := by decide +kernel
theorem dX12_init_178 : decode cX12_init 178 = .ok (.sipush 151, 3) := by decide +kernel
theorem dX12_init_181 : decode cX12_init 181 = .ok (.newarray .int, 2) := by decide +kernel
theorem dX12_init_183 : decode cX12_init 183 = .ok (.putfield 69, 3) := by decide +kernel
theorem dX12_init_186 : decode cX12_init 186 = .ok (.aload_n 0, 1) := by decide +kernel
theorem dX12_init_187 : decode cX12_init 187 = .ok (.iconst (-1), 1) := by decide +kernel
theorem dX12_init_188 : decode cX12_init 188 = .ok (.putfield 72, 3) := by decide +kernel
theorem dX12_init_191 : decode cX12_init 191 = .ok (.aload_n 0, 1) := by decide +kernel
theorem dX12_init_192 : decode cX12_init 192 = .ok (.ldc 75, 2) := by decide +kernel
theorem dX12_init_194 : decode cX12_init 194 = .ok (.newarray .int, 2) := by decide +kernel
theorem dX12_init_196 : decode cX12_init 196 = .ok (.putfield 76, 3) := by decide +kernel
theorem dX12_init_199 : decode cX12_init 199 = .ok (.aload_n 0, 1) := by decide +kernel
theorem dX12_init_200 : decode cX12_init 200 = .ok (.sipush 301, 3) := by decide +kernel
theorem dX12_init_203 : decode cX12_init 203 = .ok (.newarray .int, 2) := by decide +kernel
theorem dX12_init_205 : decode cX12_init 205 = .ok (.putfield 79, 3) := by decide +kernel
theorem dX12_init_208 : decode cX12_init 208 = .ok (.aload_n 0, 1) := by decide +kernel
theorem dX12_init_209 : decode cX12_init 209 = .ok (.sipush 2408, 3) := by decide +kernel
theorem dX12_init_212 : decode cX12_init 212 = .ok (.newarray .int, 2) := by decide +kernel
theorem dX12_init_214 : decode cX12_init 214 = .ok (.putfield 82, 3) := by decide +kernel
theorem dX12_init_217 : decode cX12_init 217 = .ok (.aload_n 0, 1) := by decide +kernel
theorem dX12_init_218 : decode cX12_init 218 = .ok (.sipush 301, 3) := by decide +kernel
theorem dX12_init_221 : decode cX12_init 221 = .ok (.newarray .int, 2) := by decide +kernel
theorem dX12_init_223 : decode cX12_init 223 = .ok (.putfield 85, 3) := by decide +kernel
theorem dX12_init_226 : decode cX12_init 226 = .ok (.aload_n 0, 1) := by decide +kernel
theorem dX12_init_227 : decode cX12_init 227 = .ok (.sipush 4816, 3) := by decide +kernel
theorem dX12_init_230 : decode cX12_init 230 = .ok (.newarray .int, 2) := by decide +kernel
theorem dX12_init_232 : decode cX12_init 232 = .ok (.putfield 88, 3) := by decide +kernel
theorem dX12_init_235 : decode cX12_init 235 = .ok (.aload_n 0, 1) := by decide +kernel
theorem dX12_init_236 : decode cX12_init 236 = .ok (.sipush 4816, 3) := by decide +kernel
theorem dX12_init_239 : decode cX12_init 239 = .ok (.newarray .boolean, 2) := by decide +kernel
theorem dX12_init_241 : decode cX12_init 241 = .ok (.putfield 91, 3) := by decide +kernel
theorem dX12_init_244 : decode cX12_init 244 = .ok (.aload_n 0, 1) := by decide +kernel
theorem dX12_init_245 : decode cX12_init 245 = .ok (.ldc 94, 2) := by decide +kernel
theorem dX12_init_247 : decode cX12_init 247 = .ok (.newarray .boolean, 2) := by decide +kernel
theorem dX12_init_249 : decode cX12_init 249 = .ok (.putfield 95, 3) := by decide +kernel
theorem dX12_init_252 : decode cX12_init 252 = .ok (.aload_n 0, 1) := by decide +kernel
theorem dX12_init_253 : decode cX12_init 253 = .ok (.sipush 3000, 3) := by decide +kernel
theorem dX12_init_256 : decode cX12_init 256 = .ok (.newarray .int, 2) := by decide +kernel
theorem dX12_init_258 : decode cX12_init 258 = .ok (.putfield 98, 3) := by decide +kernel
theorem dX12_init_261 : decode cX12_init 261 = .ok (.aload_n 0, 1) := by decide +kernel
theorem dX12_init_262 : decode cX12_init 262 = .ok (.bipush 40, 2) := by decide +kernel
theorem dX12_init_264 : decode cX12_init 264 = .ok (.newarray .int, 2) := by decide +kernel
theorem dX12_init_266 : decode cX12_init 266 = .ok (.putfield 101, 3) := by decide +kernel
theorem dX12_init_269 : decode cX12_init 269 = .ok (.aload_n 0, 1) := by decide +kernel
theorem dX12_init_270 : decode cX12_init 270 = .ok (.bipush 40, 2) := by decide +kernel
theorem dX12_init_272 : decode cX12_init 272 = .ok (.newarray .int, 2) := by decide +kernel
theorem dX12_init_274 : decode cX12_init 274 = .ok (.putfield 104, 3) := by decide +kernel
theorem dX12_init_277 : decode cX12_init 277 = .ok (.aload_n 0, 1) := by decide +kernel
theorem dX12_init_278 : decode cX12_init 278 = .ok (.bipush 40, 2) := by decide +kernel
theorem dX12_init_280 : decode cX12_init 280 = .ok (.newarray .int, 2) := by decide +kernel
theorem dX12_init_282 : decode cX12_init 282 = .ok (.putfield 107, 3) := by decide +kernel
theorem dX12_init_285 : decode cX12_init 285 = .ok (.aload_n 0, 1) := by decide +kernel
theorem dX12_init_286 : decode cX12_init 286 = .ok (.bipush 40, 2) := by decide +kernel
theorem dX12_init_288 : decode cX12_init 288 = .ok (.newarray .int, 2) := by decide +kernel
theorem dX12_init_290 : decode cX12_init 290 = .ok (.putfield 110, 3) := by decide +kernel
theorem dX12_init_293 : decode cX12_init 293 = .ok (.aload_n 0, 1) := by decide +kernel
theorem dX12_init_294 : decode cX12_init 294 = .ok (.sipush 8000, 3) := by decide +kernel
theorem dX12_init_297 : decode cX12_init 297 = .ok (.newarray .int, 2) := by decide +kernel
theorem dX12_init_299 : decode cX12_init 299 = .ok (.putfield 113, 3) := by decide +kernel
theorem dX12_init_302 : decode cX12_init 302 = .ok (.aload_n 0, 1) := by decide +kernel
theorem dX12_init_303 : decode cX12_init 303 = .ok (.sipush 200, 3) := by decide +kernel
theorem dX12_init_306 : decode cX12_init 306 = .ok (.newarray .int, 2) := by decide +kernel
theorem dX12_init_308 : decode cX12_init 308 = .ok (.putfield 116, 3) := by decide +kernel
theorem dX12_init_311 : decode cX12_init 311 = .ok (.aload_n 0, 1) := by decide +kernel
theorem dX12_init_312 : decode cX12_init 312 = .ok (.sipush 302, 3) := by decide +kernel
theorem dX12_init_315 : decode cX12_init 315 = .ok (.newarray .int, 2) := by decide +kernel
theorem dX12_init_317 : decode cX12_init 317 = .ok (.putfield 119, 3) := by decide +kernel
theorem dX12_init_320 : decode cX12_init 320 = .ok (.aload_n 0, 1) := by decide +kernel
theorem dX12_init_321 : decode cX12_init 321 = .ok (.sipush 302, 3) := by decide +kernel
theorem dX12_init_324 : decode cX12_init 324 = .ok (.newarray .int, 2) := by decide +kernel
theorem dX12_init_326 : decode cX12_init 326 = .ok (.putfield 122, 3) := by decide +kernel
theorem dX12_init_329 : decode cX12_init 329 = .ok (.aload_n 0, 1) := by decide +kernel
theorem dX12_init_330 : decode cX12_init 330 = .ok (.sipush 302, 3) := by decide +kernel
theorem dX12_init_333 : decode cX12_init 333 = .ok (.newarray .int, 2) := by decide +kernel
theorem dX12_init_335 : decode cX12_init 335 = .ok (.putfield 125, 3) := by decide +kernel
theorem dX12_init_338 : decode cX12_init 338 = .ok (.aload_n 0, 1) := by decide +kernel
theorem dX12_init_339 : decode cX12_init 339 = .ok (.sipush 302, 3) := by decide +kernel
theorem dX12_init_342 : decode cX12_init 342 = .ok (.newarray .int, 2) := by decide +kernel
theorem dX12_init_344 : decode cX12_init 344 = .ok (.putfield 128, 3) := by decide +kernel
theorem dX12_init_347 : decode cX12_init 347 = .ok (.iconst 0, 1) := by decide +kernel
theorem dX12_init_348 : decode cX12_init 348 = .ok (.istore_n 1, 1) := by decide +kernel
theorem dX12_init_349 : decode cX12_init 349 = .ok (.iload_n 1, 1) := by decide +kernel
theorem dX12_init_350 : decode cX12_init 350 = .ok (.bipush 16, 2) := by decide +kernel
theorem dX12_init_352 : decode cX12_init 352 = .ok (.if_icmp .ge 16, 3) := by decide +kernel
theorem dX12_init_355 : decode cX12_init 355 = .ok (.aload_n 0, 1) := by decide +kernel
theorem dX12_init_356 : decode cX12_init 356 = .ok (.getfield 16, 3) := by decide +kernel
theorem dX12_init_359 : decode cX12_init 359 = .ok (.iload_n 1, 1) := by decide +kernel
theorem dX12_init_360 : decode cX12_init 360 = .ok (.iconst (-1), 1) := by decide +kernel
theorem dX12_init_361 : decode cX12_init 361 = .ok (.iastore, 1) := by decide +kernel
theorem dX12_init_362 : decode cX12_init 362 = .ok (.iinc 1 1, 3) := by decide +kernel
theorem dX12_init_365 : decode cX12_init 365 = .ok (.goto (-16), 3) := by decide +kernel
theorem dX12_init_368 : decode cX12_init 368 = .ok (.return_, 1) := by decide +kernel
theorem dX12_thrown_0 : decode cX12_thrown 0 = .ok (.aload_n 0, 1) := by decide +kernel
theorem dX12_thrown_1 : decode cX12_thrown 1 = .ok (.getfield 131, 3) := by decide +kernel
theorem dX12_thrown_4 : decode cX12_thrown 4 = .ok (.ireturn, 1) := by decide +kernel
theorem dX12_in_0 : decode cX12_in 0 = .ok (.iload_n 0, 1) := by decide +kernel
theorem dX12_in_1 : decode cX12_in 1 = .ok (.iload_n 1, 1) := by decide +kernel
theorem dX12_in_2 : decode cX12_in 2 = .ok (.if_icmp .lt 12, 3) := by decide +kernel
theorem dX12_in_5 : decode cX12_in 5 = .ok (.iload_n 0, 1) := by decide +kernel
theorem dX12_in_6 : decode cX12_in 6 = .ok (.iload_n 2, 1) := by decide +kernel
theorem dX12_in_7 : decode cX12_in 7 = .ok (.if_icmp .gt 7, 3) := by decide +kernel
theorem dX12_in_10 : decode cX12_in 10 = .ok (.iconst 1, 1) := by decide +kernel
theorem dX12_in_11 : decode cX12_in 11 = .ok (.goto 4, 3) := by decide +kernel
theorem dX12_in_14 : decode cX12_in 14 = .ok (.iconst 0, 1) := by decide +kernel
theorem dX12_in_15 : decode cX12_in 15 = .ok (.ireturn, 1) := by decide +kernel
theorem dX12_less_0 : decode cX12_less 0 = .ok (.iload_n 0, 1) := by decide +kernel
theorem dX12_less_1 : decode cX12_less 1 = .ok (.iload_n 1, 1) := by decide +kernel
theorem dX12_less_2 : decode cX12_less 2 = .ok (.if_icmp .ge 7, 3) := by decide +kernel
theorem dX12_less_5 : decode cX12_less 5 = .ok (.iload_n 0, 1) := by decide +kernel
theorem dX12_less_6 : decode cX12_less 6 = .ok (.goto 4, 3) := by decide +kernel
theorem dX12_less_9 : decode cX12_less 9 = .ok (.iload_n 1, 1) := by decide +kernel
theorem dX12_less_10 : decode cX12_less 10 = .ok (.ireturn, 1) := by decide +kernel
theorem dX12_more_0 : decode cX12_more 0 = .ok (.iload_n 0, 1) := by decide +kernel
theorem dX12_more_1 : decode cX12_more 1 = .ok (.iload_n 1, 1) := by decide +kernel
theorem dX12_more_2 : decode cX12_more 2 = .ok (.if_icmp .ge 7, 3) := by decide +kernel
theorem dX12_more_5 : decode cX12_more 5 = .ok (.iload_n 1, 1) := by decide +kernel
theorem dX12_more_6 : decode cX12_more 6 = .ok (.goto 4, 3) := by decide +kernel
theorem dX12_more_9 : decode cX12_more 9 = .ok (.iload_n 0, 1) := by decide +kernel
theorem dX12_more_10 : decode cX12_more 10 = .ok (.ireturn, 1) := by decide +kernel
theorem dX12_refuse_0 : decode cX12_refuse 0 = .ok (.aload_n 0, 1) := by decide +kernel
theorem dX12_refuse_1 : decode cX12_refuse 1 = .ok (.iload_n 1, 1) := by decide +kernel
theorem dX12_refuse_2 : decode cX12_refuse 2 = .ok (.putfield 131, 3) := by decide +kernel
theorem dX12_refuse_5 : decode cX12_refuse 5 = .ok (.iconst 0, 1) := by decide +kernel
theorem dX12_refuse_6 : decode cX12_refuse 6 = .ok (.ireturn, 1) := by decide +kernel
theorem dX12_told_0 : decode cX12_told 0 = .ok (.aload_n 0, 1) := by decide +kernel
theorem dX12_told_1 : decode cX12_told 1 = .ok (.iconst 0, 1) := by decide +kernel
theorem dX12_told_2 : decode cX12_told 2 = .ok (.putfield 131, 3) := by decide +kernel
theorem dX12_told_5 : decode cX12_told 5 = .ok (.iload_n 1, 1) := by decide +kernel
theorem dX12_told_6 : decode cX12_told 6 = .ok (.ireturn, 1) := by decide +kernel
theorem dX12_says_0 : decode cX12_says 0 = .ok (.aload_n 0, 1) := by decide +kernel
theorem dX12_says_1 : decode cX12_says 1 = .ok (.iconst 0, 1) := by decide +kernel
theorem dX12_says_2 : decode cX12_says 2 = .ok (.putfield 131, 3) := by decide +kernel
theorem dX12_says_5 : decode cX12_says 5 = .ok (.iload_n 1, 1) := by decide +kernel
theorem dX12_says_6 : decode cX12_says 6 = .ok (.ireturn, 1) := by decide +kernel
theorem dX12_denies_0 : decode cX12_denies 0 = .ok (.aload_n 0, 1) := by decide +kernel
theorem dX12_denies_1 : decode cX12_denies 1 = .ok (.iload_n 1, 1) := by decide +kernel
theorem dX12_denies_2 : decode cX12_denies 2 = .ok (.putfield 131, 3) := by decide +kernel
theorem dX12_denies_5 : decode cX12_denies 5 = .ok (.iconst 0, 1) := by decide +kernel
theorem dX12_denies_6 : decode cX12_denies 6 = .ok (.ireturn, 1) := by decide +kernel
theorem dX12_isLetter_0 : decode cX12_isLetter 0 = .ok (.iload_n 0, 1) := by decide +kernel
theorem dX12_isLetter_1 : decode cX12_isLetter 1 = .ok (.bipush 10, 2) := by decide +kernel
theorem dX12_isLetter_3 : decode cX12_isLetter 3 = .ok (.if_icmp .eq 20, 3) := by decide +kernel
theorem dX12_isLetter_6 : decode cX12_isLetter 6 = .ok (.iload_n 0, 1) := by decide +kernel
theorem dX12_isLetter_7 : decode cX12_isLetter 7 = .ok (.bipush 9, 2) := by decide +kernel
theorem dX12_isLetter_9 : decode cX12_isLetter 9 = .ok (.if_icmp .eq 14, 3) := by decide +kernel
theorem dX12_isLetter_12 : decode cX12_isLetter 12 = .ok (.iload_n 0, 1) := by decide +kernel
theorem dX12_isLetter_13 : decode cX12_isLetter 13 = .ok (.bipush 32, 2) := by decide +kernel
theorem dX12_isLetter_15 : decode cX12_isLetter 15 = .ok (.bipush 126, 2) := by decide +kernel
theorem dX12_isLetter_17 : decode cX12_isLetter 17 = .ok (.invokestatic 134, 3) := by decide +kernel
theorem dX12_isLetter_20 : decode cX12_isLetter 20 = .ok (.ifCond .eq 7, 3) := by decide +kernel
theorem dX12_isLetter_23 : decode cX12_isLetter 23 = .ok (.iconst 1, 1) := by decide +kernel
theorem dX12_isLetter_24 : decode cX12_isLetter 24 = .ok (.goto 4, 3) := by decide +kernel
theorem dX12_isLetter_27 : decode cX12_isLetter 27 = .ok (.iconst 0, 1) := by decide +kernel
theorem dX12_isLetter_28 : decode cX12_isLetter 28 = .ok (.ireturn, 1) := by decide +kernel
theorem dX12_isSpace_0 : decode cX12_isSpace 0 = .ok (.iload_n 0, 1) := by decide +kernel
theorem dX12_isSpace_1 : decode cX12_isSpace 1 = .ok (.bipush 32, 2) := by decide +kernel
theorem dX12_isSpace_3 : decode cX12_isSpace 3 = .ok (.if_icmp .eq 9, 3) := by decide +kernel
theorem dX12_isSpace_6 : decode cX12_isSpace 6 = .ok (.iload_n 0, 1) := by decide +kernel
theorem dX12_isSpace_7 : decode cX12_isSpace 7 = .ok (.bipush 9, 2) := by decide +kernel
theorem dX12_isSpace_9 : decode cX12_isSpace 9 = .ok (.if_icmp .ne 7, 3) := by decide +kernel
theorem dX12_isSpace_12 : decode cX12_isSpace 12 = .ok (.iconst 1, 1) := by decide +kernel
theorem dX12_isSpace_13 : decode cX12_isSpace 13 = .ok (.goto 4, 3) := by decide +kernel
theorem dX12_isSpace_16 : decode cX12_isSpace 16 = .ok (.iconst 0, 1) := by decide +kernel
theorem dX12_isSpace_17 : decode cX12_isSpace 17 = .ok (.ireturn, 1) := by decide +kernel
theorem dX12_isOfWord_0 : decode cX12_isOfWord 0 = .ok (.iload_n 0, 1) := by decide +kernel
theorem dX12_isOfWord_1 : decode cX12_isOfWord 1 = .ok (.bipush 65, 2) := by decide +kernel
theorem dX12_isOfWord_3 : decode cX12_isOfWord 3 = .ok (.bipush 90, 2) := by decide +kernel
theorem dX12_isOfWord_5 : decode cX12_isOfWord 5 = .ok (.invokestatic 134, 3) := by decide +kernel
theorem dX12_isOfWord_8 : decode cX12_isOfWord 8 = .ok (.ifCond .ne 31, 3) := by decide +kernel
theorem dX12_isOfWord_11 : decode cX12_isOfWord 11 = .ok (.iload_n 0, 1) := by decide +kernel
theorem dX12_isOfWord_12 : decode cX12_isOfWord 12 = .ok (.bipush 97, 2) := by decide +kernel
theorem dX12_isOfWord_14 : decode cX12_isOfWord 14 = .ok (.bipush 122, 2) := by decide +kernel
theorem dX12_isOfWord_16 : decode cX12_isOfWord 16 = .ok (.invokestatic 134, 3) := by decide +kernel
theorem dX12_isOfWord_19 : decode cX12_isOfWord 19 = .ok (.ifCond .ne 20, 3) := by decide +kernel
theorem dX12_isOfWord_22 : decode cX12_isOfWord 22 = .ok (.iload_n 0, 1) := by decide +kernel
theorem dX12_isOfWord_23 : decode cX12_isOfWord 23 = .ok (.bipush 48, 2) := by decide +kernel
theorem dX12_isOfWord_25 : decode cX12_isOfWord 25 = .ok (.bipush 57, 2) := by decide +kernel
theorem dX12_isOfWord_27 : decode cX12_isOfWord 27 = .ok (.invokestatic 134, 3) := by decide +kernel
theorem dX12_isOfWord_30 : decode cX12_isOfWord 30 = .ok (.ifCond .ne 9, 3) := by decide +kernel
theorem dX12_isOfWord_33 : decode cX12_isOfWord 33 = .ok (.iload_n 0, 1) := by decide +kernel
theorem dX12_isOfWord_34 : decode cX12_isOfWord 34 = .ok (.bipush 95, 2) := by decide +kernel
theorem dX12_isOfWord_36 : decode cX12_isOfWord 36 = .ok (.if_icmp .ne 7, 3) := by decide +kernel
theorem dX12_isOfWord_39 : decode cX12_isOfWord 39 = .ok (.iconst 1, 1) := by decide +kernel
theorem dX12_isOfWord_40 : decode cX12_isOfWord 40 = .ok (.goto 4, 3) := by decide +kernel
theorem dX12_isOfWord_43 : decode cX12_isOfWord 43 = .ok (.iconst 0, 1) := by decide +kernel
theorem dX12_isOfWord_44 : decode cX12_isOfWord 44 = .ok (.ireturn, 1) := by decide +kernel
theorem dX12_isPlace_0 : decode cX12_isPlace 0 = .ok (.iload_n 1, 1) := by decide +kernel
theorem dX12_isPlace_1 : decode cX12_isPlace 1 = .ok (.iconst 0, 1) := by decide +kernel
theorem dX12_isPlace_2 : decode cX12_isPlace 2 = .ok (.aload_n 0, 1) := by decide +kernel
theorem dX12_isPlace_3 : decode cX12_isPlace 3 = .ok (.getfield 138, 3) := by decide +kernel
theorem dX12_isPlace_6 : decode cX12_isPlace 6 = .ok (.invokestatic 134, 3) := by decide +kernel
theorem dX12_isPlace_9 : decode cX12_isPlace 9 = .ok (.ireturn, 1) := by decide +kernel
theorem dX12_lines_0 : decode cX12_lines 0 = .ok (.iconst 1, 1) := by decide +kernel
theorem dX12_lines_1 : decode cX12_lines 1 = .ok (.istore_n 1, 1) := by decide +kernel
theorem dX12_lines_2 : decode cX12_lines 2 = .ok (.iconst 0, 1) := by decide +kernel
theorem dX12_lines_3 : decode cX12_lines 3 = .ok (.istore_n 2, 1) := by decide +kernel
theorem dX12_lines_4 : decode cX12_lines 4 = .ok (.iload_n 2, 1) := by decide +kernel
theorem dX12_lines_5 : decode cX12_lines 5 = .ok (.aload_n 0, 1) := by decide +kernel
theorem dX12_lines_6 : decode cX12_lines 6 = .ok (.getfield 138, 3) := by decide +kernel
theorem dX12_lines_9 : decode cX12_lines 9 = .ok (.if_icmp .ge 28, 3) := by decide +kernel
theorem dX12_lines_12 : decode cX12_lines 12 = .ok (.iload_n 1, 1) := by decide +kernel
theorem dX12_lines_13 : decode cX12_lines 13 = .ok (.aload_n 0, 1) := by decide +kernel
theorem dX12_lines_14 : decode cX12_lines 14 = .ok (.getfield 7, 3) := by decide +kernel
theorem dX12_lines_17 : decode cX12_lines 17 = .ok (.iload_n 2, 1) := by decide +kernel
theorem dX12_lines_18 : decode cX12_lines 18 = .ok (.iaload, 1) := by decide +kernel
theorem dX12_lines_19 : decode cX12_lines 19 = .ok (.bipush 10, 2) := by decide +kernel
theorem dX12_lines_21 : decode cX12_lines 21 = .ok (.if_icmp .ne 7, 3) := by decide +kernel
theorem dX12_lines_24 : decode cX12_lines 24 = .ok (.iconst 1, 1) := by decide +kernel
theorem dX12_lines_25 : decode cX12_lines 25 = .ok (.goto 4, 3) := by decide +kernel
theorem dX12_lines_28 : decode cX12_lines 28 = .ok (.iconst 0, 1) := by decide +kernel
theorem dX12_lines_29 : decode cX12_lines 29 = .ok (.iadd, 1) := by decide +kernel
theorem dX12_lines_30 : decode cX12_lines 30 = .ok (.istore_n 1, 1) := by decide +kernel
theorem dX12_lines_31 : decode cX12_lines 31 = .ok (.iinc 2 1, 3) := by decide +kernel
theorem dX12_lines_34 : decode cX12_lines 34 = .ok (.goto (-30), 3) := by decide +kernel
theorem dX12_lines_37 : decode cX12_lines 37 = .ok (.iload_n 1, 1) := by decide +kernel
theorem dX12_lines_38 : decode cX12_lines 38 = .ok (.ireturn, 1) := by decide +kernel
theorem dX12_isLine_0 : decode cX12_isLine 0 = .ok (.iload_n 1, 1) := by decide +kernel
theorem dX12_isLine_1 : decode cX12_isLine 1 = .ok (.iconst 0, 1) := by decide +kernel
theorem dX12_isLine_2 : decode cX12_isLine 2 = .ok (.aload_n 0, 1) := by decide +kernel
theorem dX12_isLine_3 : decode cX12_isLine 3 = .ok (.invokevirtual 141, 3) := by decide +kernel
theorem dX12_isLine_6 : decode cX12_isLine 6 = .ok (.iconst 1, 1) := by decide +kernel
theorem dX12_isLine_7 : decode cX12_isLine 7 = .ok (.isub, 1) := by decide +kernel
theorem dX12_isLine_8 : decode cX12_isLine 8 = .ok (.invokestatic 134, 3) := by decide +kernel
theorem dX12_isLine_11 : decode cX12_isLine 11 = .ok (.ireturn, 1) := by decide +kernel
theorem dX12_lineAt_0 : decode cX12_lineAt 0 = .ok (.iconst 0, 1) := by decide +kernel
theorem dX12_lineAt_1 : decode cX12_lineAt 1 = .ok (.istore_n 2, 1) := by decide +kernel
theorem dX12_lineAt_2 : decode cX12_lineAt 2 = .ok (.iconst 0, 1) := by decide +kernel
theorem dX12_lineAt_3 : decode cX12_lineAt 3 = .ok (.istore_n 3, 1) := by decide +kernel
theorem dX12_lineAt_4 : decode cX12_lineAt 4 = .ok (.iload_n 3, 1) := by decide +kernel
theorem dX12_lineAt_5 : decode cX12_lineAt 5 = .ok (.iload_n 1, 1) := by decide +kernel
theorem dX12_lineAt_6 : decode cX12_lineAt 6 = .ok (.if_icmp .ge 28, 3) := by decide +kernel
theorem dX12_lineAt_9 : decode cX12_lineAt 9 = .ok (.iload_n 2, 1) := by decide +kernel
theorem dX12_lineAt_10 : decode cX12_lineAt 10 = .ok (.aload_n 0, 1) := by decide +kernel
theorem dX12_lineAt_11 : decode cX12_lineAt 11 = .ok (.getfield 7, 3) := by decide +kernel
theorem dX12_lineAt_14 : decode cX12_lineAt 14 = .ok (.iload_n 3, 1) := by decide +kernel
theorem dX12_lineAt_15 : decode cX12_lineAt 15 = .ok (.iaload, 1) := by decide +kernel
theorem dX12_lineAt_16 : decode cX12_lineAt 16 = .ok (.bipush 10, 2) := by decide +kernel
theorem dX12_lineAt_18 : decode cX12_lineAt 18 = .ok (.if_icmp .ne 7, 3) := by decide +kernel
theorem dX12_lineAt_21 : decode cX12_lineAt 21 = .ok (.iconst 1, 1) := by decide +kernel
theorem dX12_lineAt_22 : decode cX12_lineAt 22 = .ok (.goto 4, 3) := by decide +kernel
theorem dX12_lineAt_25 : decode cX12_lineAt 25 = .ok (.iconst 0, 1) := by decide +kernel
theorem dX12_lineAt_26 : decode cX12_lineAt 26 = .ok (.iadd, 1) := by decide +kernel
theorem dX12_lineAt_27 : decode cX12_lineAt 27 = .ok (.istore_n 2, 1) := by decide +kernel
theorem dX12_lineAt_28 : decode cX12_lineAt 28 = .ok (.iinc 3 1, 3) := by decide +kernel
theorem dX12_lineAt_31 : decode cX12_lineAt 31 = .ok (.goto (-27), 3) := by decide +kernel
theorem dX12_lineAt_34 : decode cX12_lineAt 34 = .ok (.iload_n 2, 1) := by decide +kernel
theorem dX12_lineAt_35 : decode cX12_lineAt 35 = .ok (.ireturn, 1) := by decide +kernel
theorem dX12_beginOf_0 : decode cX12_beginOf 0 = .ok (.iload_n 1, 1) := by decide +kernel
theorem dX12_beginOf_1 : decode cX12_beginOf 1 = .ok (.istore_n 2, 1) := by decide +kernel
theorem dX12_beginOf_2 : decode cX12_beginOf 2 = .ok (.iconst 0, 1) := by decide +kernel
theorem dX12_beginOf_3 : decode cX12_beginOf 3 = .ok (.istore_n 3, 1) := by decide +kernel
theorem dX12_beginOf_4 : decode cX12_beginOf 4 = .ok (.iload_n 2, 1) := by decide +kernel
theorem dX12_beginOf_5 : decode cX12_beginOf 5 = .ok (.ifCond .le 28, 3) := by decide +kernel
theorem dX12_beginOf_8 : decode cX12_beginOf 8 = .ok (.iload_n 2, 1) := by decide +kernel
theorem dX12_beginOf_9 : decode cX12_beginOf 9 = .ok (.aload_n 0, 1) := by decide +kernel
theorem dX12_beginOf_10 : decode cX12_beginOf 10 = .ok (.getfield 7, 3) := by decide +kernel
theorem dX12_beginOf_13 : decode cX12_beginOf 13 = .ok (.iload_n 3, 1) := by decide +kernel
theorem dX12_beginOf_14 : decode cX12_beginOf 14 = .ok (.iaload, 1) := by decide +kernel
theorem dX12_beginOf_15 : decode cX12_beginOf 15 = .ok (.bipush 10, 2) := by decide +kernel
theorem dX12_beginOf_17 : decode cX12_beginOf 17 = .ok (.if_icmp .ne 7, 3) := by decide +kernel
theorem dX12_beginOf_20 : decode cX12_beginOf 20 = .ok (.iconst 1, 1) := by decide +kernel
theorem dX12_beginOf_21 : decode cX12_beginOf 21 = .ok (.goto 4, 3) := by decide +kernel
theorem dX12_beginOf_24 : decode cX12_beginOf 24 = .ok (.iconst 0, 1) := by decide +kernel
theorem dX12_beginOf_25 : decode cX12_beginOf 25 = .ok (.isub, 1) := by decide +kernel
theorem dX12_beginOf_26 : decode cX12_beginOf 26 = .ok (.istore_n 2, 1) := by decide +kernel
theorem dX12_beginOf_27 : decode cX12_beginOf 27 = .ok (.iinc 3 1, 3) := by decide +kernel
theorem dX12_beginOf_30 : decode cX12_beginOf 30 = .ok (.goto (-26), 3) := by decide +kernel
theorem dX12_beginOf_33 : decode cX12_beginOf 33 = .ok (.iload_n 3, 1) := by decide +kernel
theorem dX12_beginOf_34 : decode cX12_beginOf 34 = .ok (.ireturn, 1) := by decide +kernel
theorem dX12_endOf_0 : decode cX12_endOf 0 = .ok (.aload_n 0, 1) := by decide +kernel
theorem dX12_endOf_1 : decode cX12_endOf 1 = .ok (.iload_n 1, 1) := by decide +kernel
theorem dX12_endOf_2 : decode cX12_endOf 2 = .ok (.invokevirtual 145, 3) := by decide +kernel
theorem dX12_endOf_5 : decode cX12_endOf 5 = .ok (.istore_n 2, 1) := by decide +kernel
theorem dX12_endOf_6 : decode cX12_endOf 6 = .ok (.iload_n 2, 1) := by decide +kernel
theorem dX12_endOf_7 : decode cX12_endOf 7 = .ok (.aload_n 0, 1) := by decide +kernel
theorem dX12_endOf_8 : decode cX12_endOf 8 = .ok (.getfield 138, 3) := by decide +kernel
theorem dX12_endOf_11 : decode cX12_endOf 11 = .ok (.if_icmp .ge 20, 3) := by decide +kernel
theorem dX12_endOf_14 : decode cX12_endOf 14 = .ok (.aload_n 0, 1) := by decide +kernel
theorem dX12_endOf_15 : decode cX12_endOf 15 = .ok (.getfield 7, 3) := by decide +kernel
theorem dX12_endOf_18 : decode cX12_endOf 18 = .ok (.iload_n 2, 1) := by decide +kernel
theorem dX12_endOf_19 : decode cX12_endOf 19 = .ok (.iaload, 1) := by decide +kernel
theorem dX12_endOf_20 : decode cX12_endOf 20 = .ok (.bipush 10, 2) := by decide +kernel
theorem dX12_endOf_22 : decode cX12_endOf 22 = .ok (.if_icmp .eq 9, 3) := by decide +kernel
theorem dX12_endOf_25 : decode cX12_endOf 25 = .ok (.iinc 2 1, 3) := by decide +kernel
theorem dX12_endOf_28 : decode cX12_endOf 28 = .ok (.goto (-22), 3) := by decide +kernel
theorem dX12_endOf_31 : decode cX12_endOf 31 = .ok (.iload_n 2, 1) := by decide +kernel
theorem dX12_endOf_32 : decode cX12_endOf 32 = .ok (.ireturn, 1) := by decide +kernel
theorem dX12_column_0 : decode cX12_column 0 = .ok (.iconst 0, 1) := by decide +kernel
theorem dX12_column_1 : decode cX12_column 1 = .ok (.istore_n 2, 1) := by decide +kernel
theorem dX12_column_2 : decode cX12_column 2 = .ok (.aload_n 0, 1) := by decide +kernel
theorem dX12_column_3 : decode cX12_column 3 = .ok (.aload_n 0, 1) := by decide +kernel
theorem dX12_column_4 : decode cX12_column 4 = .ok (.iload_n 1, 1) := by decide +kernel
theorem dX12_column_5 : decode cX12_column 5 = .ok (.invokevirtual 149, 3) := by decide +kernel
theorem dX12_column_8 : decode cX12_column 8 = .ok (.invokevirtual 145, 3) := by decide +kernel
theorem dX12_column_11 : decode cX12_column 11 = .ok (.istore_n 3, 1) := by decide +kernel
theorem dX12_column_12 : decode cX12_column 12 = .ok (.iload_n 3, 1) := by decide +kernel
theorem dX12_column_13 : decode cX12_column 13 = .ok (.iload_n 1, 1) := by decide +kernel
theorem dX12_column_14 : decode cX12_column 14 = .ok (.if_icmp .ge 40, 3) := by decide +kernel
theorem dX12_column_17 : decode cX12_column 17 = .ok (.aload_n 0, 1) := by decide +kernel
theorem dX12_column_18 : decode cX12_column 18 = .ok (.getfield 7, 3) := by decide +kernel
theorem dX12_column_21 : decode cX12_column 21 = .ok (.iload_n 3, 1) := by decide +kernel
theorem dX12_column_22 : decode cX12_column 22 = .ok (.iaload, 1) := by decide +kernel
theorem dX12_column_23 : decode cX12_column 23 = .ok (.bipush 9, 2) := by decide +kernel
theorem dX12_column_25 : decode cX12_column 25 = .ok (.if_icmp .ne 19, 3) := by decide +kernel
theorem dX12_column_28 : decode cX12_column 28 = .ok (.iload_n 2, 1) := by decide +kernel
theorem dX12_column_29 : decode cX12_column 29 = .ok (.aload_n 0, 1) := by decide +kernel
theorem dX12_column_30 : decode cX12_column 30 = .ok (.getfield 42, 3) := by decide +kernel
theorem dX12_column_33 : decode cX12_column 33 = .ok (.idiv, 1) := by decide +kernel
theorem dX12_column_34 : decode cX12_column 34 = .ok (.iconst 1, 1) := by decide +kernel
theorem dX12_column_35 : decode cX12_column 35 = .ok (.iadd, 1) := by decide +kernel
theorem dX12_column_36 : decode cX12_column 36 = .ok (.aload_n 0, 1) := by decide +kernel
theorem dX12_column_37 : decode cX12_column 37 = .ok (.getfield 42, 3) := by decide +kernel
theorem dX12_column_40 : decode cX12_column 40 = .ok (.imul, 1) := by decide +kernel
theorem dX12_column_41 : decode cX12_column 41 = .ok (.goto 6, 3) := by decide +kernel
theorem dX12_column_44 : decode cX12_column 44 = .ok (.iload_n 2, 1) := by decide +kernel
theorem dX12_column_45 : decode cX12_column 45 = .ok (.iconst 1, 1) := by decide +kernel
theorem dX12_column_46 : decode cX12_column 46 = .ok (.iadd, 1) := by decide +kernel
theorem dX12_column_47 : decode cX12_column 47 = .ok (.istore_n 2, 1) := by decide +kernel
theorem dX12_column_48 : decode cX12_column 48 = .ok (.iinc 3 1, 3) := by decide +kernel
theorem dX12_column_51 : decode cX12_column 51 = .ok (.goto (-39), 3) := by decide +kernel
theorem dX12_column_54 : decode cX12_column 54 = .ok (.iload_n 2, 1) := by decide +kernel
theorem dX12_column_55 : decode cX12_column 55 = .ok (.ireturn, 1) := by decide +kernel
theorem dX12_placeIn_0 : decode cX12_placeIn 0 = .ok (.iconst 0, 1) := by decide +kernel
theorem dX12_placeIn_1 : decode cX12_placeIn 1 = .ok (.istore_n 3, 1) := by decide +kernel
theorem dX12_placeIn_2 : decode cX12_placeIn 2 = .ok (.aload_n 0, 1) := by decide +kernel
theorem dX12_placeIn_3 : decode cX12_placeIn 3 = .ok (.iload_n 1, 1) := by decide +kernel
theorem dX12_placeIn_4 : decode cX12_placeIn 4 = .ok (.invokevirtual 145, 3) := by decide +kernel
theorem dX12_placeIn_7 : decode cX12_placeIn 7 = .ok (.istore 4, 2) := by decide +kernel
theorem dX12_placeIn_9 : decode cX12_placeIn 9 = .ok (.iload 4, 2) := by decide +kernel
theorem dX12_placeIn_11 : decode cX12_placeIn 11 = .ok (.aload_n 0, 1) := by decide +kernel
theorem dX12_placeIn_12 : decode cX12_placeIn 12 = .ok (.getfield 138, 3) := by decide +kernel
theorem dX12_placeIn_15 : decode cX12_placeIn 15 = .ok (.if_icmp .ge 58, 3) := by decide +kernel
theorem dX12_placeIn_18 : decode cX12_placeIn 18 = .ok (.aload_n 0, 1) := by decide +kernel
theorem dX12_placeIn_19 : decode cX12_placeIn 19 = .ok (.getfield 7, 3) := by decide +kernel
theorem dX12_placeIn_22 : decode cX12_placeIn 22 = .ok (.iload 4, 2) := by decide +kernel
theorem dX12_placeIn_24 : decode cX12_placeIn 24 = .ok (.iaload, 1) := by decide +kernel
theorem dX12_placeIn_25 : decode cX12_placeIn 25 = .ok (.bipush 10, 2) := by decide +kernel
theorem dX12_placeIn_27 : decode cX12_placeIn 27 = .ok (.if_icmp .eq 46, 3) := by decide +kernel
theorem dX12_placeIn_30 : decode cX12_placeIn 30 = .ok (.iload_n 3, 1) := by decide +kernel
theorem dX12_placeIn_31 : decode cX12_placeIn 31 = .ok (.iload_n 2, 1) := by decide +kernel
theorem dX12_placeIn_32 : decode cX12_placeIn 32 = .ok (.if_icmp .ge 41, 3) := by decide +kernel
theorem dX12_placeIn_35 : decode cX12_placeIn 35 = .ok (.aload_n 0, 1) := by decide +kernel
theorem dX12_placeIn_36 : decode cX12_placeIn 36 = .ok (.getfield 7, 3) := by decide +kernel
theorem dX12_placeIn_39 : decode cX12_placeIn 39 = .ok (.iload 4, 2) := by decide +kernel
theorem dX12_placeIn_41 : decode cX12_placeIn 41 = .ok (.iaload, 1) := by decide +kernel
theorem dX12_placeIn_42 : decode cX12_placeIn 42 = .ok (.bipush 9, 2) := by decide +kernel
theorem dX12_placeIn_44 : decode cX12_placeIn 44 = .ok (.if_icmp .ne 19, 3) := by decide +kernel
theorem dX12_placeIn_47 : decode cX12_placeIn 47 = .ok (.iload_n 3, 1) := by decide +kernel
theorem dX12_placeIn_48 : decode cX12_placeIn 48 = .ok (.aload_n 0, 1) := by decide +kernel
theorem dX12_placeIn_49 : decode cX12_placeIn 49 = .ok (.getfield 42, 3) := by decide +kernel
theorem dX12_placeIn_52 : decode cX12_placeIn 52 = .ok (.idiv, 1) := by decide +kernel
theorem dX12_placeIn_53 : decode cX12_placeIn 53 = .ok (.iconst 1, 1) := by decide +kernel
theorem dX12_placeIn_54 : decode cX12_placeIn 54 = .ok (.iadd, 1) := by decide +kernel
theorem dX12_placeIn_55 : decode cX12_placeIn 55 = .ok (.aload_n 0, 1) := by decide +kernel
theorem dX12_placeIn_56 : decode cX12_placeIn 56 = .ok (.getfield 42, 3) := by decide +kernel
theorem dX12_placeIn_59 : decode cX12_placeIn 59 = .ok (.imul, 1) := by decide +kernel
theorem dX12_placeIn_60 : decode cX12_placeIn 60 = .ok (.goto 6, 3) := by decide +kernel
theorem dX12_placeIn_63 : decode cX12_placeIn 63 = .ok (.iload_n 3, 1) := by decide +kernel
theorem dX12_placeIn_64 : decode cX12_placeIn 64 = .ok (.iconst 1, 1) := by decide +kernel
theorem dX12_placeIn_65 : decode cX12_placeIn 65 = .ok (.iadd, 1) := by decide +kernel
theorem dX12_placeIn_66 : decode cX12_placeIn 66 = .ok (.istore_n 3, 1) := by decide +kernel
theorem dX12_placeIn_67 : decode cX12_placeIn 67 = .ok (.iinc 4 1, 3) := by decide +kernel
theorem dX12_placeIn_70 : decode cX12_placeIn 70 = .ok (.goto (-61), 3) := by decide +kernel
theorem dX12_placeIn_73 : decode cX12_placeIn 73 = .ok (.iload 4, 2) := by decide +kernel
theorem dX12_placeIn_75 : decode cX12_placeIn 75 = .ok (.ireturn, 1) := by decide +kernel
theorem dX12_opens_0 : decode cX12_opens 0 = .ok (.aload_n 0, 1) := by decide +kernel
theorem dX12_opens_1 : decode cX12_opens 1 = .ok (.getfield 23, 3) := by decide +kernel
theorem dX12_opens_4 : decode cX12_opens 4 = .ok (.iload_n 1, 1) := by decide +kernel
theorem dX12_opens_5 : decode cX12_opens 5 = .ok (.baload, 1) := by decide +kernel
theorem dX12_opens_6 : decode cX12_opens 6 = .ok (.ifCond .ne 5, 3) := by decide +kernel
theorem dX12_opens_9 : decode cX12_opens 9 = .ok (.iconst 0, 1) := by decide +kernel
theorem dX12_opens_10 : decode cX12_opens 10 = .ok (.ireturn, 1) := by decide +kernel
theorem dX12_opens_11 : decode cX12_opens 11 = .ok (.iload_n 1, 1) := by decide +kernel
theorem dX12_opens_12 : decode cX12_opens 12 = .ok (.istore_n 2, 1) := by decide +kernel
theorem dX12_opens_13 : decode cX12_opens 13 = .ok (.aload_n 0, 1) := by decide +kernel
theorem dX12_opens_14 : decode cX12_opens 14 = .ok (.getfield 23, 3) := by decide +kernel
theorem dX12_opens_17 : decode cX12_opens 17 = .ok (.iload_n 2, 1) := by decide +kernel
theorem dX12_opens_18 : decode cX12_opens 18 = .ok (.iconst 1, 1) := by decide +kernel
theorem dX12_opens_19 : decode cX12_opens 19 = .ok (.isub, 1) := by decide +kernel
theorem dX12_opens_20 : decode cX12_opens 20 = .ok (.baload, 1) := by decide +kernel
theorem dX12_opens_21 : decode cX12_opens 21 = .ok (.ifCond .eq 9, 3) := by decide +kernel
theorem dX12_opens_24 : decode cX12_opens 24 = .ok (.iinc 2 (-1), 3) := by decide +kernel
theorem dX12_opens_27 : decode cX12_opens 27 = .ok (.goto (-14), 3) := by decide +kernel
theorem dX12_opens_30 : decode cX12_opens 30 = .ok (.iconst 0, 1) := by decide +kernel
theorem dX12_opens_31 : decode cX12_opens 31 = .ok (.istore_n 3, 1) := by decide +kernel
theorem dX12_opens_32 : decode cX12_opens 32 = .ok (.iload_n 2, 1) := by decide +kernel
theorem dX12_opens_33 : decode cX12_opens 33 = .ok (.iload_n 3, 1) := by decide +kernel
theorem dX12_opens_34 : decode cX12_opens 34 = .ok (.iadd, 1) := by decide +kernel
theorem dX12_opens_35 : decode cX12_opens 35 = .ok (.sipush 300, 3) := by decide +kernel
theorem dX12_opens_38 : decode cX12_opens 38 = .ok (.if_icmp .ge 29, 3) := by decide +kernel
theorem dX12_opens_41 : decode cX12_opens 41 = .ok (.aload_n 0, 1) := by decide +kernel
theorem dX12_opens_42 : decode cX12_opens 42 = .ok (.getfield 23, 3) := by decide +kernel
theorem dX12_opens_45 : decode cX12_opens 45 = .ok (.iload_n 2, 1) := by decide +kernel
theorem dX12_opens_46 : decode cX12_opens 46 = .ok (.iload_n 3, 1) := by decide +kernel
theorem dX12_opens_47 : decode cX12_opens 47 = .ok (.iadd, 1) := by decide +kernel
theorem dX12_opens_48 : decode cX12_opens 48 = .ok (.baload, 1) := by decide +kernel
theorem dX12_opens_49 : decode cX12_opens 49 = .ok (.ifCond .eq 18, 3) := by decide +kernel
theorem dX12_opens_52 : decode cX12_opens 52 = .ok (.aload_n 0, 1) := by decide +kernel
theorem dX12_opens_53 : decode cX12_opens 53 = .ok (.getfield 23, 3) := by decide +kernel
theorem dX12_opens_56 : decode cX12_opens 56 = .ok (.iload_n 2, 1) := by decide +kernel
theorem dX12_opens_57 : decode cX12_opens 57 = .ok (.iload_n 3, 1) := by decide +kernel
theorem dX12_opens_58 : decode cX12_opens 58 = .ok (.iadd, 1) := by decide +kernel
theorem dX12_opens_59 : decode cX12_opens 59 = .ok (.iconst 0, 1) := by decide +kernel
theorem dX12_opens_60 : decode cX12_opens 60 = .ok (.bastore, 1) := by decide +kernel
theorem dX12_opens_61 : decode cX12_opens 61 = .ok (.iinc 3 1, 3) := by decide +kernel
theorem dX12_opens_64 : decode cX12_opens 64 = .ok (.goto (-32), 3) := by decide +kernel
theorem dX12_opens_67 : decode cX12_opens 67 = .ok (.iload_n 3, 1) := by decide +kernel
theorem dX12_opens_68 : decode cX12_opens 68 = .ok (.ireturn, 1) := by decide +kernel
theorem dX12_opensAt_0 : decode cX12_opensAt 0 = .ok (.aload_n 0, 1) := by decide +kernel
theorem dX12_opensAt_1 : decode cX12_opensAt 1 = .ok (.aload_n 0, 1) := by decide +kernel
theorem dX12_opensAt_2 : decode cX12_opensAt 2 = .ok (.iload_n 1, 1) := by decide +kernel
theorem dX12_opensAt_3 : decode cX12_opensAt 3 = .ok (.invokevirtual 149, 3) := by decide +kernel
theorem dX12_opensAt_6 : decode cX12_opensAt 6 = .ok (.invokevirtual 152, 3) := by decide +kernel
theorem dX12_opensAt_9 : decode cX12_opensAt 9 = .ok (.istore_n 2, 1) := by decide +kernel
theorem dX12_opensAt_10 : decode cX12_opensAt 10 = .ok (.return_, 1) := by decide +kernel
theorem dX12_hiddenMany_0 : decode cX12_hiddenMany 0 = .ok (.iconst 0, 1) := by decide +kernel
theorem dX12_hiddenMany_1 : decode cX12_hiddenMany 1 = .ok (.istore_n 1, 1) := by decide +kernel
theorem dX12_hiddenMany_2 : decode cX12_hiddenMany 2 = .ok (.iconst 0, 1) := by decide +kernel
theorem dX12_hiddenMany_3 : decode cX12_hiddenMany 3 = .ok (.istore_n 2, 1) := by decide +kernel
theorem dX12_hiddenMany_4 : decode cX12_hiddenMany 4 = .ok (.iload_n 2, 1) := by decide +kernel
theorem dX12_hiddenMany_5 : decode cX12_hiddenMany 5 = .ok (.sipush 300, 3) := by decide +kernel
theorem dX12_hiddenMany_8 : decode cX12_hiddenMany 8 = .ok (.if_icmp .ge 26, 3) := by decide +kernel
theorem dX12_hiddenMany_11 : decode cX12_hiddenMany 11 = .ok (.iload_n 1, 1) := by decide +kernel
theorem dX12_hiddenMany_12 : decode cX12_hiddenMany 12 = .ok (.aload_n 0, 1) := by decide +kernel
theorem dX12_hiddenMany_13 : decode cX12_hiddenMany 13 = .ok (.getfield 23, 3) := by decide +kernel
theorem dX12_hiddenMany_16 : decode cX12_hiddenMany 16 = .ok (.iload_n 2, 1) := by decide +kernel
theorem dX12_hiddenMany_17 : decode cX12_hiddenMany 17 = .ok (.baload, 1) := by decide +kernel
theorem dX12_hiddenMany_18 : decode cX12_hiddenMany 18 = .ok (.ifCond .eq 7, 3) := by decide +kernel
theorem dX12_hiddenMany_21 : decode cX12_hiddenMany 21 = .ok (.iconst 1, 1) := by decide +kernel
theorem dX12_hiddenMany_22 : decode cX12_hiddenMany 22 = .ok (.goto 4, 3) := by decide +kernel
theorem dX12_hiddenMany_25 : decode cX12_hiddenMany 25 = .ok (.iconst 0, 1) := by decide +kernel
theorem dX12_hiddenMany_26 : decode cX12_hiddenMany 26 = .ok (.iadd, 1) := by decide +kernel
theorem dX12_hiddenMany_27 : decode cX12_hiddenMany 27 = .ok (.istore_n 1, 1) := by decide +kernel
theorem dX12_hiddenMany_28 : decode cX12_hiddenMany 28 = .ok (.iinc 2 1, 3) := by decide +kernel
theorem dX12_hiddenMany_31 : decode cX12_hiddenMany 31 = .ok (.goto (-27), 3) := by decide +kernel
theorem dX12_hiddenMany_34 : decode cX12_hiddenMany 34 = .ok (.iload_n 1, 1) := by decide +kernel
theorem dX12_hiddenMany_35 : decode cX12_hiddenMany 35 = .ok (.ireturn, 1) := by decide +kernel
theorem dX12_keeps_0 : decode cX12_keeps 0 = .ok (.aload_n 0, 1) := by decide +kernel
theorem dX12_keeps_1 : decode cX12_keeps 1 = .ok (.getfield 79, 3) := by decide +kernel
theorem dX12_keeps_4 : decode cX12_keeps 4 = .ok (.iload_n 1, 1) := by decide +kernel
theorem dX12_keeps_5 : decode cX12_keeps 5 = .ok (.aload_n 0, 1) := by decide +kernel
theorem dX12_keeps_6 : decode cX12_keeps 6 = .ok (.getfield 138, 3) := by decide +kernel
theorem dX12_keeps_9 : decode cX12_keeps 9 = .ok (.iastore, 1) := by decide +kernel
theorem dX12_keeps_10 : decode cX12_keeps 10 = .ok (.aload_n 0, 1) := by decide +kernel
theorem dX12_keeps_11 : decode cX12_keeps 11 = .ok (.getfield 85, 3) := by decide +kernel
theorem dX12_keeps_14 : decode cX12_keeps 14 = .ok (.iload_n 1, 1) := by decide +kernel
theorem dX12_keeps_15 : decode cX12_keeps 15 = .ok (.aload_n 0, 1) := by decide +kernel
theorem dX12_keeps_16 : decode cX12_keeps 16 = .ok (.getfield 26, 3) := by decide +kernel
theorem dX12_keeps_19 : decode cX12_keeps 19 = .ok (.iastore, 1) := by decide +kernel
theorem dX12_keeps_20 : decode cX12_keeps 20 = .ok (.iconst 0, 1) := by decide +kernel
theorem dX12_keeps_21 : decode cX12_keeps 21 = .ok (.istore_n 2, 1) := by decide +kernel
theorem dX12_keeps_22 : decode cX12_keeps 22 = .ok (.iload_n 2, 1) := by decide +kernel
theorem dX12_keeps_23 : decode cX12_keeps 23 = .ok (.aload_n 0, 1) := by decide +kernel
theorem dX12_keeps_24 : decode cX12_keeps 24 = .ok (.getfield 138, 3) := by decide +kernel
theorem dX12_keeps_27 : decode cX12_keeps 27 = .ok (.if_icmp .ge 27, 3) := by decide +kernel
theorem dX12_keeps_30 : decode cX12_keeps 30 = .ok (.aload_n 0, 1) := by decide +kernel
theorem dX12_keeps_31 : decode cX12_keeps 31 = .ok (.getfield 76, 3) := by decide +kernel
theorem dX12_keeps_34 : decode cX12_keeps 34 = .ok (.sipush 3000, 3) := by decide +kernel
theorem dX12_keeps_37 : decode cX12_keeps 37 = .ok (.iload_n 1, 1) := by decide +kernel
theorem dX12_keeps_38 : decode cX12_keeps 38 = .ok (.imul, 1) := by decide +kernel
theorem dX12_keeps_39 : decode cX12_keeps 39 = .ok (.iload_n 2, 1) := by decide +kernel
theorem dX12_keeps_40 : decode cX12_keeps 40 = .ok (.iadd, 1) := by decide +kernel
theorem dX12_keeps_41 : decode cX12_keeps 41 = .ok (.aload_n 0, 1) := by decide +kernel
theorem dX12_keeps_42 : decode cX12_keeps 42 = .ok (.getfield 7, 3) := by decide +kernel
theorem dX12_keeps_45 : decode cX12_keeps 45 = .ok (.iload_n 2, 1) := by decide +kernel
theorem dX12_keeps_46 : decode cX12_keeps 46 = .ok (.iaload, 1) := by decide +kernel
theorem dX12_keeps_47 : decode cX12_keeps 47 = .ok (.iastore, 1) := by decide +kernel
theorem dX12_keeps_48 : decode cX12_keeps 48 = .ok (.iinc 2 1, 3) := by decide +kernel
theorem dX12_keeps_51 : decode cX12_keeps 51 = .ok (.goto (-29), 3) := by decide +kernel
theorem dX12_keeps_54 : decode cX12_keeps 54 = .ok (.iconst 0, 1) := by decide +kernel
theorem dX12_keeps_55 : decode cX12_keeps 55 = .ok (.istore_n 2, 1) := by decide +kernel
theorem dX12_keeps_56 : decode cX12_keeps 56 = .ok (.iload_n 2, 1) := by decide +kernel
theorem dX12_keeps_57 : decode cX12_keeps 57 = .ok (.bipush 8, 2) := by decide +kernel
theorem dX12_keeps_59 : decode cX12_keeps 59 = .ok (.if_icmp .ge 26, 3) := by decide +kernel
theorem dX12_keeps_62 : decode cX12_keeps 62 = .ok (.aload_n 0, 1) := by decide +kernel
theorem dX12_keeps_63 : decode cX12_keeps 63 = .ok (.getfield 82, 3) := by decide +kernel
theorem dX12_keeps_66 : decode cX12_keeps 66 = .ok (.bipush 8, 2) := by decide +kernel
theorem dX12_keeps_68 : decode cX12_keeps 68 = .ok (.iload_n 1, 1) := by decide +kernel
theorem dX12_keeps_69 : decode cX12_keeps 69 = .ok (.imul, 1) := by decide +kernel
theorem dX12_keeps_70 : decode cX12_keeps 70 = .ok (.iload_n 2, 1) := by decide +kernel
theorem dX12_keeps_71 : decode cX12_keeps 71 = .ok (.iadd, 1) := by decide +kernel
theorem dX12_keeps_72 : decode cX12_keeps 72 = .ok (.aload_n 0, 1) := by decide +kernel
theorem dX12_keeps_73 : decode cX12_keeps 73 = .ok (.getfield 13, 3) := by decide +kernel
theorem dX12_keeps_76 : decode cX12_keeps 76 = .ok (.iload_n 2, 1) := by decide +kernel
theorem dX12_keeps_77 : decode cX12_keeps 77 = .ok (.iaload, 1) := by decide +kernel
theorem dX12_keeps_78 : decode cX12_keeps 78 = .ok (.iastore, 1) := by decide +kernel
theorem dX12_keeps_79 : decode cX12_keeps 79 = .ok (.iinc 2 1, 3) := by decide +kernel
theorem dX12_keeps_82 : decode cX12_keeps 82 = .ok (.goto (-26), 3) := by decide +kernel
theorem dX12_keeps_85 : decode cX12_keeps 85 = .ok (.iconst 0, 1) := by decide +kernel
theorem dX12_keeps_86 : decode cX12_keeps 86 = .ok (.istore_n 2, 1) := by decide +kernel
theorem dX12_keeps_87 : decode cX12_keeps 87 = .ok (.iload_n 2, 1) := by decide +kernel
theorem dX12_keeps_88 : decode cX12_keeps 88 = .ok (.bipush 16, 2) := by decide +kernel
theorem dX12_keeps_90 : decode cX12_keeps 90 = .ok (.if_icmp .ge 43, 3) := by decide +kernel
theorem dX12_keeps_93 : decode cX12_keeps 93 = .ok (.aload_n 0, 1) := by decide +kernel
theorem dX12_keeps_94 : decode cX12_keeps 94 = .ok (.getfield 88, 3) := by decide +kernel
theorem dX12_keeps_97 : decode cX12_keeps 97 = .ok (.bipush 16, 2) := by decide +kernel
theorem dX12_keeps_99 : decode cX12_keeps 99 = .ok (.iload_n 1, 1) := by decide +kernel
theorem dX12_keeps_100 : decode cX12_keeps 100 = .ok (.imul, 1) := by decide +kernel
theorem dX12_keeps_101 : decode cX12_keeps 101 = .ok (.iload_n 2, 1) := by decide +kernel
theorem dX12_keeps_102 : decode cX12_keeps 102 = .ok (.iadd, 1) := by decide +kernel
theorem dX12_keeps_103 : decode cX12_keeps 103 = .ok (.aload_n 0, 1) := by decide +kernel
theorem dX12_keeps_104 : decode cX12_keeps 104 = .ok (.getfield 16, 3) := by decide +kernel
theorem dX12_keeps_107 : decode cX12_keeps 107 = .ok (.iload_n 2, 1) := by decide +kernel
theorem dX12_keeps_108 : decode cX12_keeps 108 = .ok (.iaload, 1) := by decide +kernel
theorem dX12_keeps_109 : decode cX12_keeps 109 = .ok (.iastore, 1) := by decide +kernel
theorem dX12_keeps_110 : decode cX12_keeps 110 = .ok (.aload_n 0, 1) := by decide +kernel
theorem dX12_keeps_111 : decode cX12_keeps 111 = .ok (.getfield 91, 3) := by decide +kernel
theorem dX12_keeps_114 : decode cX12_keeps 114 = .ok (.bipush 16, 2) := by decide +kernel
theorem dX12_keeps_116 : decode cX12_keeps 116 = .ok (.iload_n 1, 1) := by decide +kernel
theorem dX12_keeps_117 : decode cX12_keeps 117 = .ok (.imul, 1) := by decide +kernel
theorem dX12_keeps_118 : decode cX12_keeps 118 = .ok (.iload_n 2, 1) := by decide +kernel
theorem dX12_keeps_119 : decode cX12_keeps 119 = .ok (.iadd, 1) := by decide +kernel
theorem dX12_keeps_120 : decode cX12_keeps 120 = .ok (.aload_n 0, 1) := by decide +kernel
theorem dX12_keeps_121 : decode cX12_keeps 121 = .ok (.getfield 19, 3) := by decide +kernel
theorem dX12_keeps_124 : decode cX12_keeps 124 = .ok (.iload_n 2, 1) := by decide +kernel
theorem dX12_keeps_125 : decode cX12_keeps 125 = .ok (.baload, 1) := by decide +kernel
theorem dX12_keeps_126 : decode cX12_keeps 126 = .ok (.bastore, 1) := by decide +kernel
theorem dX12_keeps_127 : decode cX12_keeps 127 = .ok (.iinc 2 1, 3) := by decide +kernel
theorem dX12_keeps_130 : decode cX12_keeps 130 = .ok (.goto (-43), 3) := by decide +kernel
theorem dX12_keeps_133 : decode cX12_keeps 133 = .ok (.iconst 0, 1) := by decide +kernel
theorem dX12_keeps_134 : decode cX12_keeps 134 = .ok (.istore_n 2, 1) := by decide +kernel
theorem dX12_keeps_135 : decode cX12_keeps 135 = .ok (.iload_n 2, 1) := by decide +kernel
theorem dX12_keeps_136 : decode cX12_keeps 136 = .ok (.sipush 300, 3) := by decide +kernel
theorem dX12_keeps_139 : decode cX12_keeps 139 = .ok (.if_icmp .ge 27, 3) := by decide +kernel
theorem dX12_keeps_142 : decode cX12_keeps 142 = .ok (.aload_n 0, 1) := by decide +kernel
theorem dX12_keeps_143 : decode cX12_keeps 143 = .ok (.getfield 95, 3) := by decide +kernel
theorem dX12_keeps_146 : decode cX12_keeps 146 = .ok (.sipush 300, 3) := by decide +kernel
theorem dX12_keeps_149 : decode cX12_keeps 149 = .ok (.iload_n 1, 1) := by decide +kernel
theorem dX12_keeps_150 : decode cX12_keeps 150 = .ok (.imul, 1) := by decide +kernel
theorem dX12_keeps_151 : decode cX12_keeps 151 = .ok (.iload_n 2, 1) := by decide +kernel
theorem dX12_keeps_152 : decode cX12_keeps 152 = .ok (.iadd, 1) := by decide +kernel
theorem dX12_keeps_153 : decode cX12_keeps 153 = .ok (.aload_n 0, 1) := by decide +kernel
theorem dX12_keeps_154 : decode cX12_keeps 154 = .ok (.getfield 23, 3) := by decide +kernel
theorem dX12_keeps_157 : decode cX12_keeps 157 = .ok (.iload_n 2, 1) := by decide +kernel
theorem dX12_keeps_158 : decode cX12_keeps 158 = .ok (.baload, 1) := by decide +kernel
theorem dX12_keeps_159 : decode cX12_keeps 159 = .ok (.bastore, 1) := by decide +kernel
theorem dX12_keeps_160 : decode cX12_keeps 160 = .ok (.iinc 2 1, 3) := by decide +kernel
theorem dX12_keeps_163 : decode cX12_keeps 163 = .ok (.goto (-28), 3) := by decide +kernel
theorem dX12_keeps_166 : decode cX12_keeps 166 = .ok (.return_, 1) := by decide +kernel
theorem dX12_brings_0 : decode cX12_brings 0 = .ok (.aload_n 0, 1) := by decide +kernel
theorem dX12_brings_1 : decode cX12_brings 1 = .ok (.aload_n 0, 1) := by decide +kernel
theorem dX12_brings_2 : decode cX12_brings 2 = .ok (.getfield 79, 3) := by decide +kernel
theorem dX12_brings_5 : decode cX12_brings 5 = .ok (.iload_n 1, 1) := by decide +kernel
theorem dX12_brings_6 : decode cX12_brings 6 = .ok (.iaload, 1) := by decide +kernel
theorem dX12_brings_7 : decode cX12_brings 7 = .ok (.putfield 138, 3) := by decide +kernel
theorem dX12_brings_10 : decode cX12_brings 10 = .ok (.aload_n 0, 1) := by decide +kernel
theorem dX12_brings_11 : decode cX12_brings 11 = .ok (.aload_n 0, 1) := by decide +kernel
theorem dX12_brings_12 : decode cX12_brings 12 = .ok (.getfield 85, 3) := by decide +kernel
theorem dX12_brings_15 : decode cX12_brings 15 = .ok (.iload_n 1, 1) := by decide +kernel
theorem dX12_brings_16 : decode cX12_brings 16 = .ok (.iaload, 1) := by decide +kernel
theorem dX12_brings_17 : decode cX12_brings 17 = .ok (.putfield 26, 3) := by decide +kernel
theorem dX12_brings_20 : decode cX12_brings 20 = .ok (.iconst 0, 1) := by decide +kernel
theorem dX12_brings_21 : decode cX12_brings 21 = .ok (.istore_n 2, 1) := by decide +kernel
theorem dX12_brings_22 : decode cX12_brings 22 = .ok (.iload_n 2, 1) := by decide +kernel
theorem dX12_brings_23 : decode cX12_brings 23 = .ok (.aload_n 0, 1) := by decide +kernel
theorem dX12_brings_24 : decode cX12_brings 24 = .ok (.getfield 138, 3) := by decide +kernel
theorem dX12_brings_27 : decode cX12_brings 27 = .ok (.if_icmp .ge 27, 3) := by decide +kernel
theorem dX12_brings_30 : decode cX12_brings 30 = .ok (.aload_n 0, 1) := by decide +kernel
theorem dX12_brings_31 : decode cX12_brings 31 = .ok (.getfield 7, 3) := by decide +kernel
theorem dX12_brings_34 : decode cX12_brings 34 = .ok (.iload_n 2, 1) := by decide +kernel
theorem dX12_brings_35 : decode cX12_brings 35 = .ok (.aload_n 0, 1) := by decide +kernel
theorem dX12_brings_36 : decode cX12_brings 36 = .ok (.getfield 76, 3) := by decide +kernel
theorem dX12_brings_39 : decode cX12_brings 39 = .ok (.sipush 3000, 3) := by decide +kernel
theorem dX12_brings_42 : decode cX12_brings 42 = .ok (.iload_n 1, 1) := by decide +kernel
theorem dX12_brings_43 : decode cX12_brings 43 = .ok (.imul, 1) := by decide +kernel
theorem dX12_brings_44 : decode cX12_brings 44 = .ok (.iload_n 2, 1) := by decide +kernel
theorem dX12_brings_45 : decode cX12_brings 45 = .ok (.iadd, 1) := by decide +kernel
theorem dX12_brings_46 : decode cX12_brings 46 = .ok (.iaload, 1) := by decide +kernel
theorem dX12_brings_47 : decode cX12_brings 47 = .ok (.iastore, 1) := by decide +kernel
theorem dX12_brings_48 : decode cX12_brings 48 = .ok (.iinc 2 1, 3) := by decide +kernel
theorem dX12_brings_51 : decode cX12_brings 51 = .ok (.goto (-29), 3) := by decide +kernel
theorem dX12_brings_54 : decode cX12_brings 54 = .ok (.iconst 0, 1) := by decide +kernel
theorem dX12_brings_55 : decode cX12_brings 55 = .ok (.istore_n 2, 1) := by decide +kernel
theorem dX12_brings_56 : decode cX12_brings 56 = .ok (.iload_n 2, 1) := by decide +kernel
theorem dX12_brings_57 : decode cX12_brings 57 = .ok (.bipush 8, 2) := by decide +kernel
theorem dX12_brings_59 : decode cX12_brings 59 = .ok (.if_icmp .ge 26, 3) := by decide +kernel
theorem dX12_brings_62 : decode cX12_brings 62 = .ok (.aload_n 0, 1) := by decide +kernel
theorem dX12_brings_63 : decode cX12_brings 63 = .ok (.getfield 13, 3) := by decide +kernel
theorem dX12_brings_66 : decode cX12_brings 66 = .ok (.iload_n 2, 1) := by decide +kernel
theorem dX12_brings_67 : decode cX12_brings 67 = .ok (.aload_n 0, 1) := by decide +kernel
theorem dX12_brings_68 : decode cX12_brings 68 = .ok (.getfield 82, 3) := by decide +kernel
theorem dX12_brings_71 : decode cX12_brings 71 = .ok (.bipush 8, 2) := by decide +kernel
theorem dX12_brings_73 : decode cX12_brings 73 = .ok (.iload_n 1, 1) := by decide +kernel
theorem dX12_brings_74 : decode cX12_brings 74 = .ok (.imul, 1) := by decide +kernel
theorem dX12_brings_75 : decode cX12_brings 75 = .ok (.iload_n 2, 1) := by decide +kernel
theorem dX12_brings_76 : decode cX12_brings 76 = .ok (.iadd, 1) := by decide +kernel
theorem dX12_brings_77 : decode cX12_brings 77 = .ok (.iaload, 1) := by decide +kernel
theorem dX12_brings_78 : decode cX12_brings 78 = .ok (.iastore, 1) := by decide +kernel
theorem dX12_brings_79 : decode cX12_brings 79 = .ok (.iinc 2 1, 3) := by decide +kernel
theorem dX12_brings_82 : decode cX12_brings 82 = .ok (.goto (-26), 3) := by decide +kernel
theorem dX12_brings_85 : decode cX12_brings 85 = .ok (.iconst 0, 1) := by decide +kernel
theorem dX12_brings_86 : decode cX12_brings 86 = .ok (.istore_n 2, 1) := by decide +kernel
theorem dX12_brings_87 : decode cX12_brings 87 = .ok (.iload_n 2, 1) := by decide +kernel
theorem dX12_brings_88 : decode cX12_brings 88 = .ok (.bipush 16, 2) := by decide +kernel
theorem dX12_brings_90 : decode cX12_brings 90 = .ok (.if_icmp .ge 43, 3) := by decide +kernel
theorem dX12_brings_93 : decode cX12_brings 93 = .ok (.aload_n 0, 1) := by decide +kernel
theorem dX12_brings_94 : decode cX12_brings 94 = .ok (.getfield 16, 3) := by decide +kernel
theorem dX12_brings_97 : decode cX12_brings 97 = .ok (.iload_n 2, 1) := by decide +kernel
theorem dX12_brings_98 : decode cX12_brings 98 = .ok (.aload_n 0, 1) := by decide +kernel
theorem dX12_brings_99 : decode cX12_brings 99 = .ok (.getfield 88, 3) := by decide +kernel
theorem dX12_brings_102 : decode cX12_brings 102 = .ok (.bipush 16, 2) := by decide +kernel
theorem dX12_brings_104 : decode cX12_brings 104 = .ok (.iload_n 1, 1) := by decide +kernel
theorem dX12_brings_105 : decode cX12_brings 105 = .ok (.imul, 1) := by decide +kernel
theorem dX12_brings_106 : decode cX12_brings 106 = .ok (.iload_n 2, 1) := by decide +kernel
theorem dX12_brings_107 : decode cX12_brings 107 = .ok (.iadd, 1) := by decide +kernel
theorem dX12_brings_108 : decode cX12_brings 108 = .ok (.iaload, 1) := by decide +kernel
theorem dX12_brings_109 : decode cX12_brings 109 = .ok (.iastore, 1) := by decide +kernel
theorem dX12_brings_110 : decode cX12_brings 110 = .ok (.aload_n 0, 1) := by decide +kernel
theorem dX12_brings_111 : decode cX12_brings 111 = .ok (.getfield 19, 3) := by decide +kernel
theorem dX12_brings_114 : decode cX12_brings 114 = .ok (.iload_n 2, 1) := by decide +kernel
theorem dX12_brings_115 : decode cX12_brings 115 = .ok (.aload_n 0, 1) := by decide +kernel
theorem dX12_brings_116 : decode cX12_brings 116 = .ok (.getfield 91, 3) := by decide +kernel
theorem dX12_brings_119 : decode cX12_brings 119 = .ok (.bipush 16, 2) := by decide +kernel
theorem dX12_brings_121 : decode cX12_brings 121 = .ok (.iload_n 1, 1) := by decide +kernel
theorem dX12_brings_122 : decode cX12_brings 122 = .ok (.imul, 1) := by decide +kernel
theorem dX12_brings_123 : decode cX12_brings 123 = .ok (.iload_n 2, 1) := by decide +kernel
theorem dX12_brings_124 : decode cX12_brings 124 = .ok (.iadd, 1) := by decide +kernel
theorem dX12_brings_125 : decode cX12_brings 125 = .ok (.baload, 1) := by decide +kernel
theorem dX12_brings_126 : decode cX12_brings 126 = .ok (.bastore, 1) := by decide +kernel
theorem dX12_brings_127 : decode cX12_brings 127 = .ok (.iinc 2 1, 3) := by decide +kernel
theorem dX12_brings_130 : decode cX12_brings 130 = .ok (.goto (-43), 3) := by decide +kernel
theorem dX12_brings_133 : decode cX12_brings 133 = .ok (.iconst 0, 1) := by decide +kernel
theorem dX12_brings_134 : decode cX12_brings 134 = .ok (.istore_n 2, 1) := by decide +kernel
theorem dX12_brings_135 : decode cX12_brings 135 = .ok (.iload_n 2, 1) := by decide +kernel
theorem dX12_brings_136 : decode cX12_brings 136 = .ok (.sipush 300, 3) := by decide +kernel
theorem dX12_brings_139 : decode cX12_brings 139 = .ok (.if_icmp .ge 27, 3) := by decide +kernel
theorem dX12_brings_142 : decode cX12_brings 142 = .ok (.aload_n 0, 1) := by decide +kernel
theorem dX12_brings_143 : decode cX12_brings 143 = .ok (.getfield 23, 3) := by decide +kernel
theorem dX12_brings_146 : decode cX12_brings 146 = .ok (.iload_n 2, 1) := by decide +kernel
theorem dX12_brings_147 : decode cX12_brings 147 = .ok (.aload_n 0, 1) := by decide +kernel
theorem dX12_brings_148 : decode cX12_brings 148 = .ok (.getfield 95, 3) := by decide +kernel
theorem dX12_brings_151 : decode cX12_brings 151 = .ok (.sipush 300, 3) := by decide +kernel
theorem dX12_brings_154 : decode cX12_brings 154 = .ok (.iload_n 1, 1) := by decide +kernel
theorem dX12_brings_155 : decode cX12_brings 155 = .ok (.imul, 1) := by decide +kernel
theorem dX12_brings_156 : decode cX12_brings 156 = .ok (.iload_n 2, 1) := by decide +kernel
theorem dX12_brings_157 : decode cX12_brings 157 = .ok (.iadd, 1) := by decide +kernel
theorem dX12_brings_158 : decode cX12_brings 158 = .ok (.baload, 1) := by decide +kernel
theorem dX12_brings_159 : decode cX12_brings 159 = .ok (.bastore, 1) := by decide +kernel
theorem dX12_brings_160 : decode cX12_brings 160 = .ok (.iinc 2 1, 3) := by decide +kernel
theorem dX12_brings_163 : decode cX12_brings 163 = .ok (.goto (-28), 3) := by decide +kernel
theorem dX12_brings_166 : decode cX12_brings 166 = .ok (.return_, 1) := by decide +kernel
theorem dX12_ahead_0 : decode cX12_ahead 0 = .ok (.iconst 2, 1) := by decide +kernel
theorem dX12_ahead_1 : decode cX12_ahead 1 = .ok (.iload_n 0, 1) := by decide +kernel
theorem dX12_ahead_2 : decode cX12_ahead 2 = .ok (.imul, 1) := by decide +kernel
theorem dX12_ahead_3 : decode cX12_ahead 3 = .ok (.iconst 2, 1) := by decide +kernel
theorem dX12_ahead_4 : decode cX12_ahead 4 = .ok (.isub, 1) := by decide +kernel
theorem dX12_ahead_5 : decode cX12_ahead 5 = .ok (.ireturn, 1) := by decide +kernel
theorem dX12_undone_0 : decode cX12_undone 0 = .ok (.iconst 2, 1) := by decide +kernel
theorem dX12_undone_1 : decode cX12_undone 1 = .ok (.iload_n 0, 1) := by decide +kernel
theorem dX12_undone_2 : decode cX12_undone 2 = .ok (.imul, 1) := by decide +kernel
theorem dX12_undone_3 : decode cX12_undone 3 = .ok (.iconst 1, 1) := by decide +kernel
theorem dX12_undone_4 : decode cX12_undone 4 = .ok (.isub, 1) := by decide +kernel
theorem dX12_undone_5 : decode cX12_undone 5 = .ok (.ireturn, 1) := by decide +kernel
theorem dX12_begins_0 : decode cX12_begins 0 = .ok (.aload_n 0, 1) := by decide +kernel
theorem dX12_begins_1 : decode cX12_begins 1 = .ok (.iconst 0, 1) := by decide +kernel
theorem dX12_begins_2 : decode cX12_begins 2 = .ok (.putfield 155, 3) := by decide +kernel
theorem dX12_begins_5 : decode cX12_begins 5 = .ok (.aload_n 0, 1) := by decide +kernel
theorem dX12_begins_6 : decode cX12_begins 6 = .ok (.iconst 0, 1) := by decide +kernel
theorem dX12_begins_7 : decode cX12_begins 7 = .ok (.putfield 158, 3) := by decide +kernel
theorem dX12_begins_10 : decode cX12_begins 10 = .ok (.return_, 1) := by decide +kernel
theorem dX12_puts_0 : decode cX12_puts 0 = .ok (.aload_n 0, 1) := by decide +kernel
theorem dX12_puts_1 : decode cX12_puts 1 = .ok (.getfield 63, 3) := by decide +kernel
theorem dX12_puts_4 : decode cX12_puts 4 = .ok (.aload_n 0, 1) := by decide +kernel
theorem dX12_puts_5 : decode cX12_puts 5 = .ok (.getfield 158, 3) := by decide +kernel
theorem dX12_puts_8 : decode cX12_puts 8 = .ok (.iload_n 1, 1) := by decide +kernel
theorem dX12_puts_9 : decode cX12_puts 9 = .ok (.iastore, 1) := by decide +kernel
theorem dX12_puts_10 : decode cX12_puts 10 = .ok (.aload_n 0, 1) := by decide +kernel
theorem dX12_puts_11 : decode cX12_puts 11 = .ok (.dup, 1) := by decide +kernel
theorem dX12_puts_12 : decode cX12_puts 12 = .ok (.getfield 158, 3) := by decide +kernel
theorem dX12_puts_15 : decode cX12_puts 15 = .ok (.iconst 1, 1) := by decide +kernel
theorem dX12_puts_16 : decode cX12_puts 16 = .ok (.iadd, 1) := by decide +kernel
theorem dX12_puts_17 : decode cX12_puts 17 = .ok (.putfield 158, 3) := by decide +kernel
theorem dX12_puts_20 : decode cX12_puts 20 = .ok (.return_, 1) := by decide +kernel
theorem dX12_putsTape_0 : decode cX12_putsTape 0 = .ok (.iconst 0, 1) := by decide +kernel
theorem dX12_putsTape_1 : decode cX12_putsTape 1 = .ok (.istore_n 1, 1) := by decide +kernel
theorem dX12_putsTape_2 : decode cX12_putsTape 2 = .ok (.iload_n 1, 1) := by decide +kernel
theorem dX12_putsTape_3 : decode cX12_putsTape 3 = .ok (.aload_n 0, 1) := by decide +kernel
theorem dX12_putsTape_4 : decode cX12_putsTape 4 = .ok (.getfield 161, 3) := by decide +kernel
theorem dX12_putsTape_7 : decode cX12_putsTape 7 = .ok (.if_icmp .ge 19, 3) := by decide +kernel
theorem dX12_putsTape_10 : decode cX12_putsTape 10 = .ok (.aload_n 0, 1) := by decide +kernel
theorem dX12_putsTape_11 : decode cX12_putsTape 11 = .ok (.aload_n 0, 1) := by decide +kernel
theorem dX12_putsTape_12 : decode cX12_putsTape 12 = .ok (.getfield 30, 3) := by decide +kernel
theorem dX12_putsTape_15 : decode cX12_putsTape 15 = .ok (.iload_n 1, 1) := by decide +kernel
theorem dX12_putsTape_16 : decode cX12_putsTape 16 = .ok (.iaload, 1) := by decide +kernel
theorem dX12_putsTape_17 : decode cX12_putsTape 17 = .ok (.invokevirtual 164, 3) := by decide +kernel
theorem dX12_putsTape_20 : decode cX12_putsTape 20 = .ok (.iinc 1 1, 3) := by decide +kernel
theorem dX12_putsTape_23 : decode cX12_putsTape 23 = .ok (.goto (-21), 3) := by decide +kernel
theorem dX12_putsTape_26 : decode cX12_putsTape 26 = .ok (.return_, 1) := by decide +kernel
theorem dX12_adds_0 : decode cX12_adds 0 = .ok (.iload_n 1, 1) := by decide +kernel
theorem dX12_adds_1 : decode cX12_adds 1 = .ok (.iload_n 2, 1) := by decide +kernel
theorem dX12_adds_2 : decode cX12_adds 2 = .ok (.if_icmp .ne 9, 3) := by decide +kernel
theorem dX12_adds_5 : decode cX12_adds 5 = .ok (.iload 4, 2) := by decide +kernel
theorem dX12_adds_7 : decode cX12_adds 7 = .ok (.ifCond .ne 4, 3) := by decide +kernel
theorem dX12_adds_10 : decode cX12_adds 10 = .ok (.return_, 1) := by decide +kernel
theorem dX12_adds_11 : decode cX12_adds 11 = .ok (.aload_n 0, 1) := by decide +kernel
theorem dX12_adds_12 : decode cX12_adds 12 = .ok (.getfield 51, 3) := by decide +kernel
theorem dX12_adds_15 : decode cX12_adds 15 = .ok (.aload_n 0, 1) := by decide +kernel
theorem dX12_adds_16 : decode cX12_adds 16 = .ok (.getfield 155, 3) := by decide +kernel
theorem dX12_adds_19 : decode cX12_adds 19 = .ok (.iload_n 1, 1) := by decide +kernel
theorem dX12_adds_20 : decode cX12_adds 20 = .ok (.iastore, 1) := by decide +kernel
theorem dX12_adds_21 : decode cX12_adds 21 = .ok (.aload_n 0, 1) := by decide +kernel
theorem dX12_adds_22 : decode cX12_adds 22 = .ok (.getfield 54, 3) := by decide +kernel
theorem dX12_adds_25 : decode cX12_adds 25 = .ok (.aload_n 0, 1) := by decide +kernel
theorem dX12_adds_26 : decode cX12_adds 26 = .ok (.getfield 155, 3) := by decide +kernel
theorem dX12_adds_29 : decode cX12_adds 29 = .ok (.iload_n 2, 1) := by decide +kernel
theorem dX12_adds_30 : decode cX12_adds 30 = .ok (.iastore, 1) := by decide +kernel
theorem dX12_adds_31 : decode cX12_adds 31 = .ok (.aload_n 0, 1) := by decide +kernel
theorem dX12_adds_32 : decode cX12_adds 32 = .ok (.getfield 57, 3) := by decide +kernel
theorem dX12_adds_35 : decode cX12_adds 35 = .ok (.aload_n 0, 1) := by decide +kernel
theorem dX12_adds_36 : decode cX12_adds 36 = .ok (.getfield 155, 3) := by decide +kernel
theorem dX12_adds_39 : decode cX12_adds 39 = .ok (.iload_n 3, 1) := by decide +kernel
theorem dX12_adds_40 : decode cX12_adds 40 = .ok (.iastore, 1) := by decide +kernel
theorem dX12_adds_41 : decode cX12_adds 41 = .ok (.aload_n 0, 1) := by decide +kernel
theorem dX12_adds_42 : decode cX12_adds 42 = .ok (.getfield 60, 3) := by decide +kernel
theorem dX12_adds_45 : decode cX12_adds 45 = .ok (.aload_n 0, 1) := by decide +kernel
theorem dX12_adds_46 : decode cX12_adds 46 = .ok (.getfield 155, 3) := by decide +kernel
theorem dX12_adds_49 : decode cX12_adds 49 = .ok (.iload 4, 2) := by decide +kernel
theorem dX12_adds_51 : decode cX12_adds 51 = .ok (.iastore, 1) := by decide +kernel
theorem dX12_adds_52 : decode cX12_adds 52 = .ok (.aload_n 0, 1) := by decide +kernel
theorem dX12_adds_53 : decode cX12_adds 53 = .ok (.dup, 1) := by decide +kernel
theorem dX12_adds_54 : decode cX12_adds 54 = .ok (.getfield 155, 3) := by decide +kernel
theorem dX12_adds_57 : decode cX12_adds 57 = .ok (.iconst 1, 1) := by decide +kernel
theorem dX12_adds_58 : decode cX12_adds 58 = .ok (.iadd, 1) := by decide +kernel
theorem dX12_adds_59 : decode cX12_adds 59 = .ok (.putfield 155, 3) := by decide +kernel
theorem dX12_adds_62 : decode cX12_adds 62 = .ok (.return_, 1) := by decide +kernel
theorem dX12_endsIn_0 : decode cX12_endsIn 0 = .ok (.iconst 0, 1) := by decide +kernel
theorem dX12_endsIn_1 : decode cX12_endsIn 1 = .ok (.istore_n 2, 1) := by decide +kernel
theorem dX12_endsIn_2 : decode cX12_endsIn 2 = .ok (.iconst 0, 1) := by decide +kernel
theorem dX12_endsIn_3 : decode cX12_endsIn 3 = .ok (.istore_n 3, 1) := by decide +kernel
theorem dX12_endsIn_4 : decode cX12_endsIn 4 = .ok (.iload_n 3, 1) := by decide +kernel
theorem dX12_endsIn_5 : decode cX12_endsIn 5 = .ok (.aload_n 0, 1) := by decide +kernel
theorem dX12_endsIn_6 : decode cX12_endsIn 6 = .ok (.getfield 60, 3) := by decide +kernel
theorem dX12_endsIn_9 : decode cX12_endsIn 9 = .ok (.iload_n 1, 1) := by decide +kernel
theorem dX12_endsIn_10 : decode cX12_endsIn 10 = .ok (.iaload, 1) := by decide +kernel
theorem dX12_endsIn_11 : decode cX12_endsIn 11 = .ok (.if_icmp .ge 35, 3) := by decide +kernel
theorem dX12_endsIn_14 : decode cX12_endsIn 14 = .ok (.iload_n 2, 1) := by decide +kernel
theorem dX12_endsIn_15 : decode cX12_endsIn 15 = .ok (.aload_n 0, 1) := by decide +kernel
theorem dX12_endsIn_16 : decode cX12_endsIn 16 = .ok (.getfield 63, 3) := by decide +kernel
theorem dX12_endsIn_19 : decode cX12_endsIn 19 = .ok (.aload_n 0, 1) := by decide +kernel
theorem dX12_endsIn_20 : decode cX12_endsIn 20 = .ok (.getfield 57, 3) := by decide +kernel
theorem dX12_endsIn_23 : decode cX12_endsIn 23 = .ok (.iload_n 1, 1) := by decide +kernel
theorem dX12_endsIn_24 : decode cX12_endsIn 24 = .ok (.iaload, 1) := by decide +kernel
theorem dX12_endsIn_25 : decode cX12_endsIn 25 = .ok (.iload_n 3, 1) := by decide +kernel
theorem dX12_endsIn_26 : decode cX12_endsIn 26 = .ok (.iadd, 1) := by decide +kernel
theorem dX12_endsIn_27 : decode cX12_endsIn 27 = .ok (.iaload, 1) := by decide +kernel
theorem dX12_endsIn_28 : decode cX12_endsIn 28 = .ok (.bipush 10, 2) := by decide +kernel
theorem dX12_endsIn_30 : decode cX12_endsIn 30 = .ok (.if_icmp .ne 7, 3) := by decide +kernel
theorem dX12_endsIn_33 : decode cX12_endsIn 33 = .ok (.iconst 1, 1) := by decide +kernel
theorem dX12_endsIn_34 : decode cX12_endsIn 34 = .ok (.goto 4, 3) := by decide +kernel
theorem dX12_endsIn_37 : decode cX12_endsIn 37 = .ok (.iconst 0, 1) := by decide +kernel
theorem dX12_endsIn_38 : decode cX12_endsIn 38 = .ok (.iadd, 1) := by decide +kernel
theorem dX12_endsIn_39 : decode cX12_endsIn 39 = .ok (.istore_n 2, 1) := by decide +kernel
theorem dX12_endsIn_40 : decode cX12_endsIn 40 = .ok (.iinc 3 1, 3) := by decide +kernel
theorem dX12_endsIn_43 : decode cX12_endsIn 43 = .ok (.goto (-39), 3) := by decide +kernel
theorem dX12_endsIn_46 : decode cX12_endsIn 46 = .ok (.iload_n 2, 1) := by decide +kernel
theorem dX12_endsIn_47 : decode cX12_endsIn 47 = .ok (.ireturn, 1) := by decide +kernel
theorem dX12_isTooMuch_0 : decode cX12_isTooMuch 0 = .ok (.aload_n 0, 1) := by decide +kernel
theorem dX12_isTooMuch_1 : decode cX12_isTooMuch 1 = .ok (.getfield 138, 3) := by decide +kernel
theorem dX12_isTooMuch_4 : decode cX12_isTooMuch 4 = .ok (.istore_n 1, 1) := by decide +kernel
theorem dX12_isTooMuch_5 : decode cX12_isTooMuch 5 = .ok (.aload_n 0, 1) := by decide +kernel
theorem dX12_isTooMuch_6 : decode cX12_isTooMuch 6 = .ok (.invokevirtual 141, 3) := by decide +kernel
theorem dX12_isTooMuch_9 : decode cX12_isTooMuch 9 = .ok (.istore_n 2, 1) := by decide +kernel
theorem dX12_isTooMuch_10 : decode cX12_isTooMuch 10 = .ok (.iconst 0, 1) := by decide +kernel
theorem dX12_isTooMuch_11 : decode cX12_isTooMuch 11 = .ok (.istore_n 3, 1) := by decide +kernel
theorem dX12_isTooMuch_12 : decode cX12_isTooMuch 12 = .ok (.iload_n 3, 1) := by decide +kernel
theorem dX12_isTooMuch_13 : decode cX12_isTooMuch 13 = .ok (.aload_n 0, 1) := by decide +kernel
theorem dX12_isTooMuch_14 : decode cX12_isTooMuch 14 = .ok (.getfield 155, 3) := by decide +kernel
theorem dX12_isTooMuch_17 : decode cX12_isTooMuch 17 = .ok (.if_icmp .ge 85, 3) := by decide +kernel
theorem dX12_isTooMuch_20 : decode cX12_isTooMuch 20 = .ok (.iload_n 1, 1) := by decide +kernel
theorem dX12_isTooMuch_21 : decode cX12_isTooMuch 21 = .ok (.aload_n 0, 1) := by decide +kernel
theorem dX12_isTooMuch_22 : decode cX12_isTooMuch 22 = .ok (.getfield 60, 3) := by decide +kernel
theorem dX12_isTooMuch_25 : decode cX12_isTooMuch 25 = .ok (.iload_n 3, 1) := by decide +kernel
theorem dX12_isTooMuch_26 : decode cX12_isTooMuch 26 = .ok (.iaload, 1) := by decide +kernel
theorem dX12_isTooMuch_27 : decode cX12_isTooMuch 27 = .ok (.aload_n 0, 1) := by decide +kernel
theorem dX12_isTooMuch_28 : decode cX12_isTooMuch 28 = .ok (.getfield 54, 3) := by decide +kernel
theorem dX12_isTooMuch_31 : decode cX12_isTooMuch 31 = .ok (.iload_n 3, 1) := by decide +kernel
theorem dX12_isTooMuch_32 : decode cX12_isTooMuch 32 = .ok (.iaload, 1) := by decide +kernel
theorem dX12_isTooMuch_33 : decode cX12_isTooMuch 33 = .ok (.aload_n 0, 1) := by decide +kernel
theorem dX12_isTooMuch_34 : decode cX12_isTooMuch 34 = .ok (.getfield 51, 3) := by decide +kernel
theorem dX12_isTooMuch_37 : decode cX12_isTooMuch 37 = .ok (.iload_n 3, 1) := by decide +kernel
theorem dX12_isTooMuch_38 : decode cX12_isTooMuch 38 = .ok (.iaload, 1) := by decide +kernel
theorem dX12_isTooMuch_39 : decode cX12_isTooMuch 39 = .ok (.isub, 1) := by decide +kernel
theorem dX12_isTooMuch_40 : decode cX12_isTooMuch 40 = .ok (.isub, 1) := by decide +kernel
theorem dX12_isTooMuch_41 : decode cX12_isTooMuch 41 = .ok (.iadd, 1) := by decide +kernel
theorem dX12_isTooMuch_42 : decode cX12_isTooMuch 42 = .ok (.istore_n 1, 1) := by decide +kernel
theorem dX12_isTooMuch_43 : decode cX12_isTooMuch 43 = .ok (.iload_n 2, 1) := by decide +kernel
theorem dX12_isTooMuch_44 : decode cX12_isTooMuch 44 = .ok (.aload_n 0, 1) := by decide +kernel
theorem dX12_isTooMuch_45 : decode cX12_isTooMuch 45 = .ok (.iload_n 3, 1) := by decide +kernel
theorem dX12_isTooMuch_46 : decode cX12_isTooMuch 46 = .ok (.invokevirtual 167, 3) := by decide +kernel
theorem dX12_isTooMuch_49 : decode cX12_isTooMuch 49 = .ok (.iadd, 1) := by decide +kernel
theorem dX12_isTooMuch_50 : decode cX12_isTooMuch 50 = .ok (.istore_n 2, 1) := by decide +kernel
theorem dX12_isTooMuch_51 : decode cX12_isTooMuch 51 = .ok (.aload_n 0, 1) := by decide +kernel
theorem dX12_isTooMuch_52 : decode cX12_isTooMuch 52 = .ok (.getfield 51, 3) := by decide +kernel
theorem dX12_isTooMuch_55 : decode cX12_isTooMuch 55 = .ok (.iload_n 3, 1) := by decide +kernel
theorem dX12_isTooMuch_56 : decode cX12_isTooMuch 56 = .ok (.iaload, 1) := by decide +kernel
theorem dX12_isTooMuch_57 : decode cX12_isTooMuch 57 = .ok (.istore 4, 2) := by decide +kernel
theorem dX12_isTooMuch_59 : decode cX12_isTooMuch 59 = .ok (.iload 4, 2) := by decide +kernel
theorem dX12_isTooMuch_61 : decode cX12_isTooMuch 61 = .ok (.aload_n 0, 1) := by decide +kernel
theorem dX12_isTooMuch_62 : decode cX12_isTooMuch 62 = .ok (.getfield 54, 3) := by decide +kernel
theorem dX12_isTooMuch_65 : decode cX12_isTooMuch 65 = .ok (.iload_n 3, 1) := by decide +kernel
theorem dX12_isTooMuch_66 : decode cX12_isTooMuch 66 = .ok (.iaload, 1) := by decide +kernel
theorem dX12_isTooMuch_67 : decode cX12_isTooMuch 67 = .ok (.if_icmp .ge 29, 3) := by decide +kernel
theorem dX12_isTooMuch_70 : decode cX12_isTooMuch 70 = .ok (.iload_n 2, 1) := by decide +kernel
theorem dX12_isTooMuch_71 : decode cX12_isTooMuch 71 = .ok (.aload_n 0, 1) := by decide +kernel
theorem dX12_isTooMuch_72 : decode cX12_isTooMuch 72 = .ok (.getfield 7, 3) := by decide +kernel
theorem dX12_isTooMuch_75 : decode cX12_isTooMuch 75 = .ok (.iload 4, 2) := by decide +kernel
theorem dX12_isTooMuch_77 : decode cX12_isTooMuch 77 = .ok (.iaload, 1) := by decide +kernel
theorem dX12_isTooMuch_78 : decode cX12_isTooMuch 78 = .ok (.bipush 10, 2) := by decide +kernel
theorem dX12_isTooMuch_80 : decode cX12_isTooMuch 80 = .ok (.if_icmp .ne 7, 3) := by decide +kernel
theorem dX12_isTooMuch_83 : decode cX12_isTooMuch 83 = .ok (.iconst 1, 1) := by decide +kernel
theorem dX12_isTooMuch_84 : decode cX12_isTooMuch 84 = .ok (.goto 4, 3) := by decide +kernel
theorem dX12_isTooMuch_87 : decode cX12_isTooMuch 87 = .ok (.iconst 0, 1) := by decide +kernel
theorem dX12_isTooMuch_88 : decode cX12_isTooMuch 88 = .ok (.isub, 1) := by decide +kernel
theorem dX12_isTooMuch_89 : decode cX12_isTooMuch 89 = .ok (.istore_n 2, 1) := by decide +kernel
theorem dX12_isTooMuch_90 : decode cX12_isTooMuch 90 = .ok (.iinc 4 1, 3) := by decide +kernel
theorem dX12_isTooMuch_93 : decode cX12_isTooMuch 93 = .ok (.goto (-34), 3) := by decide +kernel
theorem dX12_isTooMuch_96 : decode cX12_isTooMuch 96 = .ok (.iinc 3 1, 3) := by decide +kernel
theorem dX12_isTooMuch_99 : decode cX12_isTooMuch 99 = .ok (.goto (-87), 3) := by decide +kernel
theorem dX12_isTooMuch_102 : decode cX12_isTooMuch 102 = .ok (.iload_n 1, 1) := by decide +kernel
theorem dX12_isTooMuch_103 : decode cX12_isTooMuch 103 = .ok (.sipush 3000, 3) := by decide +kernel
theorem dX12_isTooMuch_106 : decode cX12_isTooMuch 106 = .ok (.if_icmp .gt 10, 3) := by decide +kernel
theorem dX12_isTooMuch_109 : decode cX12_isTooMuch 109 = .ok (.iload_n 2, 1) := by decide +kernel
theorem dX12_isTooMuch_110 : decode cX12_isTooMuch 110 = .ok (.sipush 300, 3) := by decide +kernel
theorem dX12_isTooMuch_113 : decode cX12_isTooMuch 113 = .ok (.if_icmp .le 7, 3) := by decide +kernel
theorem dX12_isTooMuch_116 : decode cX12_isTooMuch 116 = .ok (.iconst 1, 1) := by decide +kernel
theorem dX12_isTooMuch_117 : decode cX12_isTooMuch 117 = .ok (.goto 4, 3) := by decide +kernel
theorem dX12_isTooMuch_120 : decode cX12_isTooMuch 120 = .ok (.iconst 0, 1) := by decide +kernel
theorem dX12_isTooMuch_121 : decode cX12_isTooMuch 121 = .ok (.ireturn, 1) := by decide +kernel
theorem dX12_moved_0 : decode cX12_moved 0 = .ok (.iload_n 0, 1) := by decide +kernel
theorem dX12_moved_1 : decode cX12_moved 1 = .ok (.iload_n 2, 1) := by decide +kernel
theorem dX12_moved_2 : decode cX12_moved 2 = .ok (.if_icmp .ge 5, 3) := by decide +kernel
theorem dX12_moved_5 : decode cX12_moved 5 = .ok (.iload_n 0, 1) := by decide +kernel
theorem dX12_moved_6 : decode cX12_moved 6 = .ok (.ireturn, 1) := by decide +kernel
theorem dX12_moved_7 : decode cX12_moved 7 = .ok (.iload_n 0, 1) := by decide +kernel
theorem dX12_moved_8 : decode cX12_moved 8 = .ok (.iload_n 3, 1) := by decide +kernel
theorem dX12_moved_9 : decode cX12_moved 9 = .ok (.if_icmp .ne 16, 3) := by decide +kernel
theorem dX12_moved_12 : decode cX12_moved 12 = .ok (.iload_n 1, 1) := by decide +kernel
theorem dX12_moved_13 : decode cX12_moved 13 = .ok (.ifCond .eq 7, 3) := by decide +kernel
theorem dX12_moved_16 : decode cX12_moved 16 = .ok (.iload_n 2, 1) := by decide +kernel
theorem dX12_moved_17 : decode cX12_moved 17 = .ok (.goto 7, 3) := by decide +kernel
theorem dX12_moved_20 : decode cX12_moved 20 = .ok (.iload_n 2, 1) := by decide +kernel
theorem dX12_moved_21 : decode cX12_moved 21 = .ok (.iload 4, 2) := by decide +kernel
theorem dX12_moved_23 : decode cX12_moved 23 = .ok (.iadd, 1) := by decide +kernel
theorem dX12_moved_24 : decode cX12_moved 24 = .ok (.ireturn, 1) := by decide +kernel
theorem dX12_moved_25 : decode cX12_moved 25 = .ok (.iload_n 0, 1) := by decide +kernel
theorem dX12_moved_26 : decode cX12_moved 26 = .ok (.iload_n 3, 1) := by decide +kernel
theorem dX12_moved_27 : decode cX12_moved 27 = .ok (.if_icmp .ge 7, 3) := by decide +kernel
theorem dX12_moved_30 : decode cX12_moved 30 = .ok (.iload_n 2, 1) := by decide +kernel
theorem dX12_moved_31 : decode cX12_moved 31 = .ok (.goto 11, 3) := by decide +kernel
theorem dX12_moved_34 : decode cX12_moved 34 = .ok (.iload_n 0, 1) := by decide +kernel
theorem dX12_moved_35 : decode cX12_moved 35 = .ok (.iload 4, 2) := by decide +kernel
theorem dX12_moved_37 : decode cX12_moved 37 = .ok (.iadd, 1) := by decide +kernel
theorem dX12_moved_38 : decode cX12_moved 38 = .ok (.iload_n 3, 1) := by decide +kernel
theorem dX12_moved_39 : decode cX12_moved 39 = .ok (.iload_n 2, 1) := by decide +kernel
theorem dX12_moved_40 : decode cX12_moved 40 = .ok (.isub, 1) := by decide +kernel
theorem dX12_moved_41 : decode cX12_moved 41 = .ok (.isub, 1) := by decide +kernel
theorem dX12_moved_42 : decode cX12_moved 42 = .ok (.ireturn, 1) := by decide +kernel
theorem dX12_replaces_0 : decode cX12_replaces 0 = .ok (.aload_n 0, 1) := by decide +kernel
theorem dX12_replaces_1 : decode cX12_replaces 1 = .ok (.getfield 51, 3) := by decide +kernel
theorem dX12_replaces_4 : decode cX12_replaces 4 = .ok (.iload_n 1, 1) := by decide +kernel
theorem dX12_replaces_5 : decode cX12_replaces 5 = .ok (.iaload, 1) := by decide +kernel
theorem dX12_replaces_6 : decode cX12_replaces 6 = .ok (.istore_n 2, 1) := by decide +kernel
theorem dX12_replaces_7 : decode cX12_replaces 7 = .ok (.aload_n 0, 1) := by decide +kernel
theorem dX12_replaces_8 : decode cX12_replaces 8 = .ok (.getfield 54, 3) := by decide +kernel
theorem dX12_replaces_11 : decode cX12_replaces 11 = .ok (.iload_n 1, 1) := by decide +kernel
theorem dX12_replaces_12 : decode cX12_replaces 12 = .ok (.iaload, 1) := by decide +kernel
theorem dX12_replaces_13 : decode cX12_replaces 13 = .ok (.istore_n 3, 1) := by decide +kernel
theorem dX12_replaces_14 : decode cX12_replaces 14 = .ok (.aload_n 0, 1) := by decide +kernel
theorem dX12_replaces_15 : decode cX12_replaces 15 = .ok (.getfield 60, 3) := by decide +kernel
theorem dX12_replaces_18 : decode cX12_replaces 18 = .ok (.iload_n 1, 1) := by decide +kernel
theorem dX12_replaces_19 : decode cX12_replaces 19 = .ok (.iaload, 1) := by decide +kernel
theorem dX12_replaces_20 : decode cX12_replaces 20 = .ok (.istore 4, 2) := by decide +kernel
theorem dX12_replaces_22 : decode cX12_replaces 22 = .ok (.aload_n 0, 1) := by decide +kernel
theorem dX12_replaces_23 : decode cX12_replaces 23 = .ok (.iload_n 2, 1) := by decide +kernel
theorem dX12_replaces_24 : decode cX12_replaces 24 = .ok (.invokevirtual 149, 3) := by decide +kernel
theorem dX12_replaces_27 : decode cX12_replaces 27 = .ok (.istore 5, 2) := by decide +kernel
theorem dX12_replaces_29 : decode cX12_replaces 29 = .ok (.aload_n 0, 1) := by decide +kernel
theorem dX12_replaces_30 : decode cX12_replaces 30 = .ok (.iload_n 3, 1) := by decide +kernel
theorem dX12_replaces_31 : decode cX12_replaces 31 = .ok (.invokevirtual 149, 3) := by decide +kernel
theorem dX12_replaces_34 : decode cX12_replaces 34 = .ok (.istore 6, 2) := by decide +kernel
theorem dX12_replaces_36 : decode cX12_replaces 36 = .ok (.iload 5, 2) := by decide +kernel
theorem dX12_replaces_38 : decode cX12_replaces 38 = .ok (.istore 7, 2) := by decide +kernel
theorem dX12_replaces_40 : decode cX12_replaces 40 = .ok (.iload 7, 2) := by decide +kernel
theorem dX12_replaces_42 : decode cX12_replaces 42 = .ok (.iload 6, 2) := by decide +kernel
theorem dX12_replaces_44 : decode cX12_replaces 44 = .ok (.if_icmp .gt 17, 3) := by decide +kernel
theorem dX12_replaces_47 : decode cX12_replaces 47 = .ok (.aload_n 0, 1) := by decide +kernel
theorem dX12_replaces_48 : decode cX12_replaces 48 = .ok (.iload 7, 2) := by decide +kernel
theorem dX12_replaces_50 : decode cX12_replaces 50 = .ok (.invokevirtual 152, 3) := by decide +kernel
theorem dX12_replaces_53 : decode cX12_replaces 53 = .ok (.istore 8, 2) := by decide +kernel
theorem dX12_replaces_55 : decode cX12_replaces 55 = .ok (.iinc 7 1, 3) := by decide +kernel
theorem dX12_replaces_58 : decode cX12_replaces 58 = .ok (.goto (-18), 3) := by decide +kernel
theorem dX12_replaces_61 : decode cX12_replaces 61 = .ok (.aload_n 0, 1) := by decide +kernel
theorem dX12_replaces_62 : decode cX12_replaces 62 = .ok (.iload_n 1, 1) := by decide +kernel
theorem dX12_replaces_63 : decode cX12_replaces 63 = .ok (.invokevirtual 167, 3) := by decide +kernel
theorem dX12_replaces_66 : decode cX12_replaces 66 = .ok (.iload 6, 2) := by decide +kernel
theorem dX12_replaces_68 : decode cX12_replaces 68 = .ok (.iload 5, 2) := by decide +kernel
theorem dX12_replaces_70 : decode cX12_replaces 70 = .ok (.isub, 1) := by decide +kernel
theorem dX12_replaces_71 : decode cX12_replaces 71 = .ok (.isub, 1) := by decide +kernel
theorem dX12_replaces_72 : decode cX12_replaces 72 = .ok (.istore 7, 2) := by decide +kernel
theorem dX12_replaces_74 : decode cX12_replaces 74 = .ok (.iload 7, 2) := by decide +kernel
theorem dX12_replaces_76 : decode cX12_replaces 76 = .ok (.ifCond .le 44, 3) := by decide +kernel
theorem dX12_replaces_79 : decode cX12_replaces 79 = .ok (.sipush 299, 3) := by decide +kernel
theorem dX12_replaces_82 : decode cX12_replaces 82 = .ok (.istore 8, 2) := by decide +kernel
theorem dX12_replaces_84 : decode cX12_replaces 84 = .ok (.iload 8, 2) := by decide +kernel
theorem dX12_replaces_86 : decode cX12_replaces 86 = .ok (.iload 6, 2) := by decide +kernel
theorem dX12_replaces_88 : decode cX12_replaces 88 = .ok (.iload 7, 2) := by decide +kernel
theorem dX12_replaces_90 : decode cX12_replaces 90 = .ok (.iadd, 1) := by decide +kernel
theorem dX12_replaces_91 : decode cX12_replaces 91 = .ok (.if_icmp .le 26, 3) := by decide +kernel
theorem dX12_replaces_94 : decode cX12_replaces 94 = .ok (.aload_n 0, 1) := by decide +kernel
theorem dX12_replaces_95 : decode cX12_replaces 95 = .ok (.getfield 23, 3) := by decide +kernel
theorem dX12_replaces_98 : decode cX12_replaces 98 = .ok (.iload 8, 2) := by decide +kernel
theorem dX12_replaces_100 : decode cX12_replaces 100 = .ok (.aload_n 0, 1) := by decide +kernel
theorem dX12_replaces_101 : decode cX12_replaces 101 = .ok (.getfield 23, 3) := by decide +kernel
theorem dX12_replaces_104 : decode cX12_replaces 104 = .ok (.iload 8, 2) := by decide +kernel
theorem dX12_replaces_106 : decode cX12_replaces 106 = .ok (.iload 7, 2) := by decide +kernel
theorem dX12_replaces_108 : decode cX12_replaces 108 = .ok (.isub, 1) := by decide +kernel
theorem dX12_replaces_109 : decode cX12_replaces 109 = .ok (.baload, 1) := by decide +kernel
theorem dX12_replaces_110 : decode cX12_replaces 110 = .ok (.bastore, 1) := by decide +kernel
theorem dX12_replaces_111 : decode cX12_replaces 111 = .ok (.iinc 8 (-1), 3) := by decide +kernel
theorem dX12_replaces_114 : decode cX12_replaces 114 = .ok (.goto (-30), 3) := by decide +kernel
theorem dX12_replaces_117 : decode cX12_replaces 117 = .ok (.goto 67, 3) := by decide +kernel
theorem dX12_replaces_120 : decode cX12_replaces 120 = .ok (.iload 7, 2) := by decide +kernel
theorem dX12_replaces_122 : decode cX12_replaces 122 = .ok (.ifCond .ge 62, 3) := by decide +kernel
theorem dX12_replaces_125 : decode cX12_replaces 125 = .ok (.iload 6, 2) := by decide +kernel
theorem dX12_replaces_127 : decode cX12_replaces 127 = .ok (.iload 7, 2) := by decide +kernel
theorem dX12_replaces_129 : decode cX12_replaces 129 = .ok (.iadd, 1) := by decide +kernel
theorem dX12_replaces_130 : decode cX12_replaces 130 = .ok (.iconst 1, 1) := by decide +kernel
theorem dX12_replaces_131 : decode cX12_replaces 131 = .ok (.iadd, 1) := by decide +kernel
theorem dX12_replaces_132 : decode cX12_replaces 132 = .ok (.istore 8, 2) := by decide +kernel
theorem dX12_replaces_134 : decode cX12_replaces 134 = .ok (.iload 8, 2) := by decide +kernel
theorem dX12_replaces_136 : decode cX12_replaces 136 = .ok (.sipush 300, 3) := by decide +kernel
theorem dX12_replaces_139 : decode cX12_replaces 139 = .ok (.if_icmp .ge 45, 3) := by decide +kernel
theorem dX12_replaces_142 : decode cX12_replaces 142 = .ok (.aload_n 0, 1) := by decide +kernel
theorem dX12_replaces_143 : decode cX12_replaces 143 = .ok (.getfield 23, 3) := by decide +kernel
theorem dX12_replaces_146 : decode cX12_replaces 146 = .ok (.iload 8, 2) := by decide +kernel
theorem dX12_replaces_148 : decode cX12_replaces 148 = .ok (.iload 8, 2) := by decide +kernel
theorem dX12_replaces_150 : decode cX12_replaces 150 = .ok (.iload 7, 2) := by decide +kernel
theorem dX12_replaces_152 : decode cX12_replaces 152 = .ok (.isub, 1) := by decide +kernel
theorem dX12_replaces_153 : decode cX12_replaces 153 = .ok (.sipush 300, 3) := by decide +kernel
theorem dX12_replaces_156 : decode cX12_replaces 156 = .ok (.if_icmp .ge 20, 3) := by decide +kernel
theorem dX12_replaces_159 : decode cX12_replaces 159 = .ok (.aload_n 0, 1) := by decide +kernel
theorem dX12_replaces_160 : decode cX12_replaces 160 = .ok (.getfield 23, 3) := by decide +kernel
theorem dX12_replaces_163 : decode cX12_replaces 163 = .ok (.iload 8, 2) := by decide +kernel
theorem dX12_replaces_165 : decode cX12_replaces 165 = .ok (.iload 7, 2) := by decide +kernel
theorem dX12_replaces_167 : decode cX12_replaces 167 = .ok (.isub, 1) := by decide +kernel
theorem dX12_replaces_168 : decode cX12_replaces 168 = .ok (.baload, 1) := by decide +kernel
theorem dX12_replaces_169 : decode cX12_replaces 169 = .ok (.ifCond .eq 7, 3) := by decide +kernel
theorem dX12_replaces_172 : decode cX12_replaces 172 = .ok (.iconst 1, 1) := by decide +kernel
theorem dX12_replaces_173 : decode cX12_replaces 173 = .ok (.goto 4, 3) := by decide +kernel
theorem dX12_replaces_176 : decode cX12_replaces 176 = .ok (.iconst 0, 1) := by decide +kernel
theorem dX12_replaces_177 : decode cX12_replaces 177 = .ok (.bastore, 1) := by decide +kernel
theorem dX12_replaces_178 : decode cX12_replaces 178 = .ok (.iinc 8 1, 3) := by decide +kernel
theorem dX12_replaces_181 : decode cX12_replaces 181 = .ok (.goto (-47), 3) := by decide +kernel
theorem dX12_replaces_184 : decode cX12_replaces 184 = .ok (.iload 5, 2) := by decide +kernel
theorem dX12_replaces_186 : decode cX12_replaces 186 = .ok (.iconst 1, 1) := by decide +kernel
theorem dX12_replaces_187 : decode cX12_replaces 187 = .ok (.iadd, 1) := by decide +kernel
theorem dX12_replaces_188 : decode cX12_replaces 188 = .ok (.istore 8, 2) := by decide +kernel
theorem dX12_replaces_190 : decode cX12_replaces 190 = .ok (.iload 8, 2) := by decide +kernel
theorem dX12_replaces_192 : decode cX12_replaces 192 = .ok (.iload 6, 2) := by decide +kernel
theorem dX12_replaces_194 : decode cX12_replaces 194 = .ok (.iload 7, 2) := by decide +kernel
theorem dX12_replaces_196 : decode cX12_replaces 196 = .ok (.iadd, 1) := by decide +kernel
theorem dX12_replaces_197 : decode cX12_replaces 197 = .ok (.if_icmp .gt 17, 3) := by decide +kernel
theorem dX12_replaces_200 : decode cX12_replaces 200 = .ok (.aload_n 0, 1) := by decide +kernel
theorem dX12_replaces_201 : decode cX12_replaces 201 = .ok (.getfield 23, 3) := by decide +kernel
theorem dX12_replaces_204 : decode cX12_replaces 204 = .ok (.iload 8, 2) := by decide +kernel
theorem dX12_replaces_206 : decode cX12_replaces 206 = .ok (.iconst 0, 1) := by decide +kernel
theorem dX12_replaces_207 : decode cX12_replaces 207 = .ok (.bastore, 1) := by decide +kernel
theorem dX12_replaces_208 : decode cX12_replaces 208 = .ok (.iinc 8 1, 3) := by decide +kernel
theorem dX12_replaces_211 : decode cX12_replaces 211 = .ok (.goto (-21), 3) := by decide +kernel
theorem dX12_replaces_214 : decode cX12_replaces 214 = .ok (.iload 4, 2) := by decide +kernel
theorem dX12_replaces_216 : decode cX12_replaces 216 = .ok (.iload_n 3, 1) := by decide +kernel
theorem dX12_replaces_217 : decode cX12_replaces 217 = .ok (.iload_n 2, 1) := by decide +kernel
theorem dX12_replaces_218 : decode cX12_replaces 218 = .ok (.isub, 1) := by decide +kernel
theorem dX12_replaces_219 : decode cX12_replaces 219 = .ok (.isub, 1) := by decide +kernel
theorem dX12_replaces_220 : decode cX12_replaces 220 = .ok (.istore 8, 2) := by decide +kernel
theorem dX12_replaces_222 : decode cX12_replaces 222 = .ok (.iload 8, 2) := by decide +kernel
theorem dX12_replaces_224 : decode cX12_replaces 224 = .ok (.ifCond .le 43, 3) := by decide +kernel
theorem dX12_replaces_227 : decode cX12_replaces 227 = .ok (.aload_n 0, 1) := by decide +kernel
theorem dX12_replaces_228 : decode cX12_replaces 228 = .ok (.getfield 138, 3) := by decide +kernel
theorem dX12_replaces_231 : decode cX12_replaces 231 = .ok (.iconst 1, 1) := by decide +kernel
theorem dX12_replaces_232 : decode cX12_replaces 232 = .ok (.isub, 1) := by decide +kernel
theorem dX12_replaces_233 : decode cX12_replaces 233 = .ok (.istore 9, 2) := by decide +kernel
theorem dX12_replaces_235 : decode cX12_replaces 235 = .ok (.iload 9, 2) := by decide +kernel
theorem dX12_replaces_237 : decode cX12_replaces 237 = .ok (.iload_n 3, 1) := by decide +kernel
theorem dX12_replaces_238 : decode cX12_replaces 238 = .ok (.if_icmp .lt 26, 3) := by decide +kernel
theorem dX12_replaces_241 : decode cX12_replaces 241 = .ok (.aload_n 0, 1) := by decide +kernel
theorem dX12_replaces_242 : decode cX12_replaces 242 = .ok (.getfield 7, 3) := by decide +kernel
theorem dX12_replaces_245 : decode cX12_replaces 245 = .ok (.iload 9, 2) := by decide +kernel
theorem dX12_replaces_247 : decode cX12_replaces 247 = .ok (.iload 8, 2) := by decide +kernel
theorem dX12_replaces_249 : decode cX12_replaces 249 = .ok (.iadd, 1) := by decide +kernel
theorem dX12_replaces_250 : decode cX12_replaces 250 = .ok (.aload_n 0, 1) := by decide +kernel
theorem dX12_replaces_251 : decode cX12_replaces 251 = .ok (.getfield 7, 3) := by decide +kernel
theorem dX12_replaces_254 : decode cX12_replaces 254 = .ok (.iload 9, 2) := by decide +kernel
theorem dX12_replaces_256 : decode cX12_replaces 256 = .ok (.iaload, 1) := by decide +kernel
theorem dX12_replaces_257 : decode cX12_replaces 257 = .ok (.iastore, 1) := by decide +kernel
theorem dX12_replaces_258 : decode cX12_replaces 258 = .ok (.iinc 9 (-1), 3) := by decide +kernel
theorem dX12_replaces_261 : decode cX12_replaces 261 = .ok (.goto (-26), 3) := by decide +kernel
theorem dX12_replaces_264 : decode cX12_replaces 264 = .ok (.goto 38, 3) := by decide +kernel
theorem dX12_replaces_267 : decode cX12_replaces 267 = .ok (.iload_n 3, 1) := by decide +kernel
theorem dX12_replaces_268 : decode cX12_replaces 268 = .ok (.istore 9, 2) := by decide +kernel
theorem dX12_replaces_270 : decode cX12_replaces 270 = .ok (.iload 9, 2) := by decide +kernel
theorem dX12_replaces_272 : decode cX12_replaces 272 = .ok (.aload_n 0, 1) := by decide +kernel
theorem dX12_replaces_273 : decode cX12_replaces 273 = .ok (.getfield 138, 3) := by decide +kernel
theorem dX12_replaces_276 : decode cX12_replaces 276 = .ok (.if_icmp .ge 26, 3) := by decide +kernel
theorem dX12_replaces_279 : decode cX12_replaces 279 = .ok (.aload_n 0, 1) := by decide +kernel
theorem dX12_replaces_280 : decode cX12_replaces 280 = .ok (.getfield 7, 3) := by decide +kernel
theorem dX12_replaces_283 : decode cX12_replaces 283 = .ok (.iload 9, 2) := by decide +kernel
theorem dX12_replaces_285 : decode cX12_replaces 285 = .ok (.iload 8, 2) := by decide +kernel
theorem dX12_replaces_287 : decode cX12_replaces 287 = .ok (.iadd, 1) := by decide +kernel
theorem dX12_replaces_288 : decode cX12_replaces 288 = .ok (.aload_n 0, 1) := by decide +kernel
theorem dX12_replaces_289 : decode cX12_replaces 289 = .ok (.getfield 7, 3) := by decide +kernel
theorem dX12_replaces_292 : decode cX12_replaces 292 = .ok (.iload 9, 2) := by decide +kernel
theorem dX12_replaces_294 : decode cX12_replaces 294 = .ok (.iaload, 1) := by decide +kernel
theorem dX12_replaces_295 : decode cX12_replaces 295 = .ok (.iastore, 1) := by decide +kernel
theorem dX12_replaces_296 : decode cX12_replaces 296 = .ok (.iinc 9 1, 3) := by decide +kernel
theorem dX12_replaces_299 : decode cX12_replaces 299 = .ok (.goto (-29), 3) := by decide +kernel
theorem dX12_replaces_302 : decode cX12_replaces 302 = .ok (.iconst 0, 1) := by decide +kernel
theorem dX12_replaces_303 : decode cX12_replaces 303 = .ok (.istore 9, 2) := by decide +kernel
theorem dX12_replaces_305 : decode cX12_replaces 305 = .ok (.iload 9, 2) := by decide +kernel
theorem dX12_replaces_307 : decode cX12_replaces 307 = .ok (.iload 4, 2) := by decide +kernel
theorem dX12_replaces_309 : decode cX12_replaces 309 = .ok (.if_icmp .ge 32, 3) := by decide +kernel
theorem dX12_replaces_312 : decode cX12_replaces 312 = .ok (.aload_n 0, 1) := by decide +kernel
theorem dX12_replaces_313 : decode cX12_replaces 313 = .ok (.getfield 7, 3) := by decide +kernel
theorem dX12_replaces_316 : decode cX12_replaces 316 = .ok (.iload_n 2, 1) := by decide +kernel
theorem dX12_replaces_317 : decode cX12_replaces 317 = .ok (.iload 9, 2) := by decide +kernel
theorem dX12_replaces_319 : decode cX12_replaces 319 = .ok (.iadd, 1) := by decide +kernel
theorem dX12_replaces_320 : decode cX12_replaces 320 = .ok (.aload_n 0, 1) := by decide +kernel
theorem dX12_replaces_321 : decode cX12_replaces 321 = .ok (.getfield 63, 3) := by decide +kernel
theorem dX12_replaces_324 : decode cX12_replaces 324 = .ok (.aload_n 0, 1) := by decide +kernel
theorem dX12_replaces_325 : decode cX12_replaces 325 = .ok (.getfield 57, 3) := by decide +kernel
theorem dX12_replaces_328 : decode cX12_replaces 328 = .ok (.iload_n 1, 1) := by decide +kernel
theorem dX12_replaces_329 : decode cX12_replaces 329 = .ok (.iaload, 1) := by decide +kernel
theorem dX12_replaces_330 : decode cX12_replaces 330 = .ok (.iload 9, 2) := by decide +kernel
theorem dX12_replaces_332 : decode cX12_replaces 332 = .ok (.iadd, 1) := by decide +kernel
theorem dX12_replaces_333 : decode cX12_replaces 333 = .ok (.iaload, 1) := by decide +kernel
theorem dX12_replaces_334 : decode cX12_replaces 334 = .ok (.iastore, 1) := by decide +kernel
theorem dX12_replaces_335 : decode cX12_replaces 335 = .ok (.iinc 9 1, 3) := by decide +kernel
theorem dX12_replaces_338 : decode cX12_replaces 338 = .ok (.goto (-33), 3) := by decide +kernel
theorem dX12_replaces_341 : decode cX12_replaces 341 = .ok (.aload_n 0, 1) := by decide +kernel
theorem dX12_replaces_342 : decode cX12_replaces 342 = .ok (.dup, 1) := by decide +kernel
theorem dX12_replaces_343 : decode cX12_replaces 343 = .ok (.getfield 138, 3) := by decide +kernel
theorem dX12_replaces_346 : decode cX12_replaces 346 = .ok (.iload 8, 2) := by decide +kernel
theorem dX12_replaces_348 : decode cX12_replaces 348 = .ok (.iadd, 1) := by decide +kernel
theorem dX12_replaces_349 : decode cX12_replaces 349 = .ok (.putfield 138, 3) := by decide +kernel
theorem dX12_replaces_352 : decode cX12_replaces 352 = .ok (.iconst 0, 1) := by decide +kernel
theorem dX12_replaces_353 : decode cX12_replaces 353 = .ok (.istore 9, 2) := by decide +kernel
theorem dX12_replaces_355 : decode cX12_replaces 355 = .ok (.iload 9, 2) := by decide +kernel
theorem dX12_replaces_357 : decode cX12_replaces 357 = .ok (.aload_n 0, 1) := by decide +kernel
theorem dX12_replaces_358 : decode cX12_replaces 358 = .ok (.getfield 26, 3) := by decide +kernel
theorem dX12_replaces_361 : decode cX12_replaces 361 = .ok (.if_icmp .ge 31, 3) := by decide +kernel
theorem dX12_replaces_364 : decode cX12_replaces 364 = .ok (.aload_n 0, 1) := by decide +kernel
theorem dX12_replaces_365 : decode cX12_replaces 365 = .ok (.getfield 13, 3) := by decide +kernel
theorem dX12_replaces_368 : decode cX12_replaces 368 = .ok (.iload 9, 2) := by decide +kernel
theorem dX12_replaces_370 : decode cX12_replaces 370 = .ok (.aload_n 0, 1) := by decide +kernel
theorem dX12_replaces_371 : decode cX12_replaces 371 = .ok (.getfield 13, 3) := by decide +kernel
theorem dX12_replaces_374 : decode cX12_replaces 374 = .ok (.iload 9, 2) := by decide +kernel
theorem dX12_replaces_376 : decode cX12_replaces 376 = .ok (.iaload, 1) := by decide +kernel
theorem dX12_replaces_377 : decode cX12_replaces 377 = .ok (.iconst 0, 1) := by decide +kernel
theorem dX12_replaces_378 : decode cX12_replaces 378 = .ok (.iload_n 2, 1) := by decide +kernel
theorem dX12_replaces_379 : decode cX12_replaces 379 = .ok (.iload_n 3, 1) := by decide +kernel
theorem dX12_replaces_380 : decode cX12_replaces 380 = .ok (.iload 4, 2) := by decide +kernel
theorem dX12_replaces_382 : decode cX12_replaces 382 = .ok (.invokestatic 170, 3) := by decide +kernel
theorem dX12_replaces_385 : decode cX12_replaces 385 = .ok (.iastore, 1) := by decide +kernel
theorem dX12_replaces_386 : decode cX12_replaces 386 = .ok (.iinc 9 1, 3) := by decide +kernel
theorem dX12_replaces_389 : decode cX12_replaces 389 = .ok (.goto (-34), 3) := by decide +kernel
theorem dX12_replaces_392 : decode cX12_replaces 392 = .ok (.iconst 0, 1) := by decide +kernel
theorem dX12_replaces_393 : decode cX12_replaces 393 = .ok (.istore 9, 2) := by decide +kernel
theorem dX12_replaces_395 : decode cX12_replaces 395 = .ok (.iload 9, 2) := by decide +kernel
theorem dX12_replaces_397 : decode cX12_replaces 397 = .ok (.bipush 16, 2) := by decide +kernel
theorem dX12_replaces_399 : decode cX12_replaces 399 = .ok (.if_icmp .ge 52, 3) := by decide +kernel
theorem dX12_replaces_402 : decode cX12_replaces 402 = .ok (.aload_n 0, 1) := by decide +kernel
theorem dX12_replaces_403 : decode cX12_replaces 403 = .ok (.getfield 16, 3) := by decide +kernel
theorem dX12_replaces_406 : decode cX12_replaces 406 = .ok (.iload 9, 2) := by decide +kernel
theorem dX12_replaces_408 : decode cX12_replaces 408 = .ok (.aload_n 0, 1) := by decide +kernel
theorem dX12_replaces_409 : decode cX12_replaces 409 = .ok (.getfield 16, 3) := by decide +kernel
theorem dX12_replaces_412 : decode cX12_replaces 412 = .ok (.iload 9, 2) := by decide +kernel
theorem dX12_replaces_414 : decode cX12_replaces 414 = .ok (.iaload, 1) := by decide +kernel
theorem dX12_replaces_415 : decode cX12_replaces 415 = .ok (.iconst (-1), 1) := by decide +kernel
theorem dX12_replaces_416 : decode cX12_replaces 416 = .ok (.if_icmp .ne 7, 3) := by decide +kernel
theorem dX12_replaces_419 : decode cX12_replaces 419 = .ok (.iconst (-1), 1) := by decide +kernel
theorem dX12_replaces_420 : decode cX12_replaces 420 = .ok (.goto 24, 3) := by decide +kernel
theorem dX12_replaces_423 : decode cX12_replaces 423 = .ok (.aload_n 0, 1) := by decide +kernel
theorem dX12_replaces_424 : decode cX12_replaces 424 = .ok (.getfield 16, 3) := by decide +kernel
theorem dX12_replaces_427 : decode cX12_replaces 427 = .ok (.iload 9, 2) := by decide +kernel
theorem dX12_replaces_429 : decode cX12_replaces 429 = .ok (.iaload, 1) := by decide +kernel
theorem dX12_replaces_430 : decode cX12_replaces 430 = .ok (.aload_n 0, 1) := by decide +kernel
theorem dX12_replaces_431 : decode cX12_replaces 431 = .ok (.getfield 19, 3) := by decide +kernel
theorem dX12_replaces_434 : decode cX12_replaces 434 = .ok (.iload 9, 2) := by decide +kernel
theorem dX12_replaces_436 : decode cX12_replaces 436 = .ok (.baload, 1) := by decide +kernel
theorem dX12_replaces_437 : decode cX12_replaces 437 = .ok (.iload_n 2, 1) := by decide +kernel
theorem dX12_replaces_438 : decode cX12_replaces 438 = .ok (.iload_n 3, 1) := by decide +kernel
theorem dX12_replaces_439 : decode cX12_replaces 439 = .ok (.iload 4, 2) := by decide +kernel
theorem dX12_replaces_441 : decode cX12_replaces 441 = .ok (.invokestatic 170, 3) := by decide +kernel
theorem dX12_replaces_444 : decode cX12_replaces 444 = .ok (.iastore, 1) := by decide +kernel
theorem dX12_replaces_445 : decode cX12_replaces 445 = .ok (.iinc 9 1, 3) := by decide +kernel
theorem dX12_replaces_448 : decode cX12_replaces 448 = .ok (.goto (-53), 3) := by decide +kernel
theorem dX12_replaces_451 : decode cX12_replaces 451 = .ok (.return_, 1) := by decide +kernel
theorem dX12_orders_0 : decode cX12_orders 0 = .ok (.iconst 1, 1) := by decide +kernel
theorem dX12_orders_1 : decode cX12_orders 1 = .ok (.istore_n 1, 1) := by decide +kernel
theorem dX12_orders_2 : decode cX12_orders 2 = .ok (.iload_n 1, 1) := by decide +kernel
theorem dX12_orders_3 : decode cX12_orders 3 = .ok (.aload_n 0, 1) := by decide +kernel
theorem dX12_orders_4 : decode cX12_orders 4 = .ok (.getfield 26, 3) := by decide +kernel
theorem dX12_orders_7 : decode cX12_orders 7 = .ok (.if_icmp .ge 61, 3) := by decide +kernel
theorem dX12_orders_10 : decode cX12_orders 10 = .ok (.aload_n 0, 1) := by decide +kernel
theorem dX12_orders_11 : decode cX12_orders 11 = .ok (.getfield 13, 3) := by decide +kernel
theorem dX12_orders_14 : decode cX12_orders 14 = .ok (.iload_n 1, 1) := by decide +kernel
theorem dX12_orders_15 : decode cX12_orders 15 = .ok (.iaload, 1) := by decide +kernel
theorem dX12_orders_16 : decode cX12_orders 16 = .ok (.istore_n 2, 1) := by decide +kernel
theorem dX12_orders_17 : decode cX12_orders 17 = .ok (.iload_n 1, 1) := by decide +kernel
theorem dX12_orders_18 : decode cX12_orders 18 = .ok (.istore_n 3, 1) := by decide +kernel
theorem dX12_orders_19 : decode cX12_orders 19 = .ok (.iload_n 3, 1) := by decide +kernel
theorem dX12_orders_20 : decode cX12_orders 20 = .ok (.ifCond .le 35, 3) := by decide +kernel
theorem dX12_orders_23 : decode cX12_orders 23 = .ok (.aload_n 0, 1) := by decide +kernel
theorem dX12_orders_24 : decode cX12_orders 24 = .ok (.getfield 13, 3) := by decide +kernel
theorem dX12_orders_27 : decode cX12_orders 27 = .ok (.iload_n 3, 1) := by decide +kernel
theorem dX12_orders_28 : decode cX12_orders 28 = .ok (.iconst 1, 1) := by decide +kernel
theorem dX12_orders_29 : decode cX12_orders 29 = .ok (.isub, 1) := by decide +kernel
theorem dX12_orders_30 : decode cX12_orders 30 = .ok (.iaload, 1) := by decide +kernel
theorem dX12_orders_31 : decode cX12_orders 31 = .ok (.iload_n 2, 1) := by decide +kernel
theorem dX12_orders_32 : decode cX12_orders 32 = .ok (.if_icmp .le 23, 3) := by decide +kernel
theorem dX12_orders_35 : decode cX12_orders 35 = .ok (.aload_n 0, 1) := by decide +kernel
theorem dX12_orders_36 : decode cX12_orders 36 = .ok (.getfield 13, 3) := by decide +kernel
theorem dX12_orders_39 : decode cX12_orders 39 = .ok (.iload_n 3, 1) := by decide +kernel
theorem dX12_orders_40 : decode cX12_orders 40 = .ok (.aload_n 0, 1) := by decide +kernel
theorem dX12_orders_41 : decode cX12_orders 41 = .ok (.getfield 13, 3) := by decide +kernel
theorem dX12_orders_44 : decode cX12_orders 44 = .ok (.iload_n 3, 1) := by decide +kernel
theorem dX12_orders_45 : decode cX12_orders 45 = .ok (.iconst 1, 1) := by decide +kernel
theorem dX12_orders_46 : decode cX12_orders 46 = .ok (.isub, 1) := by decide +kernel
theorem dX12_orders_47 : decode cX12_orders 47 = .ok (.iaload, 1) := by decide +kernel
theorem dX12_orders_48 : decode cX12_orders 48 = .ok (.iastore, 1) := by decide +kernel
theorem dX12_orders_49 : decode cX12_orders 49 = .ok (.iinc 3 (-1), 3) := by decide +kernel
theorem dX12_orders_52 : decode cX12_orders 52 = .ok (.goto (-33), 3) := by decide +kernel
theorem dX12_orders_55 : decode cX12_orders 55 = .ok (.aload_n 0, 1) := by decide +kernel
theorem dX12_orders_56 : decode cX12_orders 56 = .ok (.getfield 13, 3) := by decide +kernel
theorem dX12_orders_59 : decode cX12_orders 59 = .ok (.iload_n 3, 1) := by decide +kernel
theorem dX12_orders_60 : decode cX12_orders 60 = .ok (.iload_n 2, 1) := by decide +kernel
theorem dX12_orders_61 : decode cX12_orders 61 = .ok (.iastore, 1) := by decide +kernel
theorem dX12_orders_62 : decode cX12_orders 62 = .ok (.iinc 1 1, 3) := by decide +kernel
theorem dX12_orders_65 : decode cX12_orders 65 = .ok (.goto (-63), 3) := by decide +kernel
theorem dX12_orders_68 : decode cX12_orders 68 = .ok (.iconst 1, 1) := by decide +kernel
theorem dX12_orders_69 : decode cX12_orders 69 = .ok (.istore_n 1, 1) := by decide +kernel
theorem dX12_orders_70 : decode cX12_orders 70 = .ok (.iconst 1, 1) := by decide +kernel
theorem dX12_orders_71 : decode cX12_orders 71 = .ok (.istore_n 2, 1) := by decide +kernel
theorem dX12_orders_72 : decode cX12_orders 72 = .ok (.iload_n 2, 1) := by decide +kernel
theorem dX12_orders_73 : decode cX12_orders 73 = .ok (.aload_n 0, 1) := by decide +kernel
theorem dX12_orders_74 : decode cX12_orders 74 = .ok (.getfield 26, 3) := by decide +kernel
theorem dX12_orders_77 : decode cX12_orders 77 = .ok (.if_icmp .ge 41, 3) := by decide +kernel
theorem dX12_orders_80 : decode cX12_orders 80 = .ok (.aload_n 0, 1) := by decide +kernel
theorem dX12_orders_81 : decode cX12_orders 81 = .ok (.getfield 13, 3) := by decide +kernel
theorem dX12_orders_84 : decode cX12_orders 84 = .ok (.iload_n 2, 1) := by decide +kernel
theorem dX12_orders_85 : decode cX12_orders 85 = .ok (.iaload, 1) := by decide +kernel
theorem dX12_orders_86 : decode cX12_orders 86 = .ok (.aload_n 0, 1) := by decide +kernel
theorem dX12_orders_87 : decode cX12_orders 87 = .ok (.getfield 13, 3) := by decide +kernel
theorem dX12_orders_90 : decode cX12_orders 90 = .ok (.iload_n 1, 1) := by decide +kernel
theorem dX12_orders_91 : decode cX12_orders 91 = .ok (.iconst 1, 1) := by decide +kernel
theorem dX12_orders_92 : decode cX12_orders 92 = .ok (.isub, 1) := by decide +kernel
theorem dX12_orders_93 : decode cX12_orders 93 = .ok (.iaload, 1) := by decide +kernel
theorem dX12_orders_94 : decode cX12_orders 94 = .ok (.if_icmp .eq 18, 3) := by decide +kernel
theorem dX12_orders_97 : decode cX12_orders 97 = .ok (.aload_n 0, 1) := by decide +kernel
theorem dX12_orders_98 : decode cX12_orders 98 = .ok (.getfield 13, 3) := by decide +kernel
theorem dX12_orders_101 : decode cX12_orders 101 = .ok (.iload_n 1, 1) := by decide +kernel
theorem dX12_orders_102 : decode cX12_orders 102 = .ok (.aload_n 0, 1) := by decide +kernel
theorem dX12_orders_103 : decode cX12_orders 103 = .ok (.getfield 13, 3) := by decide +kernel
theorem dX12_orders_106 : decode cX12_orders 106 = .ok (.iload_n 2, 1) := by decide +kernel
theorem dX12_orders_107 : decode cX12_orders 107 = .ok (.iaload, 1) := by decide +kernel
theorem dX12_orders_108 : decode cX12_orders 108 = .ok (.iastore, 1) := by decide +kernel
theorem dX12_orders_109 : decode cX12_orders 109 = .ok (.iinc 1 1, 3) := by decide +kernel
theorem dX12_orders_112 : decode cX12_orders 112 = .ok (.iinc 2 1, 3) := by decide +kernel
theorem dX12_orders_115 : decode cX12_orders 115 = .ok (.goto (-43), 3) := by decide +kernel
theorem dX12_orders_118 : decode cX12_orders 118 = .ok (.aload_n 0, 1) := by decide +kernel
theorem dX12_orders_119 : decode cX12_orders 119 = .ok (.iload_n 1, 1) := by decide +kernel
theorem dX12_orders_120 : decode cX12_orders 120 = .ok (.putfield 26, 3) := by decide +kernel
theorem dX12_orders_123 : decode cX12_orders 123 = .ok (.return_, 1) := by decide +kernel
theorem dX12_acts_0 : decode cX12_acts 0 = .ok (.aload_n 0, 1) := by decide +kernel
theorem dX12_acts_1 : decode cX12_acts 1 = .ok (.getfield 155, 3) := by decide +kernel
theorem dX12_acts_4 : decode cX12_acts 4 = .ok (.ifCond .ne 5, 3) := by decide +kernel
theorem dX12_acts_7 : decode cX12_acts 7 = .ok (.iconst 1, 1) := by decide +kernel
theorem dX12_acts_8 : decode cX12_acts 8 = .ok (.ireturn, 1) := by decide +kernel
theorem dX12_acts_9 : decode cX12_acts 9 = .ok (.aload_n 0, 1) := by decide +kernel
theorem dX12_acts_10 : decode cX12_acts 10 = .ok (.getfield 174, 3) := by decide +kernel
theorem dX12_acts_13 : decode cX12_acts 13 = .ok (.ifCond .eq 11, 3) := by decide +kernel
theorem dX12_acts_16 : decode cX12_acts 16 = .ok (.aload_n 0, 1) := by decide +kernel
theorem dX12_acts_17 : decode cX12_acts 17 = .ok (.getfield 72, 3) := by decide +kernel
theorem dX12_acts_20 : decode cX12_acts 20 = .ok (.iconst (-1), 1) := by decide +kernel
theorem dX12_acts_21 : decode cX12_acts 21 = .ok (.if_icmp .ne 7, 3) := by decide +kernel
theorem dX12_acts_24 : decode cX12_acts 24 = .ok (.iconst 1, 1) := by decide +kernel
theorem dX12_acts_25 : decode cX12_acts 25 = .ok (.goto 4, 3) := by decide +kernel
theorem dX12_acts_28 : decode cX12_acts 28 = .ok (.iconst 0, 1) := by decide +kernel
theorem dX12_acts_29 : decode cX12_acts 29 = .ok (.istore_n 1, 1) := by decide +kernel
theorem dX12_acts_30 : decode cX12_acts 30 = .ok (.aload_n 0, 1) := by decide +kernel
theorem dX12_acts_31 : decode cX12_acts 31 = .ok (.invokevirtual 178, 3) := by decide +kernel
theorem dX12_acts_34 : decode cX12_acts 34 = .ok (.ifCond .ne 17, 3) := by decide +kernel
theorem dX12_acts_37 : decode cX12_acts 37 = .ok (.iload_n 1, 1) := by decide +kernel
theorem dX12_acts_38 : decode cX12_acts 38 = .ok (.ifCond .eq 15, 3) := by decide +kernel
theorem dX12_acts_41 : decode cX12_acts 41 = .ok (.aload_n 0, 1) := by decide +kernel
theorem dX12_acts_42 : decode cX12_acts 42 = .ok (.getfield 182, 3) := by decide +kernel
theorem dX12_acts_45 : decode cX12_acts 45 = .ok (.sipush 150, 3) := by decide +kernel
theorem dX12_acts_48 : decode cX12_acts 48 = .ok (.if_icmp .ne 5, 3) := by decide +kernel
theorem dX12_acts_51 : decode cX12_acts 51 = .ok (.iconst 0, 1) := by decide +kernel
theorem dX12_acts_52 : decode cX12_acts 52 = .ok (.ireturn, 1) := by decide +kernel
theorem dX12_acts_53 : decode cX12_acts 53 = .ok (.iload_n 1, 1) := by decide +kernel
theorem dX12_acts_54 : decode cX12_acts 54 = .ok (.ifCond .eq 87, 3) := by decide +kernel
theorem dX12_acts_57 : decode cX12_acts 57 = .ok (.aload_n 0, 1) := by decide +kernel
theorem dX12_acts_58 : decode cX12_acts 58 = .ok (.dup, 1) := by decide +kernel
theorem dX12_acts_59 : decode cX12_acts 59 = .ok (.getfield 182, 3) := by decide +kernel
theorem dX12_acts_62 : decode cX12_acts 62 = .ok (.iconst 1, 1) := by decide +kernel
theorem dX12_acts_63 : decode cX12_acts 63 = .ok (.iadd, 1) := by decide +kernel
theorem dX12_acts_64 : decode cX12_acts 64 = .ok (.putfield 182, 3) := by decide +kernel
theorem dX12_acts_67 : decode cX12_acts 67 = .ok (.aload_n 0, 1) := by decide +kernel
theorem dX12_acts_68 : decode cX12_acts 68 = .ok (.getfield 66, 3) := by decide +kernel
theorem dX12_acts_71 : decode cX12_acts 71 = .ok (.aload_n 0, 1) := by decide +kernel
theorem dX12_acts_72 : decode cX12_acts 72 = .ok (.getfield 182, 3) := by decide +kernel
theorem dX12_acts_75 : decode cX12_acts 75 = .ok (.aload_n 0, 1) := by decide +kernel
theorem dX12_acts_76 : decode cX12_acts 76 = .ok (.getfield 185, 3) := by decide +kernel
theorem dX12_acts_79 : decode cX12_acts 79 = .ok (.iastore, 1) := by decide +kernel
theorem dX12_acts_80 : decode cX12_acts 80 = .ok (.aload_n 0, 1) := by decide +kernel
theorem dX12_acts_81 : decode cX12_acts 81 = .ok (.getfield 69, 3) := by decide +kernel
theorem dX12_acts_84 : decode cX12_acts 84 = .ok (.aload_n 0, 1) := by decide +kernel
theorem dX12_acts_85 : decode cX12_acts 85 = .ok (.getfield 182, 3) := by decide +kernel
theorem dX12_acts_88 : decode cX12_acts 88 = .ok (.iconst 0, 1) := by decide +kernel
theorem dX12_acts_89 : decode cX12_acts 89 = .ok (.iastore, 1) := by decide +kernel
theorem dX12_acts_90 : decode cX12_acts 90 = .ok (.aload_n 0, 1) := by decide +kernel
theorem dX12_acts_91 : decode cX12_acts 91 = .ok (.getfield 69, 3) := by decide +kernel
theorem dX12_acts_94 : decode cX12_acts 94 = .ok (.aload_n 0, 1) := by decide +kernel
theorem dX12_acts_95 : decode cX12_acts 95 = .ok (.getfield 185, 3) := by decide +kernel
theorem dX12_acts_98 : decode cX12_acts 98 = .ok (.aload_n 0, 1) := by decide +kernel
theorem dX12_acts_99 : decode cX12_acts 99 = .ok (.getfield 182, 3) := by decide +kernel
theorem dX12_acts_102 : decode cX12_acts 102 = .ok (.iastore, 1) := by decide +kernel
theorem dX12_acts_103 : decode cX12_acts 103 = .ok (.aload_n 0, 1) := by decide +kernel
theorem dX12_acts_104 : decode cX12_acts 104 = .ok (.aload_n 0, 1) := by decide +kernel
theorem dX12_acts_105 : decode cX12_acts 105 = .ok (.getfield 182, 3) := by decide +kernel
theorem dX12_acts_108 : decode cX12_acts 108 = .ok (.putfield 185, 3) := by decide +kernel
theorem dX12_acts_111 : decode cX12_acts 111 = .ok (.aload_n 0, 1) := by decide +kernel
theorem dX12_acts_112 : decode cX12_acts 112 = .ok (.aload_n 0, 1) := by decide +kernel
theorem dX12_acts_113 : decode cX12_acts 113 = .ok (.getfield 174, 3) := by decide +kernel
theorem dX12_acts_116 : decode cX12_acts 116 = .ok (.ifCond .eq 10, 3) := by decide +kernel
theorem dX12_acts_119 : decode cX12_acts 119 = .ok (.aload_n 0, 1) := by decide +kernel
theorem dX12_acts_120 : decode cX12_acts 120 = .ok (.getfield 182, 3) := by decide +kernel
theorem dX12_acts_123 : decode cX12_acts 123 = .ok (.goto 4, 3) := by decide +kernel
theorem dX12_acts_126 : decode cX12_acts 126 = .ok (.iconst (-1), 1) := by decide +kernel
theorem dX12_acts_127 : decode cX12_acts 127 = .ok (.putfield 72, 3) := by decide +kernel
theorem dX12_acts_130 : decode cX12_acts 130 = .ok (.aload_n 0, 1) := by decide +kernel
theorem dX12_acts_131 : decode cX12_acts 131 = .ok (.aload_n 0, 1) := by decide +kernel
theorem dX12_acts_132 : decode cX12_acts 132 = .ok (.getfield 182, 3) := by decide +kernel
theorem dX12_acts_135 : decode cX12_acts 135 = .ok (.invokestatic 188, 3) := by decide +kernel
theorem dX12_acts_138 : decode cX12_acts 138 = .ok (.invokevirtual 191, 3) := by decide +kernel
theorem dX12_acts_141 : decode cX12_acts 141 = .ok (.aload_n 0, 1) := by decide +kernel
theorem dX12_acts_142 : decode cX12_acts 142 = .ok (.getfield 155, 3) := by decide +kernel
theorem dX12_acts_145 : decode cX12_acts 145 = .ok (.iconst 1, 1) := by decide +kernel
theorem dX12_acts_146 : decode cX12_acts 146 = .ok (.isub, 1) := by decide +kernel
theorem dX12_acts_147 : decode cX12_acts 147 = .ok (.istore_n 2, 1) := by decide +kernel
theorem dX12_acts_148 : decode cX12_acts 148 = .ok (.iload_n 2, 1) := by decide +kernel
theorem dX12_acts_149 : decode cX12_acts 149 = .ok (.ifCond .lt 14, 3) := by decide +kernel
theorem dX12_acts_152 : decode cX12_acts 152 = .ok (.aload_n 0, 1) := by decide +kernel
theorem dX12_acts_153 : decode cX12_acts 153 = .ok (.iload_n 2, 1) := by decide +kernel
theorem dX12_acts_154 : decode cX12_acts 154 = .ok (.invokevirtual 194, 3) := by decide +kernel
theorem dX12_acts_157 : decode cX12_acts 157 = .ok (.iinc 2 (-1), 3) := by decide +kernel
theorem dX12_acts_160 : decode cX12_acts 160 = .ok (.goto (-12), 3) := by decide +kernel
theorem dX12_acts_163 : decode cX12_acts 163 = .ok (.aload_n 0, 1) := by decide +kernel
theorem dX12_acts_164 : decode cX12_acts 164 = .ok (.invokevirtual 197, 3) := by decide +kernel
theorem dX12_acts_167 : decode cX12_acts 167 = .ok (.iconst 1, 1) := by decide +kernel
theorem dX12_acts_168 : decode cX12_acts 168 = .ok (.ireturn, 1) := by decide +kernel
theorem dX12_feed_0 : decode cX12_feed 0 = .ok (.iconst 0, 1) := by decide +kernel
theorem dX12_feed_1 : decode cX12_feed 1 = .ok (.istore_n 3, 1) := by decide +kernel
theorem dX12_feed_2 : decode cX12_feed 2 = .ok (.iconst 1, 1) := by decide +kernel
theorem dX12_feed_3 : decode cX12_feed 3 = .ok (.istore 4, 2) := by decide +kernel
theorem dX12_feed_5 : decode cX12_feed 5 = .ok (.iconst 0, 1) := by decide +kernel
theorem dX12_feed_6 : decode cX12_feed 6 = .ok (.istore 5, 2) := by decide +kernel
theorem dX12_feed_8 : decode cX12_feed 8 = .ok (.iload 5, 2) := by decide +kernel
theorem dX12_feed_10 : decode cX12_feed 10 = .ok (.bipush 8, 2) := by decide +kernel
theorem dX12_feed_12 : decode cX12_feed 12 = .ok (.if_icmp .ge 61, 3) := by decide +kernel
theorem dX12_feed_15 : decode cX12_feed 15 = .ok (.lload_n 1, 1) := by decide +kernel
theorem dX12_feed_16 : decode cX12_feed 16 = .ok (.bipush 8, 2) := by decide +kernel
theorem dX12_feed_18 : decode cX12_feed 18 = .ok (.iload 5, 2) := by decide +kernel
theorem dX12_feed_20 : decode cX12_feed 20 = .ok (.imul, 1) := by decide +kernel
theorem dX12_feed_21 : decode cX12_feed 21 = .ok (.lushr, 1) := by decide +kernel
theorem dX12_feed_22 : decode cX12_feed 22 = .ok (.ldc2_w 200, 3) := by decide +kernel
theorem dX12_feed_25 : decode cX12_feed 25 = .ok (.land, 1) := by decide +kernel
theorem dX12_feed_26 : decode cX12_feed 26 = .ok (.l2i, 1) := by decide +kernel
theorem dX12_feed_27 : decode cX12_feed 27 = .ok (.istore 6, 2) := by decide +kernel
theorem dX12_feed_29 : decode cX12_feed 29 = .ok (.iload_n 3, 1) := by decide +kernel
theorem dX12_feed_30 : decode cX12_feed 30 = .ok (.iload 6, 2) := by decide +kernel
theorem dX12_feed_32 : decode cX12_feed 32 = .ok (.ifCond .ne 7, 3) := by decide +kernel
theorem dX12_feed_35 : decode cX12_feed 35 = .ok (.iconst 0, 1) := by decide +kernel
theorem dX12_feed_36 : decode cX12_feed 36 = .ok (.goto 4, 3) := by decide +kernel
theorem dX12_feed_39 : decode cX12_feed 39 = .ok (.iconst 1, 1) := by decide +kernel
theorem dX12_feed_40 : decode cX12_feed 40 = .ok (.iadd, 1) := by decide +kernel
theorem dX12_feed_41 : decode cX12_feed 41 = .ok (.istore_n 3, 1) := by decide +kernel
theorem dX12_feed_42 : decode cX12_feed 42 = .ok (.iload 4, 2) := by decide +kernel
theorem dX12_feed_44 : decode cX12_feed 44 = .ok (.ifCond .eq 20, 3) := by decide +kernel
theorem dX12_feed_47 : decode cX12_feed 47 = .ok (.iload 6, 2) := by decide +kernel
theorem dX12_feed_49 : decode cX12_feed 49 = .ok (.ifCond .eq 11, 3) := by decide +kernel
theorem dX12_feed_52 : decode cX12_feed 52 = .ok (.iload 6, 2) := by decide +kernel
theorem dX12_feed_54 : decode cX12_feed 54 = .ok (.invokestatic 202, 3) := by decide +kernel
theorem dX12_feed_57 : decode cX12_feed 57 = .ok (.ifCond .eq 7, 3) := by decide +kernel
theorem dX12_feed_60 : decode cX12_feed 60 = .ok (.iconst 1, 1) := by decide +kernel
theorem dX12_feed_61 : decode cX12_feed 61 = .ok (.goto 4, 3) := by decide +kernel
theorem dX12_feed_64 : decode cX12_feed 64 = .ok (.iconst 0, 1) := by decide +kernel
theorem dX12_feed_65 : decode cX12_feed 65 = .ok (.istore 4, 2) := by decide +kernel
theorem dX12_feed_67 : decode cX12_feed 67 = .ok (.iinc 5 1, 3) := by decide +kernel
theorem dX12_feed_70 : decode cX12_feed 70 = .ok (.goto (-62), 3) := by decide +kernel
theorem dX12_feed_73 : decode cX12_feed 73 = .ok (.iload 4, 2) := by decide +kernel
theorem dX12_feed_75 : decode cX12_feed 75 = .ok (.ifCond .ne 9, 3) := by decide +kernel
theorem dX12_feed_78 : decode cX12_feed 78 = .ok (.aload_n 0, 1) := by decide +kernel
theorem dX12_feed_79 : decode cX12_feed 79 = .ok (.iconst 1, 1) := by decide +kernel
theorem dX12_feed_80 : decode cX12_feed 80 = .ok (.invokevirtual 206, 3) := by decide +kernel
theorem dX12_feed_83 : decode cX12_feed 83 = .ok (.ireturn, 1) := by decide +kernel
theorem dX12_feed_84 : decode cX12_feed 84 = .ok (.aload_n 0, 1) := by decide +kernel
theorem dX12_feed_85 : decode cX12_feed 85 = .ok (.getfield 161, 3) := by decide +kernel
theorem dX12_feed_88 : decode cX12_feed 88 = .ok (.iload_n 3, 1) := by decide +kernel
theorem dX12_feed_89 : decode cX12_feed 89 = .ok (.iadd, 1) := by decide +kernel
theorem dX12_feed_90 : decode cX12_feed 90 = .ok (.sipush 200, 3) := by decide +kernel
theorem dX12_feed_93 : decode cX12_feed 93 = .ok (.if_icmp .le 9, 3) := by decide +kernel
theorem dX12_feed_96 : decode cX12_feed 96 = .ok (.aload_n 0, 1) := by decide +kernel
theorem dX12_feed_97 : decode cX12_feed 97 = .ok (.iconst 2, 1) := by decide +kernel
theorem dX12_feed_98 : decode cX12_feed 98 = .ok (.invokevirtual 206, 3) := by decide +kernel
theorem dX12_feed_101 : decode cX12_feed 101 = .ok (.ireturn, 1) := by decide +kernel
theorem dX12_feed_102 : decode cX12_feed 102 = .ok (.bipush 7, 2) := by decide +kernel
theorem dX12_feed_104 : decode cX12_feed 104 = .ok (.istore 5, 2) := by decide +kernel
theorem dX12_feed_106 : decode cX12_feed 106 = .ok (.iload 5, 2) := by decide +kernel
theorem dX12_feed_108 : decode cX12_feed 108 = .ok (.ifCond .lt 49, 3) := by decide +kernel
theorem dX12_feed_111 : decode cX12_feed 111 = .ok (.lload_n 1, 1) := by decide +kernel
theorem dX12_feed_112 : decode cX12_feed 112 = .ok (.bipush 8, 2) := by decide +kernel
theorem dX12_feed_114 : decode cX12_feed 114 = .ok (.iload 5, 2) := by decide +kernel
theorem dX12_feed_116 : decode cX12_feed 116 = .ok (.imul, 1) := by decide +kernel
theorem dX12_feed_117 : decode cX12_feed 117 = .ok (.lushr, 1) := by decide +kernel
theorem dX12_feed_118 : decode cX12_feed 118 = .ok (.ldc2_w 200, 3) := by decide +kernel
theorem dX12_feed_121 : decode cX12_feed 121 = .ok (.land, 1) := by decide +kernel
theorem dX12_feed_122 : decode cX12_feed 122 = .ok (.l2i, 1) := by decide +kernel
theorem dX12_feed_123 : decode cX12_feed 123 = .ok (.istore 6, 2) := by decide +kernel
theorem dX12_feed_125 : decode cX12_feed 125 = .ok (.iload 6, 2) := by decide +kernel
theorem dX12_feed_127 : decode cX12_feed 127 = .ok (.ifCond .eq 24, 3) := by decide +kernel
theorem dX12_feed_130 : decode cX12_feed 130 = .ok (.aload_n 0, 1) := by decide +kernel
theorem dX12_feed_131 : decode cX12_feed 131 = .ok (.getfield 30, 3) := by decide +kernel
theorem dX12_feed_134 : decode cX12_feed 134 = .ok (.aload_n 0, 1) := by decide +kernel
theorem dX12_feed_135 : decode cX12_feed 135 = .ok (.getfield 161, 3) := by decide +kernel
theorem dX12_feed_138 : decode cX12_feed 138 = .ok (.iload 6, 2) := by decide +kernel
theorem dX12_feed_140 : decode cX12_feed 140 = .ok (.iastore, 1) := by decide +kernel
theorem dX12_feed_141 : decode cX12_feed 141 = .ok (.aload_n 0, 1) := by decide +kernel
theorem dX12_feed_142 : decode cX12_feed 142 = .ok (.dup, 1) := by decide +kernel
theorem dX12_feed_143 : decode cX12_feed 143 = .ok (.getfield 161, 3) := by decide +kernel
theorem dX12_feed_146 : decode cX12_feed 146 = .ok (.iconst 1, 1) := by decide +kernel
theorem dX12_feed_147 : decode cX12_feed 147 = .ok (.iadd, 1) := by decide +kernel
theorem dX12_feed_148 : decode cX12_feed 148 = .ok (.putfield 161, 3) := by decide +kernel
theorem dX12_feed_151 : decode cX12_feed 151 = .ok (.iinc 5 (-1), 3) := by decide +kernel
theorem dX12_feed_154 : decode cX12_feed 154 = .ok (.goto (-48), 3) := by decide +kernel
theorem dX12_feed_157 : decode cX12_feed 157 = .ok (.aload_n 0, 1) := by decide +kernel
theorem dX12_feed_158 : decode cX12_feed 158 = .ok (.aload_n 0, 1) := by decide +kernel
theorem dX12_feed_159 : decode cX12_feed 159 = .ok (.getfield 161, 3) := by decide +kernel
theorem dX12_feed_162 : decode cX12_feed 162 = .ok (.invokevirtual 209, 3) := by decide +kernel
theorem dX12_feed_165 : decode cX12_feed 165 = .ok (.ireturn, 1) := by decide +kernel
theorem dX12_clearTape_0 : decode cX12_clearTape 0 = .ok (.aload_n 0, 1) := by decide +kernel
theorem dX12_clearTape_1 : decode cX12_clearTape 1 = .ok (.getfield 161, 3) := by decide +kernel
theorem dX12_clearTape_4 : decode cX12_clearTape 4 = .ok (.istore_n 1, 1) := by decide +kernel
theorem dX12_clearTape_5 : decode cX12_clearTape 5 = .ok (.aload_n 0, 1) := by decide +kernel
theorem dX12_clearTape_6 : decode cX12_clearTape 6 = .ok (.iconst 0, 1) := by decide +kernel
theorem dX12_clearTape_7 : decode cX12_clearTape 7 = .ok (.putfield 161, 3) := by decide +kernel
theorem dX12_clearTape_10 : decode cX12_clearTape 10 = .ok (.aload_n 0, 1) := by decide +kernel
theorem dX12_clearTape_11 : decode cX12_clearTape 11 = .ok (.iload_n 1, 1) := by decide +kernel
theorem dX12_clearTape_12 : decode cX12_clearTape 12 = .ok (.invokevirtual 209, 3) := by decide +kernel
theorem dX12_clearTape_15 : decode cX12_clearTape 15 = .ok (.ireturn, 1) := by decide +kernel
theorem dX12_clips_0 : decode cX12_clips 0 = .ok (.aload_n 0, 1) := by decide +kernel
theorem dX12_clips_1 : decode cX12_clips 1 = .ok (.iconst 0, 1) := by decide +kernel
theorem dX12_clips_2 : decode cX12_clips 2 = .ok (.putfield 212, 3) := by decide +kernel
theorem dX12_clips_5 : decode cX12_clips 5 = .ok (.aload_n 0, 1) := by decide +kernel
theorem dX12_clips_6 : decode cX12_clips 6 = .ok (.iload_n 2, 1) := by decide +kernel
theorem dX12_clips_7 : decode cX12_clips 7 = .ok (.iload_n 1, 1) := by decide +kernel
theorem dX12_clips_8 : decode cX12_clips 8 = .ok (.isub, 1) := by decide +kernel
theorem dX12_clips_9 : decode cX12_clips 9 = .ok (.putfield 215, 3) := by decide +kernel
theorem dX12_clips_12 : decode cX12_clips 12 = .ok (.iload_n 1, 1) := by decide +kernel
theorem dX12_clips_13 : decode cX12_clips 13 = .ok (.istore_n 3, 1) := by decide +kernel
theorem dX12_clips_14 : decode cX12_clips 14 = .ok (.iload_n 3, 1) := by decide +kernel
theorem dX12_clips_15 : decode cX12_clips 15 = .ok (.iload_n 2, 1) := by decide +kernel
theorem dX12_clips_16 : decode cX12_clips 16 = .ok (.if_icmp .ge 23, 3) := by decide +kernel
theorem dX12_clips_19 : decode cX12_clips 19 = .ok (.aload_n 0, 1) := by decide +kernel
theorem dX12_clips_20 : decode cX12_clips 20 = .ok (.getfield 33, 3) := by decide +kernel
theorem dX12_clips_23 : decode cX12_clips 23 = .ok (.iload_n 3, 1) := by decide +kernel
theorem dX12_clips_24 : decode cX12_clips 24 = .ok (.iload_n 1, 1) := by decide +kernel
theorem dX12_clips_25 : decode cX12_clips 25 = .ok (.isub, 1) := by decide +kernel
theorem dX12_clips_26 : decode cX12_clips 26 = .ok (.aload_n 0, 1) := by decide +kernel
theorem dX12_clips_27 : decode cX12_clips 27 = .ok (.getfield 7, 3) := by decide +kernel
theorem dX12_clips_30 : decode cX12_clips 30 = .ok (.iload_n 3, 1) := by decide +kernel
theorem dX12_clips_31 : decode cX12_clips 31 = .ok (.iaload, 1) := by decide +kernel
theorem dX12_clips_32 : decode cX12_clips 32 = .ok (.iastore, 1) := by decide +kernel
theorem dX12_clips_33 : decode cX12_clips 33 = .ok (.iinc 3 1, 3) := by decide +kernel
theorem dX12_clips_36 : decode cX12_clips 36 = .ok (.goto (-22), 3) := by decide +kernel
theorem dX12_clips_39 : decode cX12_clips 39 = .ok (.return_, 1) := by decide +kernel
theorem dX12_copy_0 : decode cX12_copy 0 = .ok (.aload_n 0, 1) := by decide +kernel
theorem dX12_copy_1 : decode cX12_copy 1 = .ok (.iload_n 1, 1) := by decide +kernel
theorem dX12_copy_2 : decode cX12_copy 2 = .ok (.invokevirtual 218, 3) := by decide +kernel
theorem dX12_copy_5 : decode cX12_copy 5 = .ok (.ifCond .eq 11, 3) := by decide +kernel
theorem dX12_copy_8 : decode cX12_copy 8 = .ok (.aload_n 0, 1) := by decide +kernel
theorem dX12_copy_9 : decode cX12_copy 9 = .ok (.iload_n 2, 1) := by decide +kernel
theorem dX12_copy_10 : decode cX12_copy 10 = .ok (.invokevirtual 218, 3) := by decide +kernel
theorem dX12_copy_13 : decode cX12_copy 13 = .ok (.ifCond .ne 9, 3) := by decide +kernel
theorem dX12_copy_16 : decode cX12_copy 16 = .ok (.aload_n 0, 1) := by decide +kernel
theorem dX12_copy_17 : decode cX12_copy 17 = .ok (.iconst 1, 1) := by decide +kernel
theorem dX12_copy_18 : decode cX12_copy 18 = .ok (.invokevirtual 206, 3) := by decide +kernel
theorem dX12_copy_21 : decode cX12_copy 21 = .ok (.ireturn, 1) := by decide +kernel
theorem dX12_copy_22 : decode cX12_copy 22 = .ok (.iload_n 1, 1) := by decide +kernel
theorem dX12_copy_23 : decode cX12_copy 23 = .ok (.iload_n 2, 1) := by decide +kernel
theorem dX12_copy_24 : decode cX12_copy 24 = .ok (.if_icmp .le 9, 3) := by decide +kernel
theorem dX12_copy_27 : decode cX12_copy 27 = .ok (.aload_n 0, 1) := by decide +kernel
theorem dX12_copy_28 : decode cX12_copy 28 = .ok (.iconst 2, 1) := by decide +kernel
theorem dX12_copy_29 : decode cX12_copy 29 = .ok (.invokevirtual 206, 3) := by decide +kernel
theorem dX12_copy_32 : decode cX12_copy 32 = .ok (.ireturn, 1) := by decide +kernel
theorem dX12_copy_33 : decode cX12_copy 33 = .ok (.aload_n 0, 1) := by decide +kernel
theorem dX12_copy_34 : decode cX12_copy 34 = .ok (.iload_n 1, 1) := by decide +kernel
theorem dX12_copy_35 : decode cX12_copy 35 = .ok (.iload_n 2, 1) := by decide +kernel
theorem dX12_copy_36 : decode cX12_copy 36 = .ok (.invokevirtual 221, 3) := by decide +kernel
theorem dX12_copy_39 : decode cX12_copy 39 = .ok (.aload_n 0, 1) := by decide +kernel
theorem dX12_copy_40 : decode cX12_copy 40 = .ok (.aload_n 0, 1) := by decide +kernel
theorem dX12_copy_41 : decode cX12_copy 41 = .ok (.getfield 215, 3) := by decide +kernel
theorem dX12_copy_44 : decode cX12_copy 44 = .ok (.invokevirtual 209, 3) := by decide +kernel
theorem dX12_copy_47 : decode cX12_copy 47 = .ok (.ireturn, 1) := by decide +kernel
theorem dX12_copyBlock_0 : decode cX12_copyBlock 0 = .ok (.aload_n 0, 1) := by decide +kernel
theorem dX12_copyBlock_1 : decode cX12_copyBlock 1 = .ok (.iload_n 1, 1) := by decide +kernel
theorem dX12_copyBlock_2 : decode cX12_copyBlock 2 = .ok (.invokevirtual 225, 3) := by decide +kernel
theorem dX12_copyBlock_5 : decode cX12_copyBlock 5 = .ok (.ifCond .eq 13, 3) := by decide +kernel
theorem dX12_copyBlock_8 : decode cX12_copyBlock 8 = .ok (.iload_n 2, 1) := by decide +kernel
theorem dX12_copyBlock_9 : decode cX12_copyBlock 9 = .ok (.aload_n 0, 1) := by decide +kernel
theorem dX12_copyBlock_10 : decode cX12_copyBlock 10 = .ok (.invokevirtual 141, 3) := by decide +kernel
theorem dX12_copyBlock_13 : decode cX12_copyBlock 13 = .ok (.iload_n 1, 1) := by decide +kernel
theorem dX12_copyBlock_14 : decode cX12_copyBlock 14 = .ok (.isub, 1) := by decide +kernel
theorem dX12_copyBlock_15 : decode cX12_copyBlock 15 = .ok (.if_icmp .le 9, 3) := by decide +kernel
theorem dX12_copyBlock_18 : decode cX12_copyBlock 18 = .ok (.aload_n 0, 1) := by decide +kernel
theorem dX12_copyBlock_19 : decode cX12_copyBlock 19 = .ok (.iconst 1, 1) := by decide +kernel
theorem dX12_copyBlock_20 : decode cX12_copyBlock 20 = .ok (.invokevirtual 206, 3) := by decide +kernel
theorem dX12_copyBlock_23 : decode cX12_copyBlock 23 = .ok (.ireturn, 1) := by decide +kernel
theorem dX12_copyBlock_24 : decode cX12_copyBlock 24 = .ok (.iload_n 2, 1) := by decide +kernel
theorem dX12_copyBlock_25 : decode cX12_copyBlock 25 = .ok (.iconst 1, 1) := by decide +kernel
theorem dX12_copyBlock_26 : decode cX12_copyBlock 26 = .ok (.if_icmp .lt 25, 3) := by decide +kernel
theorem dX12_copyBlock_29 : decode cX12_copyBlock 29 = .ok (.iload_n 3, 1) := by decide +kernel
theorem dX12_copyBlock_30 : decode cX12_copyBlock 30 = .ok (.iconst 0, 1) := by decide +kernel
theorem dX12_copyBlock_31 : decode cX12_copyBlock 31 = .ok (.sipush 200, 3) := by decide +kernel
theorem dX12_copyBlock_34 : decode cX12_copyBlock 34 = .ok (.invokestatic 134, 3) := by decide +kernel
theorem dX12_copyBlock_37 : decode cX12_copyBlock 37 = .ok (.ifCond .eq 14, 3) := by decide +kernel
theorem dX12_copyBlock_40 : decode cX12_copyBlock 40 = .ok (.iload 4, 2) := by decide +kernel
theorem dX12_copyBlock_42 : decode cX12_copyBlock 42 = .ok (.iconst 1, 1) := by decide +kernel
theorem dX12_copyBlock_43 : decode cX12_copyBlock 43 = .ok (.bipush 40, 2) := by decide +kernel
theorem dX12_copyBlock_45 : decode cX12_copyBlock 45 = .ok (.invokestatic 134, 3) := by decide +kernel
theorem dX12_copyBlock_48 : decode cX12_copyBlock 48 = .ok (.ifCond .ne 9, 3) := by decide +kernel
theorem dX12_copyBlock_51 : decode cX12_copyBlock 51 = .ok (.aload_n 0, 1) := by decide +kernel
theorem dX12_copyBlock_52 : decode cX12_copyBlock 52 = .ok (.iconst 2, 1) := by decide +kernel
theorem dX12_copyBlock_53 : decode cX12_copyBlock 53 = .ok (.invokevirtual 206, 3) := by decide +kernel
theorem dX12_copyBlock_56 : decode cX12_copyBlock 56 = .ok (.ireturn, 1) := by decide +kernel
theorem dX12_copyBlock_57 : decode cX12_copyBlock 57 = .ok (.iconst 0, 1) := by decide +kernel
theorem dX12_copyBlock_58 : decode cX12_copyBlock 58 = .ok (.istore 5, 2) := by decide +kernel
theorem dX12_copyBlock_60 : decode cX12_copyBlock 60 = .ok (.iconst 0, 1) := by decide +kernel
theorem dX12_copyBlock_61 : decode cX12_copyBlock 61 = .ok (.istore 6, 2) := by decide +kernel
theorem dX12_copyBlock_63 : decode cX12_copyBlock 63 = .ok (.iload 6, 2) := by decide +kernel
theorem dX12_copyBlock_65 : decode cX12_copyBlock 65 = .ok (.iload_n 2, 1) := by decide +kernel
theorem dX12_copyBlock_66 : decode cX12_copyBlock 66 = .ok (.if_icmp .ge 114, 3) := by decide +kernel
theorem dX12_copyBlock_69 : decode cX12_copyBlock 69 = .ok (.aload_n 0, 1) := by decide +kernel
theorem dX12_copyBlock_70 : decode cX12_copyBlock 70 = .ok (.iload_n 1, 1) := by decide +kernel
theorem dX12_copyBlock_71 : decode cX12_copyBlock 71 = .ok (.iload 6, 2) := by decide +kernel
theorem dX12_copyBlock_73 : decode cX12_copyBlock 73 = .ok (.iadd, 1) := by decide +kernel
theorem dX12_copyBlock_74 : decode cX12_copyBlock 74 = .ok (.invokevirtual 145, 3) := by decide +kernel
theorem dX12_copyBlock_77 : decode cX12_copyBlock 77 = .ok (.istore 7, 2) := by decide +kernel
theorem dX12_copyBlock_79 : decode cX12_copyBlock 79 = .ok (.aload_n 0, 1) := by decide +kernel
theorem dX12_copyBlock_80 : decode cX12_copyBlock 80 = .ok (.iload_n 1, 1) := by decide +kernel
theorem dX12_copyBlock_81 : decode cX12_copyBlock 81 = .ok (.iload 6, 2) := by decide +kernel
theorem dX12_copyBlock_83 : decode cX12_copyBlock 83 = .ok (.iadd, 1) := by decide +kernel
theorem dX12_copyBlock_84 : decode cX12_copyBlock 84 = .ok (.invokevirtual 228, 3) := by decide +kernel
theorem dX12_copyBlock_87 : decode cX12_copyBlock 87 = .ok (.istore 8, 2) := by decide +kernel
theorem dX12_copyBlock_89 : decode cX12_copyBlock 89 = .ok (.iconst 0, 1) := by decide +kernel
theorem dX12_copyBlock_90 : decode cX12_copyBlock 90 = .ok (.istore 9, 2) := by decide +kernel
theorem dX12_copyBlock_92 : decode cX12_copyBlock 92 = .ok (.iload 9, 2) := by decide +kernel
theorem dX12_copyBlock_94 : decode cX12_copyBlock 94 = .ok (.iload 4, 2) := by decide +kernel
theorem dX12_copyBlock_96 : decode cX12_copyBlock 96 = .ok (.if_icmp .ge 78, 3) := by decide +kernel
theorem dX12_copyBlock_99 : decode cX12_copyBlock 99 = .ok (.iload 7, 2) := by decide +kernel
theorem dX12_copyBlock_101 : decode cX12_copyBlock 101 = .ok (.iload_n 3, 1) := by decide +kernel
theorem dX12_copyBlock_102 : decode cX12_copyBlock 102 = .ok (.iadd, 1) := by decide +kernel
theorem dX12_copyBlock_103 : decode cX12_copyBlock 103 = .ok (.iload 9, 2) := by decide +kernel
theorem dX12_copyBlock_105 : decode cX12_copyBlock 105 = .ok (.iadd, 1) := by decide +kernel
theorem dX12_copyBlock_106 : decode cX12_copyBlock 106 = .ok (.iload 8, 2) := by decide +kernel
theorem dX12_copyBlock_108 : decode cX12_copyBlock 108 = .ok (.if_icmp .ge 7, 3) := by decide +kernel
theorem dX12_copyBlock_111 : decode cX12_copyBlock 111 = .ok (.iconst 1, 1) := by decide +kernel
theorem dX12_copyBlock_112 : decode cX12_copyBlock 112 = .ok (.goto 4, 3) := by decide +kernel
theorem dX12_copyBlock_115 : decode cX12_copyBlock 115 = .ok (.iconst 0, 1) := by decide +kernel
theorem dX12_copyBlock_116 : decode cX12_copyBlock 116 = .ok (.istore 10, 2) := by decide +kernel
theorem dX12_copyBlock_118 : decode cX12_copyBlock 118 = .ok (.aload_n 0, 1) := by decide +kernel
theorem dX12_copyBlock_119 : decode cX12_copyBlock 119 = .ok (.getfield 33, 3) := by decide +kernel
theorem dX12_copyBlock_122 : decode cX12_copyBlock 122 = .ok (.iload 4, 2) := by decide +kernel
theorem dX12_copyBlock_124 : decode cX12_copyBlock 124 = .ok (.iload 6, 2) := by decide +kernel
theorem dX12_copyBlock_126 : decode cX12_copyBlock 126 = .ok (.imul, 1) := by decide +kernel
theorem dX12_copyBlock_127 : decode cX12_copyBlock 127 = .ok (.iload 9, 2) := by decide +kernel
theorem dX12_copyBlock_129 : decode cX12_copyBlock 129 = .ok (.iadd, 1) := by decide +kernel
theorem dX12_copyBlock_130 : decode cX12_copyBlock 130 = .ok (.iload 10, 2) := by decide +kernel
theorem dX12_copyBlock_132 : decode cX12_copyBlock 132 = .ok (.ifCond .eq 18, 3) := by decide +kernel
theorem dX12_copyBlock_135 : decode cX12_copyBlock 135 = .ok (.aload_n 0, 1) := by decide +kernel
theorem dX12_copyBlock_136 : decode cX12_copyBlock 136 = .ok (.getfield 7, 3) := by decide +kernel
theorem dX12_copyBlock_139 : decode cX12_copyBlock 139 = .ok (.iload 7, 2) := by decide +kernel
theorem dX12_copyBlock_141 : decode cX12_copyBlock 141 = .ok (.iload_n 3, 1) := by decide +kernel
theorem dX12_copyBlock_142 : decode cX12_copyBlock 142 = .ok (.iadd, 1) := by decide +kernel
theorem dX12_copyBlock_143 : decode cX12_copyBlock 143 = .ok (.iload 9, 2) := by decide +kernel
theorem dX12_copyBlock_145 : decode cX12_copyBlock 145 = .ok (.iadd, 1) := by decide +kernel
theorem dX12_copyBlock_146 : decode cX12_copyBlock 146 = .ok (.iaload, 1) := by decide +kernel
theorem dX12_copyBlock_147 : decode cX12_copyBlock 147 = .ok (.goto 5, 3) := by decide +kernel
theorem dX12_copyBlock_150 : decode cX12_copyBlock 150 = .ok (.bipush 32, 2) := by decide +kernel
theorem dX12_copyBlock_152 : decode cX12_copyBlock 152 = .ok (.iastore, 1) := by decide +kernel
theorem dX12_copyBlock_153 : decode cX12_copyBlock 153 = .ok (.iload 5, 2) := by decide +kernel
theorem dX12_copyBlock_155 : decode cX12_copyBlock 155 = .ok (.iload 10, 2) := by decide +kernel
theorem dX12_copyBlock_157 : decode cX12_copyBlock 157 = .ok (.ifCond .eq 7, 3) := by decide +kernel
theorem dX12_copyBlock_160 : decode cX12_copyBlock 160 = .ok (.iconst 1, 1) := by decide +kernel
theorem dX12_copyBlock_161 : decode cX12_copyBlock 161 = .ok (.goto 4, 3) := by decide +kernel
theorem dX12_copyBlock_164 : decode cX12_copyBlock 164 = .ok (.iconst 0, 1) := by decide +kernel
theorem dX12_copyBlock_165 : decode cX12_copyBlock 165 = .ok (.iadd, 1) := by decide +kernel
theorem dX12_copyBlock_166 : decode cX12_copyBlock 166 = .ok (.istore 5, 2) := by decide +kernel
theorem dX12_copyBlock_168 : decode cX12_copyBlock 168 = .ok (.iinc 9 1, 3) := by decide +kernel
theorem dX12_copyBlock_171 : decode cX12_copyBlock 171 = .ok (.goto (-79), 3) := by decide +kernel
theorem dX12_copyBlock_174 : decode cX12_copyBlock 174 = .ok (.iinc 6 1, 3) := by decide +kernel
theorem dX12_copyBlock_177 : decode cX12_copyBlock 177 = .ok (.goto (-114), 3) := by decide +kernel
theorem dX12_copyBlock_180 : decode cX12_copyBlock 180 = .ok (.aload_n 0, 1) := by decide +kernel
theorem dX12_copyBlock_181 : decode cX12_copyBlock 181 = .ok (.iload_n 2, 1) := by decide +kernel
theorem dX12_copyBlock_182 : decode cX12_copyBlock 182 = .ok (.putfield 212, 3) := by decide +kernel
theorem dX12_copyBlock_185 : decode cX12_copyBlock 185 = .ok (.aload_n 0, 1) := by decide +kernel
theorem dX12_copyBlock_186 : decode cX12_copyBlock 186 = .ok (.iload 4, 2) := by decide +kernel
theorem dX12_copyBlock_188 : decode cX12_copyBlock 188 = .ok (.putfield 231, 3) := by decide +kernel
theorem dX12_copyBlock_191 : decode cX12_copyBlock 191 = .ok (.aload_n 0, 1) := by decide +kernel
theorem dX12_copyBlock_192 : decode cX12_copyBlock 192 = .ok (.iload_n 2, 1) := by decide +kernel
theorem dX12_copyBlock_193 : decode cX12_copyBlock 193 = .ok (.iload 4, 2) := by decide +kernel
theorem dX12_copyBlock_195 : decode cX12_copyBlock 195 = .ok (.imul, 1) := by decide +kernel
theorem dX12_copyBlock_196 : decode cX12_copyBlock 196 = .ok (.putfield 215, 3) := by decide +kernel
theorem dX12_copyBlock_199 : decode cX12_copyBlock 199 = .ok (.aload_n 0, 1) := by decide +kernel
theorem dX12_copyBlock_200 : decode cX12_copyBlock 200 = .ok (.iload 5, 2) := by decide +kernel
theorem dX12_copyBlock_202 : decode cX12_copyBlock 202 = .ok (.invokevirtual 209, 3) := by decide +kernel
theorem dX12_copyBlock_205 : decode cX12_copyBlock 205 = .ok (.ireturn, 1) := by decide +kernel
theorem dX12_types_0 : decode cX12_types 0 = .ok (.aload_n 0, 1) := by decide +kernel
theorem dX12_types_1 : decode cX12_types 1 = .ok (.invokevirtual 234, 3) := by decide +kernel
theorem dX12_types_4 : decode cX12_types 4 = .ok (.aload_n 0, 1) := by decide +kernel
theorem dX12_types_5 : decode cX12_types 5 = .ok (.invokevirtual 237, 3) := by decide +kernel
theorem dX12_types_8 : decode cX12_types 8 = .ok (.iconst 0, 1) := by decide +kernel
theorem dX12_types_9 : decode cX12_types 9 = .ok (.istore_n 1, 1) := by decide +kernel
theorem dX12_types_10 : decode cX12_types 10 = .ok (.iload_n 1, 1) := by decide +kernel
theorem dX12_types_11 : decode cX12_types 11 = .ok (.aload_n 0, 1) := by decide +kernel
theorem dX12_types_12 : decode cX12_types 12 = .ok (.getfield 26, 3) := by decide +kernel
theorem dX12_types_15 : decode cX12_types 15 = .ok (.if_icmp .ge 30, 3) := by decide +kernel
theorem dX12_types_18 : decode cX12_types 18 = .ok (.aload_n 0, 1) := by decide +kernel
theorem dX12_types_19 : decode cX12_types 19 = .ok (.aload_n 0, 1) := by decide +kernel
theorem dX12_types_20 : decode cX12_types 20 = .ok (.getfield 13, 3) := by decide +kernel
theorem dX12_types_23 : decode cX12_types 23 = .ok (.iload_n 1, 1) := by decide +kernel
theorem dX12_types_24 : decode cX12_types 24 = .ok (.iaload, 1) := by decide +kernel
theorem dX12_types_25 : decode cX12_types 25 = .ok (.aload_n 0, 1) := by decide +kernel
theorem dX12_types_26 : decode cX12_types 26 = .ok (.getfield 13, 3) := by decide +kernel
theorem dX12_types_29 : decode cX12_types 29 = .ok (.iload_n 1, 1) := by decide +kernel
theorem dX12_types_30 : decode cX12_types 30 = .ok (.iaload, 1) := by decide +kernel
theorem dX12_types_31 : decode cX12_types 31 = .ok (.iconst 0, 1) := by decide +kernel
theorem dX12_types_32 : decode cX12_types 32 = .ok (.aload_n 0, 1) := by decide +kernel
theorem dX12_types_33 : decode cX12_types 33 = .ok (.getfield 158, 3) := by decide +kernel
theorem dX12_types_36 : decode cX12_types 36 = .ok (.invokevirtual 240, 3) := by decide +kernel
theorem dX12_types_39 : decode cX12_types 39 = .ok (.iinc 1 1, 3) := by decide +kernel
theorem dX12_types_42 : decode cX12_types 42 = .ok (.goto (-32), 3) := by decide +kernel
theorem dX12_types_45 : decode cX12_types 45 = .ok (.aload_n 0, 1) := by decide +kernel
theorem dX12_types_46 : decode cX12_types 46 = .ok (.invokevirtual 244, 3) := by decide +kernel
theorem dX12_types_49 : decode cX12_types 49 = .ok (.ireturn, 1) := by decide +kernel
theorem dX12_type_0 : decode cX12_type 0 = .ok (.aload_n 0, 1) := by decide +kernel
theorem dX12_type_1 : decode cX12_type 1 = .ok (.invokevirtual 247, 3) := by decide +kernel
theorem dX12_type_4 : decode cX12_type 4 = .ok (.ifCond .ne 9, 3) := by decide +kernel
theorem dX12_type_7 : decode cX12_type 7 = .ok (.aload_n 0, 1) := by decide +kernel
theorem dX12_type_8 : decode cX12_type 8 = .ok (.iconst 1, 1) := by decide +kernel
theorem dX12_type_9 : decode cX12_type 9 = .ok (.invokevirtual 206, 3) := by decide +kernel
theorem dX12_type_12 : decode cX12_type 12 = .ok (.ireturn, 1) := by decide +kernel
theorem dX12_type_13 : decode cX12_type 13 = .ok (.aload_n 0, 1) := by decide +kernel
theorem dX12_type_14 : decode cX12_type 14 = .ok (.iconst 0, 1) := by decide +kernel
theorem dX12_type_15 : decode cX12_type 15 = .ok (.iconst 0, 1) := by decide +kernel
theorem dX12_type_16 : decode cX12_type 16 = .ok (.iconst 0, 1) := by decide +kernel
theorem dX12_type_17 : decode cX12_type 17 = .ok (.invokevirtual 250, 3) := by decide +kernel
theorem dX12_type_20 : decode cX12_type 20 = .ok (.aload_n 0, 1) := by decide +kernel
theorem dX12_type_21 : decode cX12_type 21 = .ok (.aload_n 0, 1) := by decide +kernel
theorem dX12_type_22 : decode cX12_type 22 = .ok (.getfield 138, 3) := by decide +kernel
theorem dX12_type_25 : decode cX12_type 25 = .ok (.invokevirtual 209, 3) := by decide +kernel
theorem dX12_type_28 : decode cX12_type 28 = .ok (.ireturn, 1) := by decide +kernel
theorem dX12_erases_0 : decode cX12_erases 0 = .ok (.aload_n 0, 1) := by decide +kernel
theorem dX12_erases_1 : decode cX12_erases 1 = .ok (.invokevirtual 234, 3) := by decide +kernel
theorem dX12_erases_4 : decode cX12_erases 4 = .ok (.aload_n 0, 1) := by decide +kernel
theorem dX12_erases_5 : decode cX12_erases 5 = .ok (.iconst 0, 1) := by decide +kernel
theorem dX12_erases_6 : decode cX12_erases 6 = .ok (.putfield 254, 3) := by decide +kernel
theorem dX12_erases_9 : decode cX12_erases 9 = .ok (.iconst 0, 1) := by decide +kernel
theorem dX12_erases_10 : decode cX12_erases 10 = .ok (.istore_n 2, 1) := by decide +kernel
theorem dX12_erases_11 : decode cX12_erases 11 = .ok (.iconst 0, 1) := by decide +kernel
theorem dX12_erases_12 : decode cX12_erases 12 = .ok (.istore_n 3, 1) := by decide +kernel
theorem dX12_erases_13 : decode cX12_erases 13 = .ok (.iload_n 3, 1) := by decide +kernel
theorem dX12_erases_14 : decode cX12_erases 14 = .ok (.aload_n 0, 1) := by decide +kernel
theorem dX12_erases_15 : decode cX12_erases 15 = .ok (.getfield 26, 3) := by decide +kernel
theorem dX12_erases_18 : decode cX12_erases 18 = .ok (.if_icmp .ge 104, 3) := by decide +kernel
theorem dX12_erases_21 : decode cX12_erases 21 = .ok (.iload_n 2, 1) := by decide +kernel
theorem dX12_erases_22 : decode cX12_erases 22 = .ok (.iload_n 1, 1) := by decide +kernel
theorem dX12_erases_23 : decode cX12_erases 23 = .ok (.ifCond .ge 18, 3) := by decide +kernel
theorem dX12_erases_26 : decode cX12_erases 26 = .ok (.iconst 0, 1) := by decide +kernel
theorem dX12_erases_27 : decode cX12_erases 27 = .ok (.aload_n 0, 1) := by decide +kernel
theorem dX12_erases_28 : decode cX12_erases 28 = .ok (.getfield 13, 3) := by decide +kernel
theorem dX12_erases_31 : decode cX12_erases 31 = .ok (.iload_n 3, 1) := by decide +kernel
theorem dX12_erases_32 : decode cX12_erases 32 = .ok (.iaload, 1) := by decide +kernel
theorem dX12_erases_33 : decode cX12_erases 33 = .ok (.iload_n 1, 1) := by decide +kernel
theorem dX12_erases_34 : decode cX12_erases 34 = .ok (.iadd, 1) := by decide +kernel
theorem dX12_erases_35 : decode cX12_erases 35 = .ok (.invokestatic 257, 3) := by decide +kernel
theorem dX12_erases_38 : decode cX12_erases 38 = .ok (.goto 9, 3) := by decide +kernel
theorem dX12_erases_41 : decode cX12_erases 41 = .ok (.aload_n 0, 1) := by decide +kernel
theorem dX12_erases_42 : decode cX12_erases 42 = .ok (.getfield 13, 3) := by decide +kernel
theorem dX12_erases_45 : decode cX12_erases 45 = .ok (.iload_n 3, 1) := by decide +kernel
theorem dX12_erases_46 : decode cX12_erases 46 = .ok (.iaload, 1) := by decide +kernel
theorem dX12_erases_47 : decode cX12_erases 47 = .ok (.invokestatic 257, 3) := by decide +kernel
theorem dX12_erases_50 : decode cX12_erases 50 = .ok (.istore 4, 2) := by decide +kernel
theorem dX12_erases_52 : decode cX12_erases 52 = .ok (.iload_n 1, 1) := by decide +kernel
theorem dX12_erases_53 : decode cX12_erases 53 = .ok (.ifCond .ge 12, 3) := by decide +kernel
theorem dX12_erases_56 : decode cX12_erases 56 = .ok (.aload_n 0, 1) := by decide +kernel
theorem dX12_erases_57 : decode cX12_erases 57 = .ok (.getfield 13, 3) := by decide +kernel
theorem dX12_erases_60 : decode cX12_erases 60 = .ok (.iload_n 3, 1) := by decide +kernel
theorem dX12_erases_61 : decode cX12_erases 61 = .ok (.iaload, 1) := by decide +kernel
theorem dX12_erases_62 : decode cX12_erases 62 = .ok (.goto 18, 3) := by decide +kernel
theorem dX12_erases_65 : decode cX12_erases 65 = .ok (.aload_n 0, 1) := by decide +kernel
theorem dX12_erases_66 : decode cX12_erases 66 = .ok (.getfield 138, 3) := by decide +kernel
theorem dX12_erases_69 : decode cX12_erases 69 = .ok (.aload_n 0, 1) := by decide +kernel
theorem dX12_erases_70 : decode cX12_erases 70 = .ok (.getfield 13, 3) := by decide +kernel
theorem dX12_erases_73 : decode cX12_erases 73 = .ok (.iload_n 3, 1) := by decide +kernel
theorem dX12_erases_74 : decode cX12_erases 74 = .ok (.iaload, 1) := by decide +kernel
theorem dX12_erases_75 : decode cX12_erases 75 = .ok (.iload_n 1, 1) := by decide +kernel
theorem dX12_erases_76 : decode cX12_erases 76 = .ok (.iadd, 1) := by decide +kernel
theorem dX12_erases_77 : decode cX12_erases 77 = .ok (.invokestatic 261, 3) := by decide +kernel
theorem dX12_erases_80 : decode cX12_erases 80 = .ok (.istore 5, 2) := by decide +kernel
theorem dX12_erases_82 : decode cX12_erases 82 = .ok (.iload 4, 2) := by decide +kernel
theorem dX12_erases_84 : decode cX12_erases 84 = .ok (.iload 5, 2) := by decide +kernel
theorem dX12_erases_86 : decode cX12_erases 86 = .ok (.if_icmp .ge 30, 3) := by decide +kernel
theorem dX12_erases_89 : decode cX12_erases 89 = .ok (.aload_n 0, 1) := by decide +kernel
theorem dX12_erases_90 : decode cX12_erases 90 = .ok (.iload 4, 2) := by decide +kernel
theorem dX12_erases_92 : decode cX12_erases 92 = .ok (.iload 5, 2) := by decide +kernel
theorem dX12_erases_94 : decode cX12_erases 94 = .ok (.iconst 0, 1) := by decide +kernel
theorem dX12_erases_95 : decode cX12_erases 95 = .ok (.iconst 0, 1) := by decide +kernel
theorem dX12_erases_96 : decode cX12_erases 96 = .ok (.invokevirtual 240, 3) := by decide +kernel
theorem dX12_erases_99 : decode cX12_erases 99 = .ok (.aload_n 0, 1) := by decide +kernel
theorem dX12_erases_100 : decode cX12_erases 100 = .ok (.dup, 1) := by decide +kernel
theorem dX12_erases_101 : decode cX12_erases 101 = .ok (.getfield 254, 3) := by decide +kernel
theorem dX12_erases_104 : decode cX12_erases 104 = .ok (.iload 5, 2) := by decide +kernel
theorem dX12_erases_106 : decode cX12_erases 106 = .ok (.iload 4, 2) := by decide +kernel
theorem dX12_erases_108 : decode cX12_erases 108 = .ok (.isub, 1) := by decide +kernel
theorem dX12_erases_109 : decode cX12_erases 109 = .ok (.iadd, 1) := by decide +kernel
theorem dX12_erases_110 : decode cX12_erases 110 = .ok (.putfield 254, 3) := by decide +kernel
theorem dX12_erases_113 : decode cX12_erases 113 = .ok (.iload 5, 2) := by decide +kernel
theorem dX12_erases_115 : decode cX12_erases 115 = .ok (.istore_n 2, 1) := by decide +kernel
theorem dX12_erases_116 : decode cX12_erases 116 = .ok (.iinc 3 1, 3) := by decide +kernel
theorem dX12_erases_119 : decode cX12_erases 119 = .ok (.goto (-106), 3) := by decide +kernel
theorem dX12_erases_122 : decode cX12_erases 122 = .ok (.aload_n 0, 1) := by decide +kernel
theorem dX12_erases_123 : decode cX12_erases 123 = .ok (.invokevirtual 244, 3) := by decide +kernel
theorem dX12_erases_126 : decode cX12_erases 126 = .ok (.ireturn, 1) := by decide +kernel
theorem dX12_erase_0 : decode cX12_erase 0 = .ok (.iload_n 1, 1) := by decide +kernel
theorem dX12_erase_1 : decode cX12_erase 1 = .ok (.bipush (-100), 2) := by decide +kernel
theorem dX12_erase_3 : decode cX12_erase 3 = .ok (.bipush 100, 2) := by decide +kernel
theorem dX12_erase_5 : decode cX12_erase 5 = .ok (.invokestatic 134, 3) := by decide +kernel
theorem dX12_erase_8 : decode cX12_erase 8 = .ok (.ifCond .ne 9, 3) := by decide +kernel
theorem dX12_erase_11 : decode cX12_erase 11 = .ok (.aload_n 0, 1) := by decide +kernel
theorem dX12_erase_12 : decode cX12_erase 12 = .ok (.iconst 1, 1) := by decide +kernel
theorem dX12_erase_13 : decode cX12_erase 13 = .ok (.invokevirtual 206, 3) := by decide +kernel
theorem dX12_erase_16 : decode cX12_erase 16 = .ok (.ireturn, 1) := by decide +kernel
theorem dX12_erase_17 : decode cX12_erase 17 = .ok (.aload_n 0, 1) := by decide +kernel
theorem dX12_erase_18 : decode cX12_erase 18 = .ok (.iload_n 1, 1) := by decide +kernel
theorem dX12_erase_19 : decode cX12_erase 19 = .ok (.invokevirtual 264, 3) := by decide +kernel
theorem dX12_erase_22 : decode cX12_erase 22 = .ok (.ifCond .ne 9, 3) := by decide +kernel
theorem dX12_erase_25 : decode cX12_erase 25 = .ok (.aload_n 0, 1) := by decide +kernel
theorem dX12_erase_26 : decode cX12_erase 26 = .ok (.iconst 2, 1) := by decide +kernel
theorem dX12_erase_27 : decode cX12_erase 27 = .ok (.invokevirtual 206, 3) := by decide +kernel
theorem dX12_erase_30 : decode cX12_erase 30 = .ok (.ireturn, 1) := by decide +kernel
theorem dX12_erase_31 : decode cX12_erase 31 = .ok (.aload_n 0, 1) := by decide +kernel
theorem dX12_erase_32 : decode cX12_erase 32 = .ok (.iconst 1, 1) := by decide +kernel
theorem dX12_erase_33 : decode cX12_erase 33 = .ok (.iload_n 1, 1) := by decide +kernel
theorem dX12_erase_34 : decode cX12_erase 34 = .ok (.iconst 0, 1) := by decide +kernel
theorem dX12_erase_35 : decode cX12_erase 35 = .ok (.invokevirtual 250, 3) := by decide +kernel
theorem dX12_erase_38 : decode cX12_erase 38 = .ok (.aload_n 0, 1) := by decide +kernel
theorem dX12_erase_39 : decode cX12_erase 39 = .ok (.aload_n 0, 1) := by decide +kernel
theorem dX12_erase_40 : decode cX12_erase 40 = .ok (.getfield 254, 3) := by decide +kernel
theorem dX12_erase_43 : decode cX12_erase 43 = .ok (.invokevirtual 209, 3) := by decide +kernel
theorem dX12_erase_46 : decode cX12_erase 46 = .ok (.ireturn, 1) := by decide +kernel
theorem dX12_replace_0 : decode cX12_replace 0 = .ok (.aload_n 0, 1) := by decide +kernel
theorem dX12_replace_1 : decode cX12_replace 1 = .ok (.iload_n 1, 1) := by decide +kernel
theorem dX12_replace_2 : decode cX12_replace 2 = .ok (.invokevirtual 218, 3) := by decide +kernel
theorem dX12_replace_5 : decode cX12_replace 5 = .ok (.ifCond .eq 11, 3) := by decide +kernel
theorem dX12_replace_8 : decode cX12_replace 8 = .ok (.aload_n 0, 1) := by decide +kernel
theorem dX12_replace_9 : decode cX12_replace 9 = .ok (.iload_n 2, 1) := by decide +kernel
theorem dX12_replace_10 : decode cX12_replace 10 = .ok (.invokevirtual 218, 3) := by decide +kernel
theorem dX12_replace_13 : decode cX12_replace 13 = .ok (.ifCond .ne 9, 3) := by decide +kernel
theorem dX12_replace_16 : decode cX12_replace 16 = .ok (.aload_n 0, 1) := by decide +kernel
theorem dX12_replace_17 : decode cX12_replace 17 = .ok (.iconst 1, 1) := by decide +kernel
theorem dX12_replace_18 : decode cX12_replace 18 = .ok (.invokevirtual 206, 3) := by decide +kernel
theorem dX12_replace_21 : decode cX12_replace 21 = .ok (.ireturn, 1) := by decide +kernel
theorem dX12_replace_22 : decode cX12_replace 22 = .ok (.iload_n 1, 1) := by decide +kernel
theorem dX12_replace_23 : decode cX12_replace 23 = .ok (.iload_n 2, 1) := by decide +kernel
theorem dX12_replace_24 : decode cX12_replace 24 = .ok (.if_icmp .le 9, 3) := by decide +kernel
theorem dX12_replace_27 : decode cX12_replace 27 = .ok (.aload_n 0, 1) := by decide +kernel
theorem dX12_replace_28 : decode cX12_replace 28 = .ok (.iconst 2, 1) := by decide +kernel
theorem dX12_replace_29 : decode cX12_replace 29 = .ok (.invokevirtual 206, 3) := by decide +kernel
theorem dX12_replace_32 : decode cX12_replace 32 = .ok (.ireturn, 1) := by decide +kernel
theorem dX12_replace_33 : decode cX12_replace 33 = .ok (.aload_n 0, 1) := by decide +kernel
theorem dX12_replace_34 : decode cX12_replace 34 = .ok (.invokevirtual 234, 3) := by decide +kernel
theorem dX12_replace_37 : decode cX12_replace 37 = .ok (.aload_n 0, 1) := by decide +kernel
theorem dX12_replace_38 : decode cX12_replace 38 = .ok (.invokevirtual 237, 3) := by decide +kernel
theorem dX12_replace_41 : decode cX12_replace 41 = .ok (.aload_n 0, 1) := by decide +kernel
theorem dX12_replace_42 : decode cX12_replace 42 = .ok (.iload_n 1, 1) := by decide +kernel
theorem dX12_replace_43 : decode cX12_replace 43 = .ok (.iload_n 2, 1) := by decide +kernel
theorem dX12_replace_44 : decode cX12_replace 44 = .ok (.iconst 0, 1) := by decide +kernel
theorem dX12_replace_45 : decode cX12_replace 45 = .ok (.aload_n 0, 1) := by decide +kernel
theorem dX12_replace_46 : decode cX12_replace 46 = .ok (.getfield 158, 3) := by decide +kernel
theorem dX12_replace_49 : decode cX12_replace 49 = .ok (.invokevirtual 240, 3) := by decide +kernel
theorem dX12_replace_52 : decode cX12_replace 52 = .ok (.aload_n 0, 1) := by decide +kernel
theorem dX12_replace_53 : decode cX12_replace 53 = .ok (.invokevirtual 244, 3) := by decide +kernel
theorem dX12_replace_56 : decode cX12_replace 56 = .ok (.ifCond .eq 14, 3) := by decide +kernel
theorem dX12_replace_59 : decode cX12_replace 59 = .ok (.aload_n 0, 1) := by decide +kernel
theorem dX12_replace_60 : decode cX12_replace 60 = .ok (.aload_n 0, 1) := by decide +kernel
theorem dX12_replace_61 : decode cX12_replace 61 = .ok (.getfield 138, 3) := by decide +kernel
theorem dX12_replace_64 : decode cX12_replace 64 = .ok (.invokevirtual 209, 3) := by decide +kernel
theorem dX12_replace_67 : decode cX12_replace 67 = .ok (.goto 8, 3) := by decide +kernel
theorem dX12_replace_70 : decode cX12_replace 70 = .ok (.aload_n 0, 1) := by decide +kernel
theorem dX12_replace_71 : decode cX12_replace 71 = .ok (.iconst 3, 1) := by decide +kernel
theorem dX12_replace_72 : decode cX12_replace 72 = .ok (.invokevirtual 206, 3) := by decide +kernel
theorem dX12_replace_75 : decode cX12_replace 75 = .ok (.ireturn, 1) := by decide +kernel
theorem dX12_cut_0 : decode cX12_cut 0 = .ok (.aload_n 0, 1) := by decide +kernel
theorem dX12_cut_1 : decode cX12_cut 1 = .ok (.iload_n 1, 1) := by decide +kernel
theorem dX12_cut_2 : decode cX12_cut 2 = .ok (.invokevirtual 218, 3) := by decide +kernel
theorem dX12_cut_5 : decode cX12_cut 5 = .ok (.ifCond .eq 11, 3) := by decide +kernel
theorem dX12_cut_8 : decode cX12_cut 8 = .ok (.aload_n 0, 1) := by decide +kernel
theorem dX12_cut_9 : decode cX12_cut 9 = .ok (.iload_n 2, 1) := by decide +kernel
theorem dX12_cut_10 : decode cX12_cut 10 = .ok (.invokevirtual 218, 3) := by decide +kernel
theorem dX12_cut_13 : decode cX12_cut 13 = .ok (.ifCond .ne 9, 3) := by decide +kernel
theorem dX12_cut_16 : decode cX12_cut 16 = .ok (.aload_n 0, 1) := by decide +kernel
theorem dX12_cut_17 : decode cX12_cut 17 = .ok (.iconst 1, 1) := by decide +kernel
theorem dX12_cut_18 : decode cX12_cut 18 = .ok (.invokevirtual 206, 3) := by decide +kernel
theorem dX12_cut_21 : decode cX12_cut 21 = .ok (.ireturn, 1) := by decide +kernel
theorem dX12_cut_22 : decode cX12_cut 22 = .ok (.iload_n 1, 1) := by decide +kernel
theorem dX12_cut_23 : decode cX12_cut 23 = .ok (.iload_n 2, 1) := by decide +kernel
theorem dX12_cut_24 : decode cX12_cut 24 = .ok (.if_icmp .le 9, 3) := by decide +kernel
theorem dX12_cut_27 : decode cX12_cut 27 = .ok (.aload_n 0, 1) := by decide +kernel
theorem dX12_cut_28 : decode cX12_cut 28 = .ok (.iconst 2, 1) := by decide +kernel
theorem dX12_cut_29 : decode cX12_cut 29 = .ok (.invokevirtual 206, 3) := by decide +kernel
theorem dX12_cut_32 : decode cX12_cut 32 = .ok (.ireturn, 1) := by decide +kernel
theorem dX12_cut_33 : decode cX12_cut 33 = .ok (.iload_n 1, 1) := by decide +kernel
theorem dX12_cut_34 : decode cX12_cut 34 = .ok (.istore_n 3, 1) := by decide +kernel
theorem dX12_cut_35 : decode cX12_cut 35 = .ok (.iload_n 3, 1) := by decide +kernel
theorem dX12_cut_36 : decode cX12_cut 36 = .ok (.iload_n 2, 1) := by decide +kernel
theorem dX12_cut_37 : decode cX12_cut 37 = .ok (.if_icmp .ge 23, 3) := by decide +kernel
theorem dX12_cut_40 : decode cX12_cut 40 = .ok (.aload_n 0, 1) := by decide +kernel
theorem dX12_cut_41 : decode cX12_cut 41 = .ok (.getfield 98, 3) := by decide +kernel
theorem dX12_cut_44 : decode cX12_cut 44 = .ok (.iload_n 3, 1) := by decide +kernel
theorem dX12_cut_45 : decode cX12_cut 45 = .ok (.iload_n 1, 1) := by decide +kernel
theorem dX12_cut_46 : decode cX12_cut 46 = .ok (.isub, 1) := by decide +kernel
theorem dX12_cut_47 : decode cX12_cut 47 = .ok (.aload_n 0, 1) := by decide +kernel
theorem dX12_cut_48 : decode cX12_cut 48 = .ok (.getfield 7, 3) := by decide +kernel
theorem dX12_cut_51 : decode cX12_cut 51 = .ok (.iload_n 3, 1) := by decide +kernel
theorem dX12_cut_52 : decode cX12_cut 52 = .ok (.iaload, 1) := by decide +kernel
theorem dX12_cut_53 : decode cX12_cut 53 = .ok (.iastore, 1) := by decide +kernel
theorem dX12_cut_54 : decode cX12_cut 54 = .ok (.iinc 3 1, 3) := by decide +kernel
theorem dX12_cut_57 : decode cX12_cut 57 = .ok (.goto (-22), 3) := by decide +kernel
theorem dX12_cut_60 : decode cX12_cut 60 = .ok (.aload_n 0, 1) := by decide +kernel
theorem dX12_cut_61 : decode cX12_cut 61 = .ok (.invokevirtual 234, 3) := by decide +kernel
theorem dX12_cut_64 : decode cX12_cut 64 = .ok (.aload_n 0, 1) := by decide +kernel
theorem dX12_cut_65 : decode cX12_cut 65 = .ok (.iload_n 1, 1) := by decide +kernel
theorem dX12_cut_66 : decode cX12_cut 66 = .ok (.iload_n 2, 1) := by decide +kernel
theorem dX12_cut_67 : decode cX12_cut 67 = .ok (.iconst 0, 1) := by decide +kernel
theorem dX12_cut_68 : decode cX12_cut 68 = .ok (.iconst 0, 1) := by decide +kernel
theorem dX12_cut_69 : decode cX12_cut 69 = .ok (.invokevirtual 240, 3) := by decide +kernel
theorem dX12_cut_72 : decode cX12_cut 72 = .ok (.aload_n 0, 1) := by decide +kernel
theorem dX12_cut_73 : decode cX12_cut 73 = .ok (.invokevirtual 244, 3) := by decide +kernel
theorem dX12_cut_76 : decode cX12_cut 76 = .ok (.ifCond .ne 9, 3) := by decide +kernel
theorem dX12_cut_79 : decode cX12_cut 79 = .ok (.aload_n 0, 1) := by decide +kernel
theorem dX12_cut_80 : decode cX12_cut 80 = .ok (.iconst 3, 1) := by decide +kernel
theorem dX12_cut_81 : decode cX12_cut 81 = .ok (.invokevirtual 206, 3) := by decide +kernel
theorem dX12_cut_84 : decode cX12_cut 84 = .ok (.ireturn, 1) := by decide +kernel
theorem dX12_cut_85 : decode cX12_cut 85 = .ok (.aload_n 0, 1) := by decide +kernel
theorem dX12_cut_86 : decode cX12_cut 86 = .ok (.iconst 0, 1) := by decide +kernel
theorem dX12_cut_87 : decode cX12_cut 87 = .ok (.putfield 212, 3) := by decide +kernel
theorem dX12_cut_90 : decode cX12_cut 90 = .ok (.aload_n 0, 1) := by decide +kernel
theorem dX12_cut_91 : decode cX12_cut 91 = .ok (.iload_n 2, 1) := by decide +kernel
theorem dX12_cut_92 : decode cX12_cut 92 = .ok (.iload_n 1, 1) := by decide +kernel
theorem dX12_cut_93 : decode cX12_cut 93 = .ok (.isub, 1) := by decide +kernel
theorem dX12_cut_94 : decode cX12_cut 94 = .ok (.putfield 215, 3) := by decide +kernel
theorem dX12_cut_97 : decode cX12_cut 97 = .ok (.iconst 0, 1) := by decide +kernel
theorem dX12_cut_98 : decode cX12_cut 98 = .ok (.istore_n 3, 1) := by decide +kernel
theorem dX12_cut_99 : decode cX12_cut 99 = .ok (.iload_n 3, 1) := by decide +kernel
theorem dX12_cut_100 : decode cX12_cut 100 = .ok (.aload_n 0, 1) := by decide +kernel
theorem dX12_cut_101 : decode cX12_cut 101 = .ok (.getfield 215, 3) := by decide +kernel
theorem dX12_cut_104 : decode cX12_cut 104 = .ok (.if_icmp .ge 21, 3) := by decide +kernel
theorem dX12_cut_107 : decode cX12_cut 107 = .ok (.aload_n 0, 1) := by decide +kernel
theorem dX12_cut_108 : decode cX12_cut 108 = .ok (.getfield 33, 3) := by decide +kernel
theorem dX12_cut_111 : decode cX12_cut 111 = .ok (.iload_n 3, 1) := by decide +kernel
theorem dX12_cut_112 : decode cX12_cut 112 = .ok (.aload_n 0, 1) := by decide +kernel
theorem dX12_cut_113 : decode cX12_cut 113 = .ok (.getfield 98, 3) := by decide +kernel
theorem dX12_cut_116 : decode cX12_cut 116 = .ok (.iload_n 3, 1) := by decide +kernel
theorem dX12_cut_117 : decode cX12_cut 117 = .ok (.iaload, 1) := by decide +kernel
theorem dX12_cut_118 : decode cX12_cut 118 = .ok (.iastore, 1) := by decide +kernel
theorem dX12_cut_119 : decode cX12_cut 119 = .ok (.iinc 3 1, 3) := by decide +kernel
theorem dX12_cut_122 : decode cX12_cut 122 = .ok (.goto (-23), 3) := by decide +kernel
theorem dX12_cut_125 : decode cX12_cut 125 = .ok (.aload_n 0, 1) := by decide +kernel
theorem dX12_cut_126 : decode cX12_cut 126 = .ok (.aload_n 0, 1) := by decide +kernel
theorem dX12_cut_127 : decode cX12_cut 127 = .ok (.getfield 215, 3) := by decide +kernel
theorem dX12_cut_130 : decode cX12_cut 130 = .ok (.invokevirtual 209, 3) := by decide +kernel
theorem dX12_cut_133 : decode cX12_cut 133 = .ok (.ireturn, 1) := by decide +kernel
theorem dX12_blockLetters_0 : decode cX12_blockLetters 0 = .ok (.iconst 0, 1) := by decide +kernel
theorem dX12_blockLetters_1 : decode cX12_blockLetters 1 = .ok (.istore_n 3, 1) := by decide +kernel
theorem dX12_blockLetters_2 : decode cX12_blockLetters 2 = .ok (.aload_n 0, 1) := by decide +kernel
theorem dX12_blockLetters_3 : decode cX12_blockLetters 3 = .ok (.invokevirtual 141, 3) := by decide +kernel
theorem dX12_blockLetters_6 : decode cX12_blockLetters 6 = .ok (.istore 4, 2) := by decide +kernel
theorem dX12_blockLetters_8 : decode cX12_blockLetters 8 = .ok (.iconst 0, 1) := by decide +kernel
theorem dX12_blockLetters_9 : decode cX12_blockLetters 9 = .ok (.istore 5, 2) := by decide +kernel
theorem dX12_blockLetters_11 : decode cX12_blockLetters 11 = .ok (.iload 5, 2) := by decide +kernel
theorem dX12_blockLetters_13 : decode cX12_blockLetters 13 = .ok (.aload_n 0, 1) := by decide +kernel
theorem dX12_blockLetters_14 : decode cX12_blockLetters 14 = .ok (.getfield 212, 3) := by decide +kernel
theorem dX12_blockLetters_17 : decode cX12_blockLetters 17 = .ok (.if_icmp .ge 70, 3) := by decide +kernel
theorem dX12_blockLetters_20 : decode cX12_blockLetters 20 = .ok (.iload_n 1, 1) := by decide +kernel
theorem dX12_blockLetters_21 : decode cX12_blockLetters 21 = .ok (.iload 5, 2) := by decide +kernel
theorem dX12_blockLetters_23 : decode cX12_blockLetters 23 = .ok (.iadd, 1) := by decide +kernel
theorem dX12_blockLetters_24 : decode cX12_blockLetters 24 = .ok (.istore 6, 2) := by decide +kernel
theorem dX12_blockLetters_26 : decode cX12_blockLetters 26 = .ok (.iload 6, 2) := by decide +kernel
theorem dX12_blockLetters_28 : decode cX12_blockLetters 28 = .ok (.iload 4, 2) := by decide +kernel
theorem dX12_blockLetters_30 : decode cX12_blockLetters 30 = .ok (.if_icmp .ge 19, 3) := by decide +kernel
theorem dX12_blockLetters_33 : decode cX12_blockLetters 33 = .ok (.aload_n 0, 1) := by decide +kernel
theorem dX12_blockLetters_34 : decode cX12_blockLetters 34 = .ok (.iload 6, 2) := by decide +kernel
theorem dX12_blockLetters_36 : decode cX12_blockLetters 36 = .ok (.invokevirtual 228, 3) := by decide +kernel
theorem dX12_blockLetters_39 : decode cX12_blockLetters 39 = .ok (.aload_n 0, 1) := by decide +kernel
theorem dX12_blockLetters_40 : decode cX12_blockLetters 40 = .ok (.iload 6, 2) := by decide +kernel
theorem dX12_blockLetters_42 : decode cX12_blockLetters 42 = .ok (.invokevirtual 145, 3) := by decide +kernel
theorem dX12_blockLetters_45 : decode cX12_blockLetters 45 = .ok (.isub, 1) := by decide +kernel
theorem dX12_blockLetters_46 : decode cX12_blockLetters 46 = .ok (.goto 4, 3) := by decide +kernel
theorem dX12_blockLetters_49 : decode cX12_blockLetters 49 = .ok (.iconst 0, 1) := by decide +kernel
theorem dX12_blockLetters_50 : decode cX12_blockLetters 50 = .ok (.istore 7, 2) := by decide +kernel
theorem dX12_blockLetters_52 : decode cX12_blockLetters 52 = .ok (.iload_n 3, 1) := by decide +kernel
theorem dX12_blockLetters_53 : decode cX12_blockLetters 53 = .ok (.aload_n 0, 1) := by decide +kernel
theorem dX12_blockLetters_54 : decode cX12_blockLetters 54 = .ok (.getfield 231, 3) := by decide +kernel
theorem dX12_blockLetters_57 : decode cX12_blockLetters 57 = .ok (.iload 6, 2) := by decide +kernel
theorem dX12_blockLetters_59 : decode cX12_blockLetters 59 = .ok (.iload 4, 2) := by decide +kernel
theorem dX12_blockLetters_61 : decode cX12_blockLetters 61 = .ok (.if_icmp .ge 7, 3) := by decide +kernel
theorem dX12_blockLetters_64 : decode cX12_blockLetters 64 = .ok (.iconst 0, 1) := by decide +kernel
theorem dX12_blockLetters_65 : decode cX12_blockLetters 65 = .ok (.goto 4, 3) := by decide +kernel
theorem dX12_blockLetters_68 : decode cX12_blockLetters 68 = .ok (.iconst 1, 1) := by decide +kernel
theorem dX12_blockLetters_69 : decode cX12_blockLetters 69 = .ok (.iadd, 1) := by decide +kernel
theorem dX12_blockLetters_70 : decode cX12_blockLetters 70 = .ok (.iconst 0, 1) := by decide +kernel
theorem dX12_blockLetters_71 : decode cX12_blockLetters 71 = .ok (.iload_n 2, 1) := by decide +kernel
theorem dX12_blockLetters_72 : decode cX12_blockLetters 72 = .ok (.iload 7, 2) := by decide +kernel
theorem dX12_blockLetters_74 : decode cX12_blockLetters 74 = .ok (.isub, 1) := by decide +kernel
theorem dX12_blockLetters_75 : decode cX12_blockLetters 75 = .ok (.invokestatic 257, 3) := by decide +kernel
theorem dX12_blockLetters_78 : decode cX12_blockLetters 78 = .ok (.iadd, 1) := by decide +kernel
theorem dX12_blockLetters_79 : decode cX12_blockLetters 79 = .ok (.iadd, 1) := by decide +kernel
theorem dX12_blockLetters_80 : decode cX12_blockLetters 80 = .ok (.istore_n 3, 1) := by decide +kernel
theorem dX12_blockLetters_81 : decode cX12_blockLetters 81 = .ok (.iinc 5 1, 3) := by decide +kernel
theorem dX12_blockLetters_84 : decode cX12_blockLetters 84 = .ok (.goto (-73), 3) := by decide +kernel
theorem dX12_blockLetters_87 : decode cX12_blockLetters 87 = .ok (.iload_n 3, 1) := by decide +kernel
theorem dX12_blockLetters_88 : decode cX12_blockLetters 88 = .ok (.ireturn, 1) := by decide +kernel
theorem dX12_pastesBlock_0 : decode cX12_pastesBlock 0 = .ok (.aload_n 0, 1) := by decide +kernel
theorem dX12_pastesBlock_1 : decode cX12_pastesBlock 1 = .ok (.aload_n 0, 1) := by decide +kernel
theorem dX12_pastesBlock_2 : decode cX12_pastesBlock 2 = .ok (.getfield 13, 3) := by decide +kernel
theorem dX12_pastesBlock_5 : decode cX12_pastesBlock 5 = .ok (.iconst 0, 1) := by decide +kernel
theorem dX12_pastesBlock_6 : decode cX12_pastesBlock 6 = .ok (.iaload, 1) := by decide +kernel
theorem dX12_pastesBlock_7 : decode cX12_pastesBlock 7 = .ok (.invokevirtual 149, 3) := by decide +kernel
theorem dX12_pastesBlock_10 : decode cX12_pastesBlock 10 = .ok (.istore_n 1, 1) := by decide +kernel
theorem dX12_pastesBlock_11 : decode cX12_pastesBlock 11 = .ok (.aload_n 0, 1) := by decide +kernel
theorem dX12_pastesBlock_12 : decode cX12_pastesBlock 12 = .ok (.getfield 13, 3) := by decide +kernel
theorem dX12_pastesBlock_15 : decode cX12_pastesBlock 15 = .ok (.iconst 0, 1) := by decide +kernel
theorem dX12_pastesBlock_16 : decode cX12_pastesBlock 16 = .ok (.iaload, 1) := by decide +kernel
theorem dX12_pastesBlock_17 : decode cX12_pastesBlock 17 = .ok (.aload_n 0, 1) := by decide +kernel
theorem dX12_pastesBlock_18 : decode cX12_pastesBlock 18 = .ok (.iload_n 1, 1) := by decide +kernel
theorem dX12_pastesBlock_19 : decode cX12_pastesBlock 19 = .ok (.invokevirtual 145, 3) := by decide +kernel
theorem dX12_pastesBlock_22 : decode cX12_pastesBlock 22 = .ok (.isub, 1) := by decide +kernel
theorem dX12_pastesBlock_23 : decode cX12_pastesBlock 23 = .ok (.istore_n 2, 1) := by decide +kernel
theorem dX12_pastesBlock_24 : decode cX12_pastesBlock 24 = .ok (.aload_n 0, 1) := by decide +kernel
theorem dX12_pastesBlock_25 : decode cX12_pastesBlock 25 = .ok (.getfield 138, 3) := by decide +kernel
theorem dX12_pastesBlock_28 : decode cX12_pastesBlock 28 = .ok (.aload_n 0, 1) := by decide +kernel
theorem dX12_pastesBlock_29 : decode cX12_pastesBlock 29 = .ok (.iload_n 1, 1) := by decide +kernel
theorem dX12_pastesBlock_30 : decode cX12_pastesBlock 30 = .ok (.iload_n 2, 1) := by decide +kernel
theorem dX12_pastesBlock_31 : decode cX12_pastesBlock 31 = .ok (.invokevirtual 267, 3) := by decide +kernel
theorem dX12_pastesBlock_34 : decode cX12_pastesBlock 34 = .ok (.iadd, 1) := by decide +kernel
theorem dX12_pastesBlock_35 : decode cX12_pastesBlock 35 = .ok (.sipush 3000, 3) := by decide +kernel
theorem dX12_pastesBlock_38 : decode cX12_pastesBlock 38 = .ok (.if_icmp .le 5, 3) := by decide +kernel
theorem dX12_pastesBlock_41 : decode cX12_pastesBlock 41 = .ok (.iconst 0, 1) := by decide +kernel
theorem dX12_pastesBlock_42 : decode cX12_pastesBlock 42 = .ok (.ireturn, 1) := by decide +kernel
theorem dX12_pastesBlock_43 : decode cX12_pastesBlock 43 = .ok (.aload_n 0, 1) := by decide +kernel
theorem dX12_pastesBlock_44 : decode cX12_pastesBlock 44 = .ok (.invokevirtual 141, 3) := by decide +kernel
theorem dX12_pastesBlock_47 : decode cX12_pastesBlock 47 = .ok (.istore_n 3, 1) := by decide +kernel
theorem dX12_pastesBlock_48 : decode cX12_pastesBlock 48 = .ok (.iconst 0, 1) := by decide +kernel
theorem dX12_pastesBlock_49 : decode cX12_pastesBlock 49 = .ok (.istore 4, 2) := by decide +kernel
theorem dX12_pastesBlock_51 : decode cX12_pastesBlock 51 = .ok (.aload_n 0, 1) := by decide +kernel
theorem dX12_pastesBlock_52 : decode cX12_pastesBlock 52 = .ok (.getfield 138, 3) := by decide +kernel
theorem dX12_pastesBlock_55 : decode cX12_pastesBlock 55 = .ok (.istore 5, 2) := by decide +kernel
theorem dX12_pastesBlock_57 : decode cX12_pastesBlock 57 = .ok (.iconst 0, 1) := by decide +kernel
theorem dX12_pastesBlock_58 : decode cX12_pastesBlock 58 = .ok (.istore 6, 2) := by decide +kernel
theorem dX12_pastesBlock_60 : decode cX12_pastesBlock 60 = .ok (.iload 6, 2) := by decide +kernel
theorem dX12_pastesBlock_62 : decode cX12_pastesBlock 62 = .ok (.aload_n 0, 1) := by decide +kernel
theorem dX12_pastesBlock_63 : decode cX12_pastesBlock 63 = .ok (.getfield 212, 3) := by decide +kernel
theorem dX12_pastesBlock_66 : decode cX12_pastesBlock 66 = .ok (.if_icmp .ge 206, 3) := by decide +kernel
theorem dX12_pastesBlock_69 : decode cX12_pastesBlock 69 = .ok (.iload_n 1, 1) := by decide +kernel
theorem dX12_pastesBlock_70 : decode cX12_pastesBlock 70 = .ok (.iload 6, 2) := by decide +kernel
theorem dX12_pastesBlock_72 : decode cX12_pastesBlock 72 = .ok (.iadd, 1) := by decide +kernel
theorem dX12_pastesBlock_73 : decode cX12_pastesBlock 73 = .ok (.istore 7, 2) := by decide +kernel
theorem dX12_pastesBlock_75 : decode cX12_pastesBlock 75 = .ok (.iconst 0, 1) := by decide +kernel
theorem dX12_pastesBlock_76 : decode cX12_pastesBlock 76 = .ok (.istore 8, 2) := by decide +kernel
theorem dX12_pastesBlock_78 : decode cX12_pastesBlock 78 = .ok (.iload 7, 2) := by decide +kernel
theorem dX12_pastesBlock_80 : decode cX12_pastesBlock 80 = .ok (.iload_n 3, 1) := by decide +kernel
theorem dX12_pastesBlock_81 : decode cX12_pastesBlock 81 = .ok (.if_icmp .ge 42, 3) := by decide +kernel
theorem dX12_pastesBlock_84 : decode cX12_pastesBlock 84 = .ok (.aload_n 0, 1) := by decide +kernel
theorem dX12_pastesBlock_85 : decode cX12_pastesBlock 85 = .ok (.iload 7, 2) := by decide +kernel
theorem dX12_pastesBlock_87 : decode cX12_pastesBlock 87 = .ok (.invokevirtual 228, 3) := by decide +kernel
theorem dX12_pastesBlock_90 : decode cX12_pastesBlock 90 = .ok (.aload_n 0, 1) := by decide +kernel
theorem dX12_pastesBlock_91 : decode cX12_pastesBlock 91 = .ok (.iload 7, 2) := by decide +kernel
theorem dX12_pastesBlock_93 : decode cX12_pastesBlock 93 = .ok (.invokevirtual 145, 3) := by decide +kernel
theorem dX12_pastesBlock_96 : decode cX12_pastesBlock 96 = .ok (.isub, 1) := by decide +kernel
theorem dX12_pastesBlock_97 : decode cX12_pastesBlock 97 = .ok (.istore 8, 2) := by decide +kernel
theorem dX12_pastesBlock_99 : decode cX12_pastesBlock 99 = .ok (.aload_n 0, 1) := by decide +kernel
theorem dX12_pastesBlock_100 : decode cX12_pastesBlock 100 = .ok (.getfield 158, 3) := by decide +kernel
theorem dX12_pastesBlock_103 : decode cX12_pastesBlock 103 = .ok (.istore 4, 2) := by decide +kernel
theorem dX12_pastesBlock_105 : decode cX12_pastesBlock 105 = .ok (.aload_n 0, 1) := by decide +kernel
theorem dX12_pastesBlock_106 : decode cX12_pastesBlock 106 = .ok (.iload 7, 2) := by decide +kernel
theorem dX12_pastesBlock_108 : decode cX12_pastesBlock 108 = .ok (.invokevirtual 145, 3) := by decide +kernel
theorem dX12_pastesBlock_111 : decode cX12_pastesBlock 111 = .ok (.iload 8, 2) := by decide +kernel
theorem dX12_pastesBlock_113 : decode cX12_pastesBlock 113 = .ok (.iload_n 2, 1) := by decide +kernel
theorem dX12_pastesBlock_114 : decode cX12_pastesBlock 114 = .ok (.invokestatic 261, 3) := by decide +kernel
theorem dX12_pastesBlock_117 : decode cX12_pastesBlock 117 = .ok (.iadd, 1) := by decide +kernel
theorem dX12_pastesBlock_118 : decode cX12_pastesBlock 118 = .ok (.istore 5, 2) := by decide +kernel
theorem dX12_pastesBlock_120 : decode cX12_pastesBlock 120 = .ok (.goto 30, 3) := by decide +kernel
theorem dX12_pastesBlock_123 : decode cX12_pastesBlock 123 = .ok (.iload 5, 2) := by decide +kernel
theorem dX12_pastesBlock_125 : decode cX12_pastesBlock 125 = .ok (.aload_n 0, 1) := by decide +kernel
theorem dX12_pastesBlock_126 : decode cX12_pastesBlock 126 = .ok (.getfield 138, 3) := by decide +kernel
theorem dX12_pastesBlock_129 : decode cX12_pastesBlock 129 = .ok (.if_icmp .ge 15, 3) := by decide +kernel
theorem dX12_pastesBlock_132 : decode cX12_pastesBlock 132 = .ok (.aload_n 0, 1) := by decide +kernel
theorem dX12_pastesBlock_133 : decode cX12_pastesBlock 133 = .ok (.getfield 158, 3) := by decide +kernel
theorem dX12_pastesBlock_136 : decode cX12_pastesBlock 136 = .ok (.istore 4, 2) := by decide +kernel
theorem dX12_pastesBlock_138 : decode cX12_pastesBlock 138 = .ok (.aload_n 0, 1) := by decide +kernel
theorem dX12_pastesBlock_139 : decode cX12_pastesBlock 139 = .ok (.getfield 138, 3) := by decide +kernel
theorem dX12_pastesBlock_142 : decode cX12_pastesBlock 142 = .ok (.istore 5, 2) := by decide +kernel
theorem dX12_pastesBlock_144 : decode cX12_pastesBlock 144 = .ok (.aload_n 0, 1) := by decide +kernel
theorem dX12_pastesBlock_145 : decode cX12_pastesBlock 145 = .ok (.bipush 10, 2) := by decide +kernel
theorem dX12_pastesBlock_147 : decode cX12_pastesBlock 147 = .ok (.invokevirtual 164, 3) := by decide +kernel
theorem dX12_pastesBlock_150 : decode cX12_pastesBlock 150 = .ok (.iload 8, 2) := by decide +kernel
theorem dX12_pastesBlock_152 : decode cX12_pastesBlock 152 = .ok (.istore 9, 2) := by decide +kernel
theorem dX12_pastesBlock_154 : decode cX12_pastesBlock 154 = .ok (.iload 9, 2) := by decide +kernel
theorem dX12_pastesBlock_156 : decode cX12_pastesBlock 156 = .ok (.iload_n 2, 1) := by decide +kernel
theorem dX12_pastesBlock_157 : decode cX12_pastesBlock 157 = .ok (.if_icmp .ge 15, 3) := by decide +kernel
theorem dX12_pastesBlock_160 : decode cX12_pastesBlock 160 = .ok (.aload_n 0, 1) := by decide +kernel
theorem dX12_pastesBlock_161 : decode cX12_pastesBlock 161 = .ok (.bipush 32, 2) := by decide +kernel
theorem dX12_pastesBlock_163 : decode cX12_pastesBlock 163 = .ok (.invokevirtual 164, 3) := by decide +kernel
theorem dX12_pastesBlock_166 : decode cX12_pastesBlock 166 = .ok (.iinc 9 1, 3) := by decide +kernel
theorem dX12_pastesBlock_169 : decode cX12_pastesBlock 169 = .ok (.goto (-15), 3) := by decide +kernel
theorem dX12_pastesBlock_172 : decode cX12_pastesBlock 172 = .ok (.iconst 0, 1) := by decide +kernel
theorem dX12_pastesBlock_173 : decode cX12_pastesBlock 173 = .ok (.istore 9, 2) := by decide +kernel
theorem dX12_pastesBlock_175 : decode cX12_pastesBlock 175 = .ok (.iload 9, 2) := by decide +kernel
theorem dX12_pastesBlock_177 : decode cX12_pastesBlock 177 = .ok (.aload_n 0, 1) := by decide +kernel
theorem dX12_pastesBlock_178 : decode cX12_pastesBlock 178 = .ok (.getfield 231, 3) := by decide +kernel
theorem dX12_pastesBlock_181 : decode cX12_pastesBlock 181 = .ok (.if_icmp .ge 28, 3) := by decide +kernel
theorem dX12_pastesBlock_184 : decode cX12_pastesBlock 184 = .ok (.aload_n 0, 1) := by decide +kernel
theorem dX12_pastesBlock_185 : decode cX12_pastesBlock 185 = .ok (.aload_n 0, 1) := by decide +kernel
theorem dX12_pastesBlock_186 : decode cX12_pastesBlock 186 = .ok (.getfield 33, 3) := by decide +kernel
theorem dX12_pastesBlock_189 : decode cX12_pastesBlock 189 = .ok (.aload_n 0, 1) := by decide +kernel
theorem dX12_pastesBlock_190 : decode cX12_pastesBlock 190 = .ok (.getfield 231, 3) := by decide +kernel
theorem dX12_pastesBlock_193 : decode cX12_pastesBlock 193 = .ok (.iload 6, 2) := by decide +kernel
theorem dX12_pastesBlock_195 : decode cX12_pastesBlock 195 = .ok (.imul, 1) := by decide +kernel
theorem dX12_pastesBlock_196 : decode cX12_pastesBlock 196 = .ok (.iload 9, 2) := by decide +kernel
theorem dX12_pastesBlock_198 : decode cX12_pastesBlock 198 = .ok (.iadd, 1) := by decide +kernel
theorem dX12_pastesBlock_199 : decode cX12_pastesBlock 199 = .ok (.iaload, 1) := by decide +kernel
theorem dX12_pastesBlock_200 : decode cX12_pastesBlock 200 = .ok (.invokevirtual 164, 3) := by decide +kernel
theorem dX12_pastesBlock_203 : decode cX12_pastesBlock 203 = .ok (.iinc 9 1, 3) := by decide +kernel
theorem dX12_pastesBlock_206 : decode cX12_pastesBlock 206 = .ok (.goto (-31), 3) := by decide +kernel
theorem dX12_pastesBlock_209 : decode cX12_pastesBlock 209 = .ok (.iload 7, 2) := by decide +kernel
theorem dX12_pastesBlock_211 : decode cX12_pastesBlock 211 = .ok (.iconst 1, 1) := by decide +kernel
theorem dX12_pastesBlock_212 : decode cX12_pastesBlock 212 = .ok (.iadd, 1) := by decide +kernel
theorem dX12_pastesBlock_213 : decode cX12_pastesBlock 213 = .ok (.iload_n 3, 1) := by decide +kernel
theorem dX12_pastesBlock_214 : decode cX12_pastesBlock 214 = .ok (.if_icmp .lt 27, 3) := by decide +kernel
theorem dX12_pastesBlock_217 : decode cX12_pastesBlock 217 = .ok (.iload 5, 2) := by decide +kernel
theorem dX12_pastesBlock_219 : decode cX12_pastesBlock 219 = .ok (.aload_n 0, 1) := by decide +kernel
theorem dX12_pastesBlock_220 : decode cX12_pastesBlock 220 = .ok (.getfield 138, 3) := by decide +kernel
theorem dX12_pastesBlock_223 : decode cX12_pastesBlock 223 = .ok (.if_icmp .ne 18, 3) := by decide +kernel
theorem dX12_pastesBlock_226 : decode cX12_pastesBlock 226 = .ok (.iload 6, 2) := by decide +kernel
theorem dX12_pastesBlock_228 : decode cX12_pastesBlock 228 = .ok (.iconst 1, 1) := by decide +kernel
theorem dX12_pastesBlock_229 : decode cX12_pastesBlock 229 = .ok (.iadd, 1) := by decide +kernel
theorem dX12_pastesBlock_230 : decode cX12_pastesBlock 230 = .ok (.aload_n 0, 1) := by decide +kernel
theorem dX12_pastesBlock_231 : decode cX12_pastesBlock 231 = .ok (.getfield 212, 3) := by decide +kernel
theorem dX12_pastesBlock_234 : decode cX12_pastesBlock 234 = .ok (.if_icmp .ge 7, 3) := by decide +kernel
theorem dX12_pastesBlock_237 : decode cX12_pastesBlock 237 = .ok (.iconst 1, 1) := by decide +kernel
theorem dX12_pastesBlock_238 : decode cX12_pastesBlock 238 = .ok (.goto 4, 3) := by decide +kernel
theorem dX12_pastesBlock_241 : decode cX12_pastesBlock 241 = .ok (.iconst 0, 1) := by decide +kernel
theorem dX12_pastesBlock_242 : decode cX12_pastesBlock 242 = .ok (.istore 9, 2) := by decide +kernel
theorem dX12_pastesBlock_244 : decode cX12_pastesBlock 244 = .ok (.iload 9, 2) := by decide +kernel
theorem dX12_pastesBlock_246 : decode cX12_pastesBlock 246 = .ok (.ifCond .ne 20, 3) := by decide +kernel
theorem dX12_pastesBlock_249 : decode cX12_pastesBlock 249 = .ok (.aload_n 0, 1) := by decide +kernel
theorem dX12_pastesBlock_250 : decode cX12_pastesBlock 250 = .ok (.iload 5, 2) := by decide +kernel
theorem dX12_pastesBlock_252 : decode cX12_pastesBlock 252 = .ok (.iload 5, 2) := by decide +kernel
theorem dX12_pastesBlock_254 : decode cX12_pastesBlock 254 = .ok (.iload 4, 2) := by decide +kernel
theorem dX12_pastesBlock_256 : decode cX12_pastesBlock 256 = .ok (.aload_n 0, 1) := by decide +kernel
theorem dX12_pastesBlock_257 : decode cX12_pastesBlock 257 = .ok (.getfield 158, 3) := by decide +kernel
theorem dX12_pastesBlock_260 : decode cX12_pastesBlock 260 = .ok (.iload 4, 2) := by decide +kernel
theorem dX12_pastesBlock_262 : decode cX12_pastesBlock 262 = .ok (.isub, 1) := by decide +kernel
theorem dX12_pastesBlock_263 : decode cX12_pastesBlock 263 = .ok (.invokevirtual 240, 3) := by decide +kernel
theorem dX12_pastesBlock_266 : decode cX12_pastesBlock 266 = .ok (.iinc 6 1, 3) := by decide +kernel
theorem dX12_pastesBlock_269 : decode cX12_pastesBlock 269 = .ok (.goto (-209), 3) := by decide +kernel
theorem dX12_pastesBlock_272 : decode cX12_pastesBlock 272 = .ok (.aload_n 0, 1) := by decide +kernel
theorem dX12_pastesBlock_273 : decode cX12_pastesBlock 273 = .ok (.invokevirtual 244, 3) := by decide +kernel
theorem dX12_pastesBlock_276 : decode cX12_pastesBlock 276 = .ok (.ireturn, 1) := by decide +kernel
theorem dX12_pastes_0 : decode cX12_pastes 0 = .ok (.aload_n 0, 1) := by decide +kernel
theorem dX12_pastes_1 : decode cX12_pastes 1 = .ok (.invokevirtual 234, 3) := by decide +kernel
theorem dX12_pastes_4 : decode cX12_pastes 4 = .ok (.aload_n 0, 1) := by decide +kernel
theorem dX12_pastes_5 : decode cX12_pastes 5 = .ok (.getfield 212, 3) := by decide +kernel
theorem dX12_pastes_8 : decode cX12_pastes 8 = .ok (.ifCond .le 8, 3) := by decide +kernel
theorem dX12_pastes_11 : decode cX12_pastes 11 = .ok (.aload_n 0, 1) := by decide +kernel
theorem dX12_pastes_12 : decode cX12_pastes 12 = .ok (.invokevirtual 270, 3) := by decide +kernel
theorem dX12_pastes_15 : decode cX12_pastes 15 = .ok (.ireturn, 1) := by decide +kernel
theorem dX12_pastes_16 : decode cX12_pastes 16 = .ok (.aload_n 0, 1) := by decide +kernel
theorem dX12_pastes_17 : decode cX12_pastes 17 = .ok (.getfield 215, 3) := by decide +kernel
theorem dX12_pastes_20 : decode cX12_pastes 20 = .ok (.sipush 3000, 3) := by decide +kernel
theorem dX12_pastes_23 : decode cX12_pastes 23 = .ok (.if_icmp .le 5, 3) := by decide +kernel
theorem dX12_pastes_26 : decode cX12_pastes 26 = .ok (.iconst 0, 1) := by decide +kernel
theorem dX12_pastes_27 : decode cX12_pastes 27 = .ok (.ireturn, 1) := by decide +kernel
theorem dX12_pastes_28 : decode cX12_pastes 28 = .ok (.iconst 0, 1) := by decide +kernel
theorem dX12_pastes_29 : decode cX12_pastes 29 = .ok (.istore_n 1, 1) := by decide +kernel
theorem dX12_pastes_30 : decode cX12_pastes 30 = .ok (.iload_n 1, 1) := by decide +kernel
theorem dX12_pastes_31 : decode cX12_pastes 31 = .ok (.aload_n 0, 1) := by decide +kernel
theorem dX12_pastes_32 : decode cX12_pastes 32 = .ok (.getfield 215, 3) := by decide +kernel
theorem dX12_pastes_35 : decode cX12_pastes 35 = .ok (.if_icmp .ge 19, 3) := by decide +kernel
theorem dX12_pastes_38 : decode cX12_pastes 38 = .ok (.aload_n 0, 1) := by decide +kernel
theorem dX12_pastes_39 : decode cX12_pastes 39 = .ok (.aload_n 0, 1) := by decide +kernel
theorem dX12_pastes_40 : decode cX12_pastes 40 = .ok (.getfield 33, 3) := by decide +kernel
theorem dX12_pastes_43 : decode cX12_pastes 43 = .ok (.iload_n 1, 1) := by decide +kernel
theorem dX12_pastes_44 : decode cX12_pastes 44 = .ok (.iaload, 1) := by decide +kernel
theorem dX12_pastes_45 : decode cX12_pastes 45 = .ok (.invokevirtual 164, 3) := by decide +kernel
theorem dX12_pastes_48 : decode cX12_pastes 48 = .ok (.iinc 1 1, 3) := by decide +kernel
theorem dX12_pastes_51 : decode cX12_pastes 51 = .ok (.goto (-21), 3) := by decide +kernel
theorem dX12_pastes_54 : decode cX12_pastes 54 = .ok (.iconst 0, 1) := by decide +kernel
theorem dX12_pastes_55 : decode cX12_pastes 55 = .ok (.istore_n 1, 1) := by decide +kernel
theorem dX12_pastes_56 : decode cX12_pastes 56 = .ok (.iload_n 1, 1) := by decide +kernel
theorem dX12_pastes_57 : decode cX12_pastes 57 = .ok (.aload_n 0, 1) := by decide +kernel
theorem dX12_pastes_58 : decode cX12_pastes 58 = .ok (.getfield 26, 3) := by decide +kernel
theorem dX12_pastes_61 : decode cX12_pastes 61 = .ok (.if_icmp .ge 30, 3) := by decide +kernel
theorem dX12_pastes_64 : decode cX12_pastes 64 = .ok (.aload_n 0, 1) := by decide +kernel
theorem dX12_pastes_65 : decode cX12_pastes 65 = .ok (.aload_n 0, 1) := by decide +kernel
theorem dX12_pastes_66 : decode cX12_pastes 66 = .ok (.getfield 13, 3) := by decide +kernel
theorem dX12_pastes_69 : decode cX12_pastes 69 = .ok (.iload_n 1, 1) := by decide +kernel
theorem dX12_pastes_70 : decode cX12_pastes 70 = .ok (.iaload, 1) := by decide +kernel
theorem dX12_pastes_71 : decode cX12_pastes 71 = .ok (.aload_n 0, 1) := by decide +kernel
theorem dX12_pastes_72 : decode cX12_pastes 72 = .ok (.getfield 13, 3) := by decide +kernel
theorem dX12_pastes_75 : decode cX12_pastes 75 = .ok (.iload_n 1, 1) := by decide +kernel
theorem dX12_pastes_76 : decode cX12_pastes 76 = .ok (.iaload, 1) := by decide +kernel
theorem dX12_pastes_77 : decode cX12_pastes 77 = .ok (.iconst 0, 1) := by decide +kernel
theorem dX12_pastes_78 : decode cX12_pastes 78 = .ok (.aload_n 0, 1) := by decide +kernel
theorem dX12_pastes_79 : decode cX12_pastes 79 = .ok (.getfield 158, 3) := by decide +kernel
theorem dX12_pastes_82 : decode cX12_pastes 82 = .ok (.invokevirtual 240, 3) := by decide +kernel
theorem dX12_pastes_85 : decode cX12_pastes 85 = .ok (.iinc 1 1, 3) := by decide +kernel
theorem dX12_pastes_88 : decode cX12_pastes 88 = .ok (.goto (-32), 3) := by decide +kernel
theorem dX12_pastes_91 : decode cX12_pastes 91 = .ok (.aload_n 0, 1) := by decide +kernel
theorem dX12_pastes_92 : decode cX12_pastes 92 = .ok (.invokevirtual 244, 3) := by decide +kernel
theorem dX12_pastes_95 : decode cX12_pastes 95 = .ok (.ireturn, 1) := by decide +kernel
theorem dX12_paste_0 : decode cX12_paste 0 = .ok (.aload_n 0, 1) := by decide +kernel
theorem dX12_paste_1 : decode cX12_paste 1 = .ok (.invokevirtual 273, 3) := by decide +kernel
theorem dX12_paste_4 : decode cX12_paste 4 = .ok (.ifCond .ne 9, 3) := by decide +kernel
theorem dX12_paste_7 : decode cX12_paste 7 = .ok (.aload_n 0, 1) := by decide +kernel
theorem dX12_paste_8 : decode cX12_paste 8 = .ok (.iconst 1, 1) := by decide +kernel
theorem dX12_paste_9 : decode cX12_paste 9 = .ok (.invokevirtual 206, 3) := by decide +kernel
theorem dX12_paste_12 : decode cX12_paste 12 = .ok (.ireturn, 1) := by decide +kernel
theorem dX12_paste_13 : decode cX12_paste 13 = .ok (.aload_n 0, 1) := by decide +kernel
theorem dX12_paste_14 : decode cX12_paste 14 = .ok (.iconst 3, 1) := by decide +kernel
theorem dX12_paste_15 : decode cX12_paste 15 = .ok (.iconst 0, 1) := by decide +kernel
theorem dX12_paste_16 : decode cX12_paste 16 = .ok (.iconst 0, 1) := by decide +kernel
theorem dX12_paste_17 : decode cX12_paste 17 = .ok (.invokevirtual 250, 3) := by decide +kernel
theorem dX12_paste_20 : decode cX12_paste 20 = .ok (.aload_n 0, 1) := by decide +kernel
theorem dX12_paste_21 : decode cX12_paste 21 = .ok (.aload_n 0, 1) := by decide +kernel
theorem dX12_paste_22 : decode cX12_paste 22 = .ok (.getfield 138, 3) := by decide +kernel
theorem dX12_paste_25 : decode cX12_paste 25 = .ok (.invokevirtual 209, 3) := by decide +kernel
theorem dX12_paste_28 : decode cX12_paste 28 = .ok (.ireturn, 1) := by decide +kernel
theorem dX12_indent_0 : decode cX12_indent 0 = .ok (.aload_n 0, 1) := by decide +kernel
theorem dX12_indent_1 : decode cX12_indent 1 = .ok (.iload_n 1, 1) := by decide +kernel
theorem dX12_indent_2 : decode cX12_indent 2 = .ok (.invokevirtual 225, 3) := by decide +kernel
theorem dX12_indent_5 : decode cX12_indent 5 = .ok (.ifCond .eq 11, 3) := by decide +kernel
theorem dX12_indent_8 : decode cX12_indent 8 = .ok (.aload_n 0, 1) := by decide +kernel
theorem dX12_indent_9 : decode cX12_indent 9 = .ok (.iload_n 2, 1) := by decide +kernel
theorem dX12_indent_10 : decode cX12_indent 10 = .ok (.invokevirtual 225, 3) := by decide +kernel
theorem dX12_indent_13 : decode cX12_indent 13 = .ok (.ifCond .ne 9, 3) := by decide +kernel
theorem dX12_indent_16 : decode cX12_indent 16 = .ok (.aload_n 0, 1) := by decide +kernel
theorem dX12_indent_17 : decode cX12_indent 17 = .ok (.iconst 1, 1) := by decide +kernel
theorem dX12_indent_18 : decode cX12_indent 18 = .ok (.invokevirtual 206, 3) := by decide +kernel
theorem dX12_indent_21 : decode cX12_indent 21 = .ok (.ireturn, 1) := by decide +kernel
theorem dX12_indent_22 : decode cX12_indent 22 = .ok (.iload_n 1, 1) := by decide +kernel
theorem dX12_indent_23 : decode cX12_indent 23 = .ok (.iload_n 2, 1) := by decide +kernel
theorem dX12_indent_24 : decode cX12_indent 24 = .ok (.if_icmp .gt 18, 3) := by decide +kernel
theorem dX12_indent_27 : decode cX12_indent 27 = .ok (.iload_n 3, 1) := by decide +kernel
theorem dX12_indent_28 : decode cX12_indent 28 = .ok (.ifCond .eq 14, 3) := by decide +kernel
theorem dX12_indent_31 : decode cX12_indent 31 = .ok (.iload_n 3, 1) := by decide +kernel
theorem dX12_indent_32 : decode cX12_indent 32 = .ok (.bipush (-8), 2) := by decide +kernel
theorem dX12_indent_34 : decode cX12_indent 34 = .ok (.bipush 8, 2) := by decide +kernel
theorem dX12_indent_36 : decode cX12_indent 36 = .ok (.invokestatic 134, 3) := by decide +kernel
theorem dX12_indent_39 : decode cX12_indent 39 = .ok (.ifCond .ne 9, 3) := by decide +kernel
theorem dX12_indent_42 : decode cX12_indent 42 = .ok (.aload_n 0, 1) := by decide +kernel
theorem dX12_indent_43 : decode cX12_indent 43 = .ok (.iconst 2, 1) := by decide +kernel
theorem dX12_indent_44 : decode cX12_indent 44 = .ok (.invokevirtual 206, 3) := by decide +kernel
theorem dX12_indent_47 : decode cX12_indent 47 = .ok (.ireturn, 1) := by decide +kernel
theorem dX12_indent_48 : decode cX12_indent 48 = .ok (.aload_n 0, 1) := by decide +kernel
theorem dX12_indent_49 : decode cX12_indent 49 = .ok (.invokevirtual 234, 3) := by decide +kernel
theorem dX12_indent_52 : decode cX12_indent 52 = .ok (.iconst 0, 1) := by decide +kernel
theorem dX12_indent_53 : decode cX12_indent 53 = .ok (.istore 4, 2) := by decide +kernel
theorem dX12_indent_55 : decode cX12_indent 55 = .ok (.iload 4, 2) := by decide +kernel
theorem dX12_indent_57 : decode cX12_indent 57 = .ok (.iload_n 3, 1) := by decide +kernel
theorem dX12_indent_58 : decode cX12_indent 58 = .ok (.if_icmp .ge 15, 3) := by decide +kernel
theorem dX12_indent_61 : decode cX12_indent 61 = .ok (.aload_n 0, 1) := by decide +kernel
theorem dX12_indent_62 : decode cX12_indent 62 = .ok (.bipush 32, 2) := by decide +kernel
theorem dX12_indent_64 : decode cX12_indent 64 = .ok (.invokevirtual 164, 3) := by decide +kernel
theorem dX12_indent_67 : decode cX12_indent 67 = .ok (.iinc 4 1, 3) := by decide +kernel
theorem dX12_indent_70 : decode cX12_indent 70 = .ok (.goto (-15), 3) := by decide +kernel
theorem dX12_indent_73 : decode cX12_indent 73 = .ok (.iload_n 1, 1) := by decide +kernel
theorem dX12_indent_74 : decode cX12_indent 74 = .ok (.istore 4, 2) := by decide +kernel
theorem dX12_indent_76 : decode cX12_indent 76 = .ok (.iload 4, 2) := by decide +kernel
theorem dX12_indent_78 : decode cX12_indent 78 = .ok (.iload_n 2, 1) := by decide +kernel
theorem dX12_indent_79 : decode cX12_indent 79 = .ok (.if_icmp .gt 99, 3) := by decide +kernel
theorem dX12_indent_82 : decode cX12_indent 82 = .ok (.aload_n 0, 1) := by decide +kernel
theorem dX12_indent_83 : decode cX12_indent 83 = .ok (.iload 4, 2) := by decide +kernel
theorem dX12_indent_85 : decode cX12_indent 85 = .ok (.invokevirtual 145, 3) := by decide +kernel
theorem dX12_indent_88 : decode cX12_indent 88 = .ok (.istore 5, 2) := by decide +kernel
theorem dX12_indent_90 : decode cX12_indent 90 = .ok (.iload 5, 2) := by decide +kernel
theorem dX12_indent_92 : decode cX12_indent 92 = .ok (.istore 6, 2) := by decide +kernel
theorem dX12_indent_94 : decode cX12_indent 94 = .ok (.iload 6, 2) := by decide +kernel
theorem dX12_indent_96 : decode cX12_indent 96 = .ok (.iload 5, 2) := by decide +kernel
theorem dX12_indent_98 : decode cX12_indent 98 = .ok (.iload_n 3, 1) := by decide +kernel
theorem dX12_indent_99 : decode cX12_indent 99 = .ok (.isub, 1) := by decide +kernel
theorem dX12_indent_100 : decode cX12_indent 100 = .ok (.if_icmp .ge 31, 3) := by decide +kernel
theorem dX12_indent_103 : decode cX12_indent 103 = .ok (.iload 6, 2) := by decide +kernel
theorem dX12_indent_105 : decode cX12_indent 105 = .ok (.aload_n 0, 1) := by decide +kernel
theorem dX12_indent_106 : decode cX12_indent 106 = .ok (.getfield 138, 3) := by decide +kernel
theorem dX12_indent_109 : decode cX12_indent 109 = .ok (.if_icmp .ge 22, 3) := by decide +kernel
theorem dX12_indent_112 : decode cX12_indent 112 = .ok (.aload_n 0, 1) := by decide +kernel
theorem dX12_indent_113 : decode cX12_indent 113 = .ok (.getfield 7, 3) := by decide +kernel
theorem dX12_indent_116 : decode cX12_indent 116 = .ok (.iload 6, 2) := by decide +kernel
theorem dX12_indent_118 : decode cX12_indent 118 = .ok (.iaload, 1) := by decide +kernel
theorem dX12_indent_119 : decode cX12_indent 119 = .ok (.invokestatic 276, 3) := by decide +kernel
theorem dX12_indent_122 : decode cX12_indent 122 = .ok (.ifCond .eq 9, 3) := by decide +kernel
theorem dX12_indent_125 : decode cX12_indent 125 = .ok (.iinc 6 1, 3) := by decide +kernel
theorem dX12_indent_128 : decode cX12_indent 128 = .ok (.goto (-34), 3) := by decide +kernel
theorem dX12_indent_131 : decode cX12_indent 131 = .ok (.iload_n 3, 1) := by decide +kernel
theorem dX12_indent_132 : decode cX12_indent 132 = .ok (.ifCond .ge 16, 3) := by decide +kernel
theorem dX12_indent_135 : decode cX12_indent 135 = .ok (.aload_n 0, 1) := by decide +kernel
theorem dX12_indent_136 : decode cX12_indent 136 = .ok (.iload 5, 2) := by decide +kernel
theorem dX12_indent_138 : decode cX12_indent 138 = .ok (.iload 6, 2) := by decide +kernel
theorem dX12_indent_140 : decode cX12_indent 140 = .ok (.iconst 0, 1) := by decide +kernel
theorem dX12_indent_141 : decode cX12_indent 141 = .ok (.iconst 0, 1) := by decide +kernel
theorem dX12_indent_142 : decode cX12_indent 142 = .ok (.invokevirtual 240, 3) := by decide +kernel
theorem dX12_indent_145 : decode cX12_indent 145 = .ok (.goto 27, 3) := by decide +kernel
theorem dX12_indent_148 : decode cX12_indent 148 = .ok (.aload_n 0, 1) := by decide +kernel
theorem dX12_indent_149 : decode cX12_indent 149 = .ok (.iload 4, 2) := by decide +kernel
theorem dX12_indent_151 : decode cX12_indent 151 = .ok (.invokevirtual 228, 3) := by decide +kernel
theorem dX12_indent_154 : decode cX12_indent 154 = .ok (.iload 5, 2) := by decide +kernel
theorem dX12_indent_156 : decode cX12_indent 156 = .ok (.if_icmp .le 16, 3) := by decide +kernel
theorem dX12_indent_159 : decode cX12_indent 159 = .ok (.aload_n 0, 1) := by decide +kernel
theorem dX12_indent_160 : decode cX12_indent 160 = .ok (.iload 5, 2) := by decide +kernel
theorem dX12_indent_162 : decode cX12_indent 162 = .ok (.iload 5, 2) := by decide +kernel
theorem dX12_indent_164 : decode cX12_indent 164 = .ok (.iconst 0, 1) := by decide +kernel
theorem dX12_indent_165 : decode cX12_indent 165 = .ok (.aload_n 0, 1) := by decide +kernel
theorem dX12_indent_166 : decode cX12_indent 166 = .ok (.getfield 158, 3) := by decide +kernel
theorem dX12_indent_169 : decode cX12_indent 169 = .ok (.invokevirtual 240, 3) := by decide +kernel
theorem dX12_indent_172 : decode cX12_indent 172 = .ok (.iinc 4 1, 3) := by decide +kernel
theorem dX12_indent_175 : decode cX12_indent 175 = .ok (.goto (-99), 3) := by decide +kernel
theorem dX12_indent_178 : decode cX12_indent 178 = .ok (.aload_n 0, 1) := by decide +kernel
theorem dX12_indent_179 : decode cX12_indent 179 = .ok (.getfield 155, 3) := by decide +kernel
theorem dX12_indent_182 : decode cX12_indent 182 = .ok (.istore 4, 2) := by decide +kernel
theorem dX12_indent_184 : decode cX12_indent 184 = .ok (.aload_n 0, 1) := by decide +kernel
theorem dX12_indent_185 : decode cX12_indent 185 = .ok (.invokevirtual 244, 3) := by decide +kernel
theorem dX12_indent_188 : decode cX12_indent 188 = .ok (.ifCond .eq 12, 3) := by decide +kernel
theorem dX12_indent_191 : decode cX12_indent 191 = .ok (.aload_n 0, 1) := by decide +kernel
theorem dX12_indent_192 : decode cX12_indent 192 = .ok (.iload 4, 2) := by decide +kernel
theorem dX12_indent_194 : decode cX12_indent 194 = .ok (.invokevirtual 209, 3) := by decide +kernel
theorem dX12_indent_197 : decode cX12_indent 197 = .ok (.goto 8, 3) := by decide +kernel
theorem dX12_indent_200 : decode cX12_indent 200 = .ok (.aload_n 0, 1) := by decide +kernel
theorem dX12_indent_201 : decode cX12_indent 201 = .ok (.iconst 3, 1) := by decide +kernel
theorem dX12_indent_202 : decode cX12_indent 202 = .ok (.invokevirtual 206, 3) := by decide +kernel
theorem dX12_indent_205 : decode cX12_indent 205 = .ok (.ireturn, 1) := by decide +kernel
theorem dX12_wrap_0 : decode cX12_wrap 0 = .ok (.aload_n 0, 1) := by decide +kernel
theorem dX12_wrap_1 : decode cX12_wrap 1 = .ok (.iload_n 1, 1) := by decide +kernel
theorem dX12_wrap_2 : decode cX12_wrap 2 = .ok (.invokevirtual 225, 3) := by decide +kernel
theorem dX12_wrap_5 : decode cX12_wrap 5 = .ok (.ifCond .ne 9, 3) := by decide +kernel
theorem dX12_wrap_8 : decode cX12_wrap 8 = .ok (.aload_n 0, 1) := by decide +kernel
theorem dX12_wrap_9 : decode cX12_wrap 9 = .ok (.iconst 1, 1) := by decide +kernel
theorem dX12_wrap_10 : decode cX12_wrap 10 = .ok (.invokevirtual 206, 3) := by decide +kernel
theorem dX12_wrap_13 : decode cX12_wrap 13 = .ok (.ireturn, 1) := by decide +kernel
theorem dX12_wrap_14 : decode cX12_wrap 14 = .ok (.iload_n 2, 1) := by decide +kernel
theorem dX12_wrap_15 : decode cX12_wrap 15 = .ok (.iconst 1, 1) := by decide +kernel
theorem dX12_wrap_16 : decode cX12_wrap 16 = .ok (.bipush 100, 2) := by decide +kernel
theorem dX12_wrap_18 : decode cX12_wrap 18 = .ok (.invokestatic 134, 3) := by decide +kernel
theorem dX12_wrap_21 : decode cX12_wrap 21 = .ok (.ifCond .ne 9, 3) := by decide +kernel
theorem dX12_wrap_24 : decode cX12_wrap 24 = .ok (.aload_n 0, 1) := by decide +kernel
theorem dX12_wrap_25 : decode cX12_wrap 25 = .ok (.iconst 2, 1) := by decide +kernel
theorem dX12_wrap_26 : decode cX12_wrap 26 = .ok (.invokevirtual 206, 3) := by decide +kernel
theorem dX12_wrap_29 : decode cX12_wrap 29 = .ok (.ireturn, 1) := by decide +kernel
theorem dX12_wrap_30 : decode cX12_wrap 30 = .ok (.aload_n 0, 1) := by decide +kernel
theorem dX12_wrap_31 : decode cX12_wrap 31 = .ok (.invokevirtual 234, 3) := by decide +kernel
theorem dX12_wrap_34 : decode cX12_wrap 34 = .ok (.aload_n 0, 1) := by decide +kernel
theorem dX12_wrap_35 : decode cX12_wrap 35 = .ok (.bipush 10, 2) := by decide +kernel
theorem dX12_wrap_37 : decode cX12_wrap 37 = .ok (.invokevirtual 164, 3) := by decide +kernel
theorem dX12_wrap_40 : decode cX12_wrap 40 = .ok (.aload_n 0, 1) := by decide +kernel
theorem dX12_wrap_41 : decode cX12_wrap 41 = .ok (.iload_n 1, 1) := by decide +kernel
theorem dX12_wrap_42 : decode cX12_wrap 42 = .ok (.invokevirtual 145, 3) := by decide +kernel
theorem dX12_wrap_45 : decode cX12_wrap 45 = .ok (.istore_n 3, 1) := by decide +kernel
theorem dX12_wrap_46 : decode cX12_wrap 46 = .ok (.aload_n 0, 1) := by decide +kernel
theorem dX12_wrap_47 : decode cX12_wrap 47 = .ok (.iload_n 1, 1) := by decide +kernel
theorem dX12_wrap_48 : decode cX12_wrap 48 = .ok (.invokevirtual 228, 3) := by decide +kernel
theorem dX12_wrap_51 : decode cX12_wrap 51 = .ok (.istore 4, 2) := by decide +kernel
theorem dX12_wrap_53 : decode cX12_wrap 53 = .ok (.iconst 1, 1) := by decide +kernel
theorem dX12_wrap_54 : decode cX12_wrap 54 = .ok (.istore 5, 2) := by decide +kernel
theorem dX12_wrap_56 : decode cX12_wrap 56 = .ok (.iload 5, 2) := by decide +kernel
theorem dX12_wrap_58 : decode cX12_wrap 58 = .ok (.ifCond .eq 117, 3) := by decide +kernel
theorem dX12_wrap_61 : decode cX12_wrap 61 = .ok (.iload 4, 2) := by decide +kernel
theorem dX12_wrap_63 : decode cX12_wrap 63 = .ok (.iload_n 3, 1) := by decide +kernel
theorem dX12_wrap_64 : decode cX12_wrap 64 = .ok (.isub, 1) := by decide +kernel
theorem dX12_wrap_65 : decode cX12_wrap 65 = .ok (.iload_n 2, 1) := by decide +kernel
theorem dX12_wrap_66 : decode cX12_wrap 66 = .ok (.if_icmp .le 109, 3) := by decide +kernel
theorem dX12_wrap_69 : decode cX12_wrap 69 = .ok (.iload_n 3, 1) := by decide +kernel
theorem dX12_wrap_70 : decode cX12_wrap 70 = .ok (.iload_n 2, 1) := by decide +kernel
theorem dX12_wrap_71 : decode cX12_wrap 71 = .ok (.iadd, 1) := by decide +kernel
theorem dX12_wrap_72 : decode cX12_wrap 72 = .ok (.istore 6, 2) := by decide +kernel
theorem dX12_wrap_74 : decode cX12_wrap 74 = .ok (.iload 6, 2) := by decide +kernel
theorem dX12_wrap_76 : decode cX12_wrap 76 = .ok (.iload_n 3, 1) := by decide +kernel
theorem dX12_wrap_77 : decode cX12_wrap 77 = .ok (.if_icmp .le 21, 3) := by decide +kernel
theorem dX12_wrap_80 : decode cX12_wrap 80 = .ok (.aload_n 0, 1) := by decide +kernel
theorem dX12_wrap_81 : decode cX12_wrap 81 = .ok (.getfield 7, 3) := by decide +kernel
theorem dX12_wrap_84 : decode cX12_wrap 84 = .ok (.iload 6, 2) := by decide +kernel
theorem dX12_wrap_86 : decode cX12_wrap 86 = .ok (.iaload, 1) := by decide +kernel
theorem dX12_wrap_87 : decode cX12_wrap 87 = .ok (.bipush 32, 2) := by decide +kernel
theorem dX12_wrap_89 : decode cX12_wrap 89 = .ok (.if_icmp .eq 9, 3) := by decide +kernel
theorem dX12_wrap_92 : decode cX12_wrap 92 = .ok (.iinc 6 (-1), 3) := by decide +kernel
theorem dX12_wrap_95 : decode cX12_wrap 95 = .ok (.goto (-21), 3) := by decide +kernel
theorem dX12_wrap_98 : decode cX12_wrap 98 = .ok (.iload 6, 2) := by decide +kernel
theorem dX12_wrap_100 : decode cX12_wrap 100 = .ok (.iload_n 3, 1) := by decide +kernel
theorem dX12_wrap_101 : decode cX12_wrap 101 = .ok (.if_icmp .ne 35, 3) := by decide +kernel
theorem dX12_wrap_104 : decode cX12_wrap 104 = .ok (.iload_n 3, 1) := by decide +kernel
theorem dX12_wrap_105 : decode cX12_wrap 105 = .ok (.iload_n 2, 1) := by decide +kernel
theorem dX12_wrap_106 : decode cX12_wrap 106 = .ok (.iadd, 1) := by decide +kernel
theorem dX12_wrap_107 : decode cX12_wrap 107 = .ok (.iconst 1, 1) := by decide +kernel
theorem dX12_wrap_108 : decode cX12_wrap 108 = .ok (.iadd, 1) := by decide +kernel
theorem dX12_wrap_109 : decode cX12_wrap 109 = .ok (.istore 6, 2) := by decide +kernel
theorem dX12_wrap_111 : decode cX12_wrap 111 = .ok (.iload 6, 2) := by decide +kernel
theorem dX12_wrap_113 : decode cX12_wrap 113 = .ok (.iload 4, 2) := by decide +kernel
theorem dX12_wrap_115 : decode cX12_wrap 115 = .ok (.if_icmp .ge 21, 3) := by decide +kernel
theorem dX12_wrap_118 : decode cX12_wrap 118 = .ok (.aload_n 0, 1) := by decide +kernel
theorem dX12_wrap_119 : decode cX12_wrap 119 = .ok (.getfield 7, 3) := by decide +kernel
theorem dX12_wrap_122 : decode cX12_wrap 122 = .ok (.iload 6, 2) := by decide +kernel
theorem dX12_wrap_124 : decode cX12_wrap 124 = .ok (.iaload, 1) := by decide +kernel
theorem dX12_wrap_125 : decode cX12_wrap 125 = .ok (.bipush 32, 2) := by decide +kernel
theorem dX12_wrap_127 : decode cX12_wrap 127 = .ok (.if_icmp .eq 9, 3) := by decide +kernel
theorem dX12_wrap_130 : decode cX12_wrap 130 = .ok (.iinc 6 1, 3) := by decide +kernel
theorem dX12_wrap_133 : decode cX12_wrap 133 = .ok (.goto (-22), 3) := by decide +kernel
theorem dX12_wrap_136 : decode cX12_wrap 136 = .ok (.iload 6, 2) := by decide +kernel
theorem dX12_wrap_138 : decode cX12_wrap 138 = .ok (.iload 4, 2) := by decide +kernel
theorem dX12_wrap_140 : decode cX12_wrap 140 = .ok (.if_icmp .ge 7, 3) := by decide +kernel
theorem dX12_wrap_143 : decode cX12_wrap 143 = .ok (.iconst 1, 1) := by decide +kernel
theorem dX12_wrap_144 : decode cX12_wrap 144 = .ok (.goto 4, 3) := by decide +kernel
theorem dX12_wrap_147 : decode cX12_wrap 147 = .ok (.iconst 0, 1) := by decide +kernel
theorem dX12_wrap_148 : decode cX12_wrap 148 = .ok (.istore 5, 2) := by decide +kernel
theorem dX12_wrap_150 : decode cX12_wrap 150 = .ok (.iload 5, 2) := by decide +kernel
theorem dX12_wrap_152 : decode cX12_wrap 152 = .ok (.ifCond .eq 20, 3) := by decide +kernel
theorem dX12_wrap_155 : decode cX12_wrap 155 = .ok (.aload_n 0, 1) := by decide +kernel
theorem dX12_wrap_156 : decode cX12_wrap 156 = .ok (.iload 6, 2) := by decide +kernel
theorem dX12_wrap_158 : decode cX12_wrap 158 = .ok (.iload 6, 2) := by decide +kernel
theorem dX12_wrap_160 : decode cX12_wrap 160 = .ok (.iconst 1, 1) := by decide +kernel
theorem dX12_wrap_161 : decode cX12_wrap 161 = .ok (.iadd, 1) := by decide +kernel
theorem dX12_wrap_162 : decode cX12_wrap 162 = .ok (.iconst 0, 1) := by decide +kernel
theorem dX12_wrap_163 : decode cX12_wrap 163 = .ok (.iconst 1, 1) := by decide +kernel
theorem dX12_wrap_164 : decode cX12_wrap 164 = .ok (.invokevirtual 240, 3) := by decide +kernel
theorem dX12_wrap_167 : decode cX12_wrap 167 = .ok (.iload 6, 2) := by decide +kernel
theorem dX12_wrap_169 : decode cX12_wrap 169 = .ok (.iconst 1, 1) := by decide +kernel
theorem dX12_wrap_170 : decode cX12_wrap 170 = .ok (.iadd, 1) := by decide +kernel
theorem dX12_wrap_171 : decode cX12_wrap 171 = .ok (.istore_n 3, 1) := by decide +kernel
theorem dX12_wrap_172 : decode cX12_wrap 172 = .ok (.goto (-116), 3) := by decide +kernel
theorem dX12_wrap_175 : decode cX12_wrap 175 = .ok (.aload_n 0, 1) := by decide +kernel
theorem dX12_wrap_176 : decode cX12_wrap 176 = .ok (.getfield 155, 3) := by decide +kernel
theorem dX12_wrap_179 : decode cX12_wrap 179 = .ok (.istore 6, 2) := by decide +kernel
theorem dX12_wrap_181 : decode cX12_wrap 181 = .ok (.aload_n 0, 1) := by decide +kernel
theorem dX12_wrap_182 : decode cX12_wrap 182 = .ok (.invokevirtual 244, 3) := by decide +kernel
theorem dX12_wrap_185 : decode cX12_wrap 185 = .ok (.ifCond .eq 12, 3) := by decide +kernel
theorem dX12_wrap_188 : decode cX12_wrap 188 = .ok (.aload_n 0, 1) := by decide +kernel
theorem dX12_wrap_189 : decode cX12_wrap 189 = .ok (.iload 6, 2) := by decide +kernel
theorem dX12_wrap_191 : decode cX12_wrap 191 = .ok (.invokevirtual 209, 3) := by decide +kernel
theorem dX12_wrap_194 : decode cX12_wrap 194 = .ok (.goto 8, 3) := by decide +kernel
theorem dX12_wrap_197 : decode cX12_wrap 197 = .ok (.aload_n 0, 1) := by decide +kernel
theorem dX12_wrap_198 : decode cX12_wrap 198 = .ok (.iconst 3, 1) := by decide +kernel
theorem dX12_wrap_199 : decode cX12_wrap 199 = .ok (.invokevirtual 206, 3) := by decide +kernel
theorem dX12_wrap_202 : decode cX12_wrap 202 = .ok (.ireturn, 1) := by decide +kernel
theorem dX12_joinLines_0 : decode cX12_joinLines 0 = .ok (.aload_n 0, 1) := by decide +kernel
theorem dX12_joinLines_1 : decode cX12_joinLines 1 = .ok (.iload_n 1, 1) := by decide +kernel
theorem dX12_joinLines_2 : decode cX12_joinLines 2 = .ok (.invokevirtual 225, 3) := by decide +kernel
theorem dX12_joinLines_5 : decode cX12_joinLines 5 = .ok (.ifCond .eq 11, 3) := by decide +kernel
theorem dX12_joinLines_8 : decode cX12_joinLines 8 = .ok (.aload_n 0, 1) := by decide +kernel
theorem dX12_joinLines_9 : decode cX12_joinLines 9 = .ok (.iload_n 2, 1) := by decide +kernel
theorem dX12_joinLines_10 : decode cX12_joinLines 10 = .ok (.invokevirtual 225, 3) := by decide +kernel
theorem dX12_joinLines_13 : decode cX12_joinLines 13 = .ok (.ifCond .ne 9, 3) := by decide +kernel
theorem dX12_joinLines_16 : decode cX12_joinLines 16 = .ok (.aload_n 0, 1) := by decide +kernel
theorem dX12_joinLines_17 : decode cX12_joinLines 17 = .ok (.iconst 1, 1) := by decide +kernel
theorem dX12_joinLines_18 : decode cX12_joinLines 18 = .ok (.invokevirtual 206, 3) := by decide +kernel
theorem dX12_joinLines_21 : decode cX12_joinLines 21 = .ok (.ireturn, 1) := by decide +kernel
theorem dX12_joinLines_22 : decode cX12_joinLines 22 = .ok (.iload_n 1, 1) := by decide +kernel
theorem dX12_joinLines_23 : decode cX12_joinLines 23 = .ok (.iload_n 2, 1) := by decide +kernel
theorem dX12_joinLines_24 : decode cX12_joinLines 24 = .ok (.if_icmp .le 9, 3) := by decide +kernel
theorem dX12_joinLines_27 : decode cX12_joinLines 27 = .ok (.aload_n 0, 1) := by decide +kernel
theorem dX12_joinLines_28 : decode cX12_joinLines 28 = .ok (.iconst 2, 1) := by decide +kernel
theorem dX12_joinLines_29 : decode cX12_joinLines 29 = .ok (.invokevirtual 206, 3) := by decide +kernel
theorem dX12_joinLines_32 : decode cX12_joinLines 32 = .ok (.ireturn, 1) := by decide +kernel
theorem dX12_joinLines_33 : decode cX12_joinLines 33 = .ok (.aload_n 0, 1) := by decide +kernel
theorem dX12_joinLines_34 : decode cX12_joinLines 34 = .ok (.invokevirtual 234, 3) := by decide +kernel
theorem dX12_joinLines_37 : decode cX12_joinLines 37 = .ok (.aload_n 0, 1) := by decide +kernel
theorem dX12_joinLines_38 : decode cX12_joinLines 38 = .ok (.bipush 32, 2) := by decide +kernel
theorem dX12_joinLines_40 : decode cX12_joinLines 40 = .ok (.invokevirtual 164, 3) := by decide +kernel
theorem dX12_joinLines_43 : decode cX12_joinLines 43 = .ok (.iload_n 1, 1) := by decide +kernel
theorem dX12_joinLines_44 : decode cX12_joinLines 44 = .ok (.istore_n 3, 1) := by decide +kernel
theorem dX12_joinLines_45 : decode cX12_joinLines 45 = .ok (.iload_n 3, 1) := by decide +kernel
theorem dX12_joinLines_46 : decode cX12_joinLines 46 = .ok (.iload_n 2, 1) := by decide +kernel
theorem dX12_joinLines_47 : decode cX12_joinLines 47 = .ok (.if_icmp .ge 60, 3) := by decide +kernel
theorem dX12_joinLines_50 : decode cX12_joinLines 50 = .ok (.aload_n 0, 1) := by decide +kernel
theorem dX12_joinLines_51 : decode cX12_joinLines 51 = .ok (.iload_n 3, 1) := by decide +kernel
theorem dX12_joinLines_52 : decode cX12_joinLines 52 = .ok (.invokevirtual 228, 3) := by decide +kernel
theorem dX12_joinLines_55 : decode cX12_joinLines 55 = .ok (.istore 4, 2) := by decide +kernel
theorem dX12_joinLines_57 : decode cX12_joinLines 57 = .ok (.iload 4, 2) := by decide +kernel
theorem dX12_joinLines_59 : decode cX12_joinLines 59 = .ok (.iconst 1, 1) := by decide +kernel
theorem dX12_joinLines_60 : decode cX12_joinLines 60 = .ok (.iadd, 1) := by decide +kernel
theorem dX12_joinLines_61 : decode cX12_joinLines 61 = .ok (.istore 5, 2) := by decide +kernel
theorem dX12_joinLines_63 : decode cX12_joinLines 63 = .ok (.iload 5, 2) := by decide +kernel
theorem dX12_joinLines_65 : decode cX12_joinLines 65 = .ok (.aload_n 0, 1) := by decide +kernel
theorem dX12_joinLines_66 : decode cX12_joinLines 66 = .ok (.getfield 138, 3) := by decide +kernel
theorem dX12_joinLines_69 : decode cX12_joinLines 69 = .ok (.if_icmp .ge 22, 3) := by decide +kernel
theorem dX12_joinLines_72 : decode cX12_joinLines 72 = .ok (.aload_n 0, 1) := by decide +kernel
theorem dX12_joinLines_73 : decode cX12_joinLines 73 = .ok (.getfield 7, 3) := by decide +kernel
theorem dX12_joinLines_76 : decode cX12_joinLines 76 = .ok (.iload 5, 2) := by decide +kernel
theorem dX12_joinLines_78 : decode cX12_joinLines 78 = .ok (.iaload, 1) := by decide +kernel
theorem dX12_joinLines_79 : decode cX12_joinLines 79 = .ok (.invokestatic 276, 3) := by decide +kernel
theorem dX12_joinLines_82 : decode cX12_joinLines 82 = .ok (.ifCond .eq 9, 3) := by decide +kernel
theorem dX12_joinLines_85 : decode cX12_joinLines 85 = .ok (.iinc 5 1, 3) := by decide +kernel
theorem dX12_joinLines_88 : decode cX12_joinLines 88 = .ok (.goto (-25), 3) := by decide +kernel
theorem dX12_joinLines_91 : decode cX12_joinLines 91 = .ok (.aload_n 0, 1) := by decide +kernel
theorem dX12_joinLines_92 : decode cX12_joinLines 92 = .ok (.iload 4, 2) := by decide +kernel
theorem dX12_joinLines_94 : decode cX12_joinLines 94 = .ok (.iload 5, 2) := by decide +kernel
theorem dX12_joinLines_96 : decode cX12_joinLines 96 = .ok (.iconst 0, 1) := by decide +kernel
theorem dX12_joinLines_97 : decode cX12_joinLines 97 = .ok (.iconst 1, 1) := by decide +kernel
theorem dX12_joinLines_98 : decode cX12_joinLines 98 = .ok (.invokevirtual 240, 3) := by decide +kernel
theorem dX12_joinLines_101 : decode cX12_joinLines 101 = .ok (.iinc 3 1, 3) := by decide +kernel
theorem dX12_joinLines_104 : decode cX12_joinLines 104 = .ok (.goto (-59), 3) := by decide +kernel
theorem dX12_joinLines_107 : decode cX12_joinLines 107 = .ok (.aload_n 0, 1) := by decide +kernel
theorem dX12_joinLines_108 : decode cX12_joinLines 108 = .ok (.invokevirtual 244, 3) := by decide +kernel
theorem dX12_joinLines_111 : decode cX12_joinLines 111 = .ok (.ifCond .eq 14, 3) := by decide +kernel
theorem dX12_joinLines_114 : decode cX12_joinLines 114 = .ok (.aload_n 0, 1) := by decide +kernel
theorem dX12_joinLines_115 : decode cX12_joinLines 115 = .ok (.aload_n 0, 1) := by decide +kernel
theorem dX12_joinLines_116 : decode cX12_joinLines 116 = .ok (.invokevirtual 141, 3) := by decide +kernel
theorem dX12_joinLines_119 : decode cX12_joinLines 119 = .ok (.invokevirtual 209, 3) := by decide +kernel
theorem dX12_joinLines_122 : decode cX12_joinLines 122 = .ok (.goto 8, 3) := by decide +kernel
theorem dX12_joinLines_125 : decode cX12_joinLines 125 = .ok (.aload_n 0, 1) := by decide +kernel
theorem dX12_joinLines_126 : decode cX12_joinLines 126 = .ok (.iconst 3, 1) := by decide +kernel
theorem dX12_joinLines_127 : decode cX12_joinLines 127 = .ok (.invokevirtual 206, 3) := by decide +kernel
theorem dX12_joinLines_130 : decode cX12_joinLines 130 = .ok (.ireturn, 1) := by decide +kernel
theorem dX12_isFind_0 : decode cX12_isFind 0 = .ok (.iload_n 1, 1) := by decide +kernel
theorem dX12_isFind_1 : decode cX12_isFind 1 = .ok (.aload_n 0, 1) := by decide +kernel
theorem dX12_isFind_2 : decode cX12_isFind 2 = .ok (.getfield 279, 3) := by decide +kernel
theorem dX12_isFind_5 : decode cX12_isFind 5 = .ok (.iadd, 1) := by decide +kernel
theorem dX12_isFind_6 : decode cX12_isFind 6 = .ok (.aload_n 0, 1) := by decide +kernel
theorem dX12_isFind_7 : decode cX12_isFind 7 = .ok (.getfield 138, 3) := by decide +kernel
theorem dX12_isFind_10 : decode cX12_isFind 10 = .ok (.if_icmp .le 5, 3) := by decide +kernel
theorem dX12_isFind_13 : decode cX12_isFind 13 = .ok (.iconst 0, 1) := by decide +kernel
theorem dX12_isFind_14 : decode cX12_isFind 14 = .ok (.ireturn, 1) := by decide +kernel
theorem dX12_isFind_15 : decode cX12_isFind 15 = .ok (.iconst 0, 1) := by decide +kernel
theorem dX12_isFind_16 : decode cX12_isFind 16 = .ok (.istore_n 2, 1) := by decide +kernel
theorem dX12_isFind_17 : decode cX12_isFind 17 = .ok (.iload_n 2, 1) := by decide +kernel
theorem dX12_isFind_18 : decode cX12_isFind 18 = .ok (.aload_n 0, 1) := by decide +kernel
theorem dX12_isFind_19 : decode cX12_isFind 19 = .ok (.getfield 279, 3) := by decide +kernel
theorem dX12_isFind_22 : decode cX12_isFind 22 = .ok (.if_icmp .ge 28, 3) := by decide +kernel
theorem dX12_isFind_25 : decode cX12_isFind 25 = .ok (.aload_n 0, 1) := by decide +kernel
theorem dX12_isFind_26 : decode cX12_isFind 26 = .ok (.getfield 7, 3) := by decide +kernel
theorem dX12_isFind_29 : decode cX12_isFind 29 = .ok (.iload_n 1, 1) := by decide +kernel
theorem dX12_isFind_30 : decode cX12_isFind 30 = .ok (.iload_n 2, 1) := by decide +kernel
theorem dX12_isFind_31 : decode cX12_isFind 31 = .ok (.iadd, 1) := by decide +kernel
theorem dX12_isFind_32 : decode cX12_isFind 32 = .ok (.iaload, 1) := by decide +kernel
theorem dX12_isFind_33 : decode cX12_isFind 33 = .ok (.aload_n 0, 1) := by decide +kernel
theorem dX12_isFind_34 : decode cX12_isFind 34 = .ok (.getfield 36, 3) := by decide +kernel
theorem dX12_isFind_37 : decode cX12_isFind 37 = .ok (.iload_n 2, 1) := by decide +kernel
theorem dX12_isFind_38 : decode cX12_isFind 38 = .ok (.iaload, 1) := by decide +kernel
theorem dX12_isFind_39 : decode cX12_isFind 39 = .ok (.if_icmp .eq 5, 3) := by decide +kernel
theorem dX12_isFind_42 : decode cX12_isFind 42 = .ok (.iconst 0, 1) := by decide +kernel
theorem dX12_isFind_43 : decode cX12_isFind 43 = .ok (.ireturn, 1) := by decide +kernel
theorem dX12_isFind_44 : decode cX12_isFind 44 = .ok (.iinc 2 1, 3) := by decide +kernel
theorem dX12_isFind_47 : decode cX12_isFind 47 = .ok (.goto (-30), 3) := by decide +kernel
theorem dX12_isFind_50 : decode cX12_isFind 50 = .ok (.iload_n 1, 1) := by decide +kernel
theorem dX12_isFind_51 : decode cX12_isFind 51 = .ok (.aload_n 0, 1) := by decide +kernel
theorem dX12_isFind_52 : decode cX12_isFind 52 = .ok (.getfield 279, 3) := by decide +kernel
theorem dX12_isFind_55 : decode cX12_isFind 55 = .ok (.iadd, 1) := by decide +kernel
theorem dX12_isFind_56 : decode cX12_isFind 56 = .ok (.istore_n 2, 1) := by decide +kernel
theorem dX12_isFind_57 : decode cX12_isFind 57 = .ok (.aload_n 0, 1) := by decide +kernel
theorem dX12_isFind_58 : decode cX12_isFind 58 = .ok (.getfield 282, 3) := by decide +kernel
theorem dX12_isFind_61 : decode cX12_isFind 61 = .ok (.ifCond .eq 41, 3) := by decide +kernel
theorem dX12_isFind_64 : decode cX12_isFind 64 = .ok (.iload_n 1, 1) := by decide +kernel
theorem dX12_isFind_65 : decode cX12_isFind 65 = .ok (.ifCond .eq 17, 3) := by decide +kernel
theorem dX12_isFind_68 : decode cX12_isFind 68 = .ok (.aload_n 0, 1) := by decide +kernel
theorem dX12_isFind_69 : decode cX12_isFind 69 = .ok (.getfield 7, 3) := by decide +kernel
theorem dX12_isFind_72 : decode cX12_isFind 72 = .ok (.iload_n 1, 1) := by decide +kernel
theorem dX12_isFind_73 : decode cX12_isFind 73 = .ok (.iconst 1, 1) := by decide +kernel
theorem dX12_isFind_74 : decode cX12_isFind 74 = .ok (.isub, 1) := by decide +kernel
theorem dX12_isFind_75 : decode cX12_isFind 75 = .ok (.iaload, 1) := by decide +kernel
theorem dX12_isFind_76 : decode cX12_isFind 76 = .ok (.invokestatic 285, 3) := by decide +kernel
theorem dX12_isFind_79 : decode cX12_isFind 79 = .ok (.ifCond .ne 27, 3) := by decide +kernel
theorem dX12_isFind_82 : decode cX12_isFind 82 = .ok (.iload_n 2, 1) := by decide +kernel
theorem dX12_isFind_83 : decode cX12_isFind 83 = .ok (.aload_n 0, 1) := by decide +kernel
theorem dX12_isFind_84 : decode cX12_isFind 84 = .ok (.getfield 138, 3) := by decide +kernel
theorem dX12_isFind_87 : decode cX12_isFind 87 = .ok (.if_icmp .eq 15, 3) := by decide +kernel
theorem dX12_isFind_90 : decode cX12_isFind 90 = .ok (.aload_n 0, 1) := by decide +kernel
theorem dX12_isFind_91 : decode cX12_isFind 91 = .ok (.getfield 7, 3) := by decide +kernel
theorem dX12_isFind_94 : decode cX12_isFind 94 = .ok (.iload_n 2, 1) := by decide +kernel
theorem dX12_isFind_95 : decode cX12_isFind 95 = .ok (.iaload, 1) := by decide +kernel
theorem dX12_isFind_96 : decode cX12_isFind 96 = .ok (.invokestatic 285, 3) := by decide +kernel
theorem dX12_isFind_99 : decode cX12_isFind 99 = .ok (.ifCond .ne 7, 3) := by decide +kernel
theorem dX12_isFind_102 : decode cX12_isFind 102 = .ok (.iconst 1, 1) := by decide +kernel
theorem dX12_isFind_103 : decode cX12_isFind 103 = .ok (.goto 4, 3) := by decide +kernel
theorem dX12_isFind_106 : decode cX12_isFind 106 = .ok (.iconst 0, 1) := by decide +kernel
theorem dX12_isFind_107 : decode cX12_isFind 107 = .ok (.ireturn, 1) := by decide +kernel
theorem dX12_findFrom_0 : decode cX12_findFrom 0 = .ok (.iload_n 1, 1) := by decide +kernel
theorem dX12_findFrom_1 : decode cX12_findFrom 1 = .ok (.istore_n 2, 1) := by decide +kernel
theorem dX12_findFrom_2 : decode cX12_findFrom 2 = .ok (.iload_n 2, 1) := by decide +kernel
theorem dX12_findFrom_3 : decode cX12_findFrom 3 = .ok (.aload_n 0, 1) := by decide +kernel
theorem dX12_findFrom_4 : decode cX12_findFrom 4 = .ok (.getfield 138, 3) := by decide +kernel
theorem dX12_findFrom_7 : decode cX12_findFrom 7 = .ok (.if_icmp .ge 17, 3) := by decide +kernel
theorem dX12_findFrom_10 : decode cX12_findFrom 10 = .ok (.aload_n 0, 1) := by decide +kernel
theorem dX12_findFrom_11 : decode cX12_findFrom 11 = .ok (.iload_n 2, 1) := by decide +kernel
theorem dX12_findFrom_12 : decode cX12_findFrom 12 = .ok (.invokevirtual 288, 3) := by decide +kernel
theorem dX12_findFrom_15 : decode cX12_findFrom 15 = .ok (.ifCond .ne 9, 3) := by decide +kernel
theorem dX12_findFrom_18 : decode cX12_findFrom 18 = .ok (.iinc 2 1, 3) := by decide +kernel
theorem dX12_findFrom_21 : decode cX12_findFrom 21 = .ok (.goto (-19), 3) := by decide +kernel
theorem dX12_findFrom_24 : decode cX12_findFrom 24 = .ok (.iload_n 2, 1) := by decide +kernel
theorem dX12_findFrom_25 : decode cX12_findFrom 25 = .ok (.aload_n 0, 1) := by decide +kernel
theorem dX12_findFrom_26 : decode cX12_findFrom 26 = .ok (.getfield 138, 3) := by decide +kernel
theorem dX12_findFrom_29 : decode cX12_findFrom 29 = .ok (.if_icmp .ge 7, 3) := by decide +kernel
theorem dX12_findFrom_32 : decode cX12_findFrom 32 = .ok (.iload_n 2, 1) := by decide +kernel
theorem dX12_findFrom_33 : decode cX12_findFrom 33 = .ok (.goto 4, 3) := by decide +kernel
theorem dX12_findFrom_36 : decode cX12_findFrom 36 = .ok (.iconst (-1), 1) := by decide +kernel
theorem dX12_findFrom_37 : decode cX12_findFrom 37 = .ok (.ireturn, 1) := by decide +kernel
theorem dX12_setPattern_0 : decode cX12_setPattern 0 = .ok (.aload_n 0, 1) := by decide +kernel
theorem dX12_setPattern_1 : decode cX12_setPattern 1 = .ok (.getfield 161, 3) := by decide +kernel
theorem dX12_setPattern_4 : decode cX12_setPattern 4 = .ok (.iconst 1, 1) := by decide +kernel
theorem dX12_setPattern_5 : decode cX12_setPattern 5 = .ok (.bipush 40, 2) := by decide +kernel
theorem dX12_setPattern_7 : decode cX12_setPattern 7 = .ok (.invokestatic 134, 3) := by decide +kernel
theorem dX12_setPattern_10 : decode cX12_setPattern 10 = .ok (.ifCond .ne 9, 3) := by decide +kernel
theorem dX12_setPattern_13 : decode cX12_setPattern 13 = .ok (.aload_n 0, 1) := by decide +kernel
theorem dX12_setPattern_14 : decode cX12_setPattern 14 = .ok (.iconst 1, 1) := by decide +kernel
theorem dX12_setPattern_15 : decode cX12_setPattern 15 = .ok (.invokevirtual 206, 3) := by decide +kernel
theorem dX12_setPattern_18 : decode cX12_setPattern 18 = .ok (.ireturn, 1) := by decide +kernel
theorem dX12_setPattern_19 : decode cX12_setPattern 19 = .ok (.aload_n 0, 1) := by decide +kernel
theorem dX12_setPattern_20 : decode cX12_setPattern 20 = .ok (.iload_n 1, 1) := by decide +kernel
theorem dX12_setPattern_21 : decode cX12_setPattern 21 = .ok (.putfield 282, 3) := by decide +kernel
theorem dX12_setPattern_24 : decode cX12_setPattern 24 = .ok (.aload_n 0, 1) := by decide +kernel
theorem dX12_setPattern_25 : decode cX12_setPattern 25 = .ok (.aload_n 0, 1) := by decide +kernel
theorem dX12_setPattern_26 : decode cX12_setPattern 26 = .ok (.getfield 161, 3) := by decide +kernel
theorem dX12_setPattern_29 : decode cX12_setPattern 29 = .ok (.putfield 279, 3) := by decide +kernel
theorem dX12_setPattern_32 : decode cX12_setPattern 32 = .ok (.iconst 0, 1) := by decide +kernel
theorem dX12_setPattern_33 : decode cX12_setPattern 33 = .ok (.istore_n 2, 1) := by decide +kernel
theorem dX12_setPattern_34 : decode cX12_setPattern 34 = .ok (.iload_n 2, 1) := by decide +kernel
theorem dX12_setPattern_35 : decode cX12_setPattern 35 = .ok (.aload_n 0, 1) := by decide +kernel
theorem dX12_setPattern_36 : decode cX12_setPattern 36 = .ok (.getfield 161, 3) := by decide +kernel
theorem dX12_setPattern_39 : decode cX12_setPattern 39 = .ok (.if_icmp .ge 21, 3) := by decide +kernel
theorem dX12_setPattern_42 : decode cX12_setPattern 42 = .ok (.aload_n 0, 1) := by decide +kernel
theorem dX12_setPattern_43 : decode cX12_setPattern 43 = .ok (.getfield 36, 3) := by decide +kernel
theorem dX12_setPattern_46 : decode cX12_setPattern 46 = .ok (.iload_n 2, 1) := by decide +kernel
theorem dX12_setPattern_47 : decode cX12_setPattern 47 = .ok (.aload_n 0, 1) := by decide +kernel
theorem dX12_setPattern_48 : decode cX12_setPattern 48 = .ok (.getfield 30, 3) := by decide +kernel
theorem dX12_setPattern_51 : decode cX12_setPattern 51 = .ok (.iload_n 2, 1) := by decide +kernel
theorem dX12_setPattern_52 : decode cX12_setPattern 52 = .ok (.iaload, 1) := by decide +kernel
theorem dX12_setPattern_53 : decode cX12_setPattern 53 = .ok (.iastore, 1) := by decide +kernel
theorem dX12_setPattern_54 : decode cX12_setPattern 54 = .ok (.iinc 2 1, 3) := by decide +kernel
theorem dX12_setPattern_57 : decode cX12_setPattern 57 = .ok (.goto (-23), 3) := by decide +kernel
theorem dX12_setPattern_60 : decode cX12_setPattern 60 = .ok (.iconst 0, 1) := by decide +kernel
theorem dX12_setPattern_61 : decode cX12_setPattern 61 = .ok (.istore_n 2, 1) := by decide +kernel
theorem dX12_setPattern_62 : decode cX12_setPattern 62 = .ok (.iconst 0, 1) := by decide +kernel
theorem dX12_setPattern_63 : decode cX12_setPattern 63 = .ok (.istore_n 3, 1) := by decide +kernel
theorem dX12_setPattern_64 : decode cX12_setPattern 64 = .ok (.iload_n 3, 1) := by decide +kernel
theorem dX12_setPattern_65 : decode cX12_setPattern 65 = .ok (.aload_n 0, 1) := by decide +kernel
theorem dX12_setPattern_66 : decode cX12_setPattern 66 = .ok (.getfield 138, 3) := by decide +kernel
theorem dX12_setPattern_69 : decode cX12_setPattern 69 = .ok (.if_icmp .ge 25, 3) := by decide +kernel
theorem dX12_setPattern_72 : decode cX12_setPattern 72 = .ok (.iload_n 2, 1) := by decide +kernel
theorem dX12_setPattern_73 : decode cX12_setPattern 73 = .ok (.aload_n 0, 1) := by decide +kernel
theorem dX12_setPattern_74 : decode cX12_setPattern 74 = .ok (.iload_n 3, 1) := by decide +kernel
theorem dX12_setPattern_75 : decode cX12_setPattern 75 = .ok (.invokevirtual 288, 3) := by decide +kernel
theorem dX12_setPattern_78 : decode cX12_setPattern 78 = .ok (.ifCond .eq 7, 3) := by decide +kernel
theorem dX12_setPattern_81 : decode cX12_setPattern 81 = .ok (.iconst 1, 1) := by decide +kernel
theorem dX12_setPattern_82 : decode cX12_setPattern 82 = .ok (.goto 4, 3) := by decide +kernel
theorem dX12_setPattern_85 : decode cX12_setPattern 85 = .ok (.iconst 0, 1) := by decide +kernel
theorem dX12_setPattern_86 : decode cX12_setPattern 86 = .ok (.iadd, 1) := by decide +kernel
theorem dX12_setPattern_87 : decode cX12_setPattern 87 = .ok (.istore_n 2, 1) := by decide +kernel
theorem dX12_setPattern_88 : decode cX12_setPattern 88 = .ok (.iinc 3 1, 3) := by decide +kernel
theorem dX12_setPattern_91 : decode cX12_setPattern 91 = .ok (.goto (-27), 3) := by decide +kernel
theorem dX12_setPattern_94 : decode cX12_setPattern 94 = .ok (.aload_n 0, 1) := by decide +kernel
theorem dX12_setPattern_95 : decode cX12_setPattern 95 = .ok (.iload_n 2, 1) := by decide +kernel
theorem dX12_setPattern_96 : decode cX12_setPattern 96 = .ok (.invokevirtual 209, 3) := by decide +kernel
theorem dX12_setPattern_99 : decode cX12_setPattern 99 = .ok (.ireturn, 1) := by decide +kernel
theorem dX12_find_0 : decode cX12_find 0 = .ok (.aload_n 0, 1) := by decide +kernel
theorem dX12_find_1 : decode cX12_find 1 = .ok (.iload_n 1, 1) := by decide +kernel
theorem dX12_find_2 : decode cX12_find 2 = .ok (.invokevirtual 218, 3) := by decide +kernel
theorem dX12_find_5 : decode cX12_find 5 = .ok (.ifCond .ne 9, 3) := by decide +kernel
theorem dX12_find_8 : decode cX12_find 8 = .ok (.aload_n 0, 1) := by decide +kernel
theorem dX12_find_9 : decode cX12_find 9 = .ok (.iconst 1, 1) := by decide +kernel
theorem dX12_find_10 : decode cX12_find 10 = .ok (.invokevirtual 206, 3) := by decide +kernel
theorem dX12_find_13 : decode cX12_find 13 = .ok (.ireturn, 1) := by decide +kernel
theorem dX12_find_14 : decode cX12_find 14 = .ok (.aload_n 0, 1) := by decide +kernel
theorem dX12_find_15 : decode cX12_find 15 = .ok (.getfield 279, 3) := by decide +kernel
theorem dX12_find_18 : decode cX12_find 18 = .ok (.ifCond .ne 9, 3) := by decide +kernel
theorem dX12_find_21 : decode cX12_find 21 = .ok (.aload_n 0, 1) := by decide +kernel
theorem dX12_find_22 : decode cX12_find 22 = .ok (.iconst 2, 1) := by decide +kernel
theorem dX12_find_23 : decode cX12_find 23 = .ok (.invokevirtual 206, 3) := by decide +kernel
theorem dX12_find_26 : decode cX12_find 26 = .ok (.ireturn, 1) := by decide +kernel
theorem dX12_find_27 : decode cX12_find 27 = .ok (.iload_n 2, 1) := by decide +kernel
theorem dX12_find_28 : decode cX12_find 28 = .ok (.ifCond .eq 13, 3) := by decide +kernel
theorem dX12_find_31 : decode cX12_find 31 = .ok (.aload_n 0, 1) := by decide +kernel
theorem dX12_find_32 : decode cX12_find 32 = .ok (.aload_n 0, 1) := by decide +kernel
theorem dX12_find_33 : decode cX12_find 33 = .ok (.iload_n 1, 1) := by decide +kernel
theorem dX12_find_34 : decode cX12_find 34 = .ok (.invokevirtual 291, 3) := by decide +kernel
theorem dX12_find_37 : decode cX12_find 37 = .ok (.invokevirtual 209, 3) := by decide +kernel
theorem dX12_find_40 : decode cX12_find 40 = .ok (.ireturn, 1) := by decide +kernel
theorem dX12_find_41 : decode cX12_find 41 = .ok (.iload_n 1, 1) := by decide +kernel
theorem dX12_find_42 : decode cX12_find 42 = .ok (.iconst 1, 1) := by decide +kernel
theorem dX12_find_43 : decode cX12_find 43 = .ok (.isub, 1) := by decide +kernel
theorem dX12_find_44 : decode cX12_find 44 = .ok (.istore_n 3, 1) := by decide +kernel
theorem dX12_find_45 : decode cX12_find 45 = .ok (.iload_n 3, 1) := by decide +kernel
theorem dX12_find_46 : decode cX12_find 46 = .ok (.ifCond .lt 17, 3) := by decide +kernel
theorem dX12_find_49 : decode cX12_find 49 = .ok (.aload_n 0, 1) := by decide +kernel
theorem dX12_find_50 : decode cX12_find 50 = .ok (.iload_n 3, 1) := by decide +kernel
theorem dX12_find_51 : decode cX12_find 51 = .ok (.invokevirtual 288, 3) := by decide +kernel
theorem dX12_find_54 : decode cX12_find 54 = .ok (.ifCond .ne 9, 3) := by decide +kernel
theorem dX12_find_57 : decode cX12_find 57 = .ok (.iinc 3 (-1), 3) := by decide +kernel
theorem dX12_find_60 : decode cX12_find 60 = .ok (.goto (-15), 3) := by decide +kernel
theorem dX12_find_63 : decode cX12_find 63 = .ok (.aload_n 0, 1) := by decide +kernel
theorem dX12_find_64 : decode cX12_find 64 = .ok (.iload_n 3, 1) := by decide +kernel
theorem dX12_find_65 : decode cX12_find 65 = .ok (.invokevirtual 209, 3) := by decide +kernel
theorem dX12_find_68 : decode cX12_find 68 = .ok (.ireturn, 1) := by decide +kernel
theorem dX12_replaceNext_0 : decode cX12_replaceNext 0 = .ok (.aload_n 0, 1) := by decide +kernel
theorem dX12_replaceNext_1 : decode cX12_replaceNext 1 = .ok (.getfield 279, 3) := by decide +kernel
theorem dX12_replaceNext_4 : decode cX12_replaceNext 4 = .ok (.ifCond .ne 9, 3) := by decide +kernel
theorem dX12_replaceNext_7 : decode cX12_replaceNext 7 = .ok (.aload_n 0, 1) := by decide +kernel
theorem dX12_replaceNext_8 : decode cX12_replaceNext 8 = .ok (.iconst 1, 1) := by decide +kernel
theorem dX12_replaceNext_9 : decode cX12_replaceNext 9 = .ok (.invokevirtual 206, 3) := by decide +kernel
theorem dX12_replaceNext_12 : decode cX12_replaceNext 12 = .ok (.ireturn, 1) := by decide +kernel
theorem dX12_replaceNext_13 : decode cX12_replaceNext 13 = .ok (.aload_n 0, 1) := by decide +kernel
theorem dX12_replaceNext_14 : decode cX12_replaceNext 14 = .ok (.aload_n 0, 1) := by decide +kernel
theorem dX12_replaceNext_15 : decode cX12_replaceNext 15 = .ok (.getfield 13, 3) := by decide +kernel
theorem dX12_replaceNext_18 : decode cX12_replaceNext 18 = .ok (.iconst 0, 1) := by decide +kernel
theorem dX12_replaceNext_19 : decode cX12_replaceNext 19 = .ok (.iaload, 1) := by decide +kernel
theorem dX12_replaceNext_20 : decode cX12_replaceNext 20 = .ok (.invokevirtual 291, 3) := by decide +kernel
theorem dX12_replaceNext_23 : decode cX12_replaceNext 23 = .ok (.istore_n 1, 1) := by decide +kernel
theorem dX12_replaceNext_24 : decode cX12_replaceNext 24 = .ok (.iload_n 1, 1) := by decide +kernel
theorem dX12_replaceNext_25 : decode cX12_replaceNext 25 = .ok (.iconst (-1), 1) := by decide +kernel
theorem dX12_replaceNext_26 : decode cX12_replaceNext 26 = .ok (.if_icmp .ne 11, 3) := by decide +kernel
theorem dX12_replaceNext_29 : decode cX12_replaceNext 29 = .ok (.aload_n 0, 1) := by decide +kernel
theorem dX12_replaceNext_30 : decode cX12_replaceNext 30 = .ok (.iconst 0, 1) := by decide +kernel
theorem dX12_replaceNext_31 : decode cX12_replaceNext 31 = .ok (.invokevirtual 291, 3) := by decide +kernel
theorem dX12_replaceNext_34 : decode cX12_replaceNext 34 = .ok (.goto 4, 3) := by decide +kernel
theorem dX12_replaceNext_37 : decode cX12_replaceNext 37 = .ok (.iload_n 1, 1) := by decide +kernel
theorem dX12_replaceNext_38 : decode cX12_replaceNext 38 = .ok (.istore_n 1, 1) := by decide +kernel
theorem dX12_replaceNext_39 : decode cX12_replaceNext 39 = .ok (.iload_n 1, 1) := by decide +kernel
theorem dX12_replaceNext_40 : decode cX12_replaceNext 40 = .ok (.iconst (-1), 1) := by decide +kernel
theorem dX12_replaceNext_41 : decode cX12_replaceNext 41 = .ok (.if_icmp .ne 9, 3) := by decide +kernel
theorem dX12_replaceNext_44 : decode cX12_replaceNext 44 = .ok (.aload_n 0, 1) := by decide +kernel
theorem dX12_replaceNext_45 : decode cX12_replaceNext 45 = .ok (.iconst (-1), 1) := by decide +kernel
theorem dX12_replaceNext_46 : decode cX12_replaceNext 46 = .ok (.invokevirtual 209, 3) := by decide +kernel
theorem dX12_replaceNext_49 : decode cX12_replaceNext 49 = .ok (.ireturn, 1) := by decide +kernel
theorem dX12_replaceNext_50 : decode cX12_replaceNext 50 = .ok (.aload_n 0, 1) := by decide +kernel
theorem dX12_replaceNext_51 : decode cX12_replaceNext 51 = .ok (.invokevirtual 234, 3) := by decide +kernel
theorem dX12_replaceNext_54 : decode cX12_replaceNext 54 = .ok (.aload_n 0, 1) := by decide +kernel
theorem dX12_replaceNext_55 : decode cX12_replaceNext 55 = .ok (.invokevirtual 237, 3) := by decide +kernel
theorem dX12_replaceNext_58 : decode cX12_replaceNext 58 = .ok (.aload_n 0, 1) := by decide +kernel
theorem dX12_replaceNext_59 : decode cX12_replaceNext 59 = .ok (.iload_n 1, 1) := by decide +kernel
theorem dX12_replaceNext_60 : decode cX12_replaceNext 60 = .ok (.iload_n 1, 1) := by decide +kernel
theorem dX12_replaceNext_61 : decode cX12_replaceNext 61 = .ok (.aload_n 0, 1) := by decide +kernel
theorem dX12_replaceNext_62 : decode cX12_replaceNext 62 = .ok (.getfield 279, 3) := by decide +kernel
theorem dX12_replaceNext_65 : decode cX12_replaceNext 65 = .ok (.iadd, 1) := by decide +kernel
theorem dX12_replaceNext_66 : decode cX12_replaceNext 66 = .ok (.iconst 0, 1) := by decide +kernel
theorem dX12_replaceNext_67 : decode cX12_replaceNext 67 = .ok (.aload_n 0, 1) := by decide +kernel
theorem dX12_replaceNext_68 : decode cX12_replaceNext 68 = .ok (.getfield 158, 3) := by decide +kernel
theorem dX12_replaceNext_71 : decode cX12_replaceNext 71 = .ok (.invokevirtual 240, 3) := by decide +kernel
theorem dX12_replaceNext_74 : decode cX12_replaceNext 74 = .ok (.aload_n 0, 1) := by decide +kernel
theorem dX12_replaceNext_75 : decode cX12_replaceNext 75 = .ok (.invokevirtual 244, 3) := by decide +kernel
theorem dX12_replaceNext_78 : decode cX12_replaceNext 78 = .ok (.ifCond .ne 9, 3) := by decide +kernel
theorem dX12_replaceNext_81 : decode cX12_replaceNext 81 = .ok (.aload_n 0, 1) := by decide +kernel
theorem dX12_replaceNext_82 : decode cX12_replaceNext 82 = .ok (.iconst 1, 1) := by decide +kernel
theorem dX12_replaceNext_83 : decode cX12_replaceNext 83 = .ok (.invokevirtual 206, 3) := by decide +kernel
theorem dX12_replaceNext_86 : decode cX12_replaceNext 86 = .ok (.ireturn, 1) := by decide +kernel
theorem dX12_replaceNext_87 : decode cX12_replaceNext 87 = .ok (.aload_n 0, 1) := by decide +kernel
theorem dX12_replaceNext_88 : decode cX12_replaceNext 88 = .ok (.iconst 1, 1) := by decide +kernel
theorem dX12_replaceNext_89 : decode cX12_replaceNext 89 = .ok (.putfield 26, 3) := by decide +kernel
theorem dX12_replaceNext_92 : decode cX12_replaceNext 92 = .ok (.aload_n 0, 1) := by decide +kernel
theorem dX12_replaceNext_93 : decode cX12_replaceNext 93 = .ok (.getfield 13, 3) := by decide +kernel
theorem dX12_replaceNext_96 : decode cX12_replaceNext 96 = .ok (.iconst 0, 1) := by decide +kernel
theorem dX12_replaceNext_97 : decode cX12_replaceNext 97 = .ok (.iload_n 1, 1) := by decide +kernel
theorem dX12_replaceNext_98 : decode cX12_replaceNext 98 = .ok (.aload_n 0, 1) := by decide +kernel
theorem dX12_replaceNext_99 : decode cX12_replaceNext 99 = .ok (.getfield 161, 3) := by decide +kernel
theorem dX12_replaceNext_102 : decode cX12_replaceNext 102 = .ok (.iadd, 1) := by decide +kernel
theorem dX12_replaceNext_103 : decode cX12_replaceNext 103 = .ok (.iastore, 1) := by decide +kernel
theorem dX12_replaceNext_104 : decode cX12_replaceNext 104 = .ok (.aload_n 0, 1) := by decide +kernel
theorem dX12_replaceNext_105 : decode cX12_replaceNext 105 = .ok (.aload_n 0, 1) := by decide +kernel
theorem dX12_replaceNext_106 : decode cX12_replaceNext 106 = .ok (.getfield 13, 3) := by decide +kernel
theorem dX12_replaceNext_109 : decode cX12_replaceNext 109 = .ok (.iconst 0, 1) := by decide +kernel
theorem dX12_replaceNext_110 : decode cX12_replaceNext 110 = .ok (.iaload, 1) := by decide +kernel
theorem dX12_replaceNext_111 : decode cX12_replaceNext 111 = .ok (.invokevirtual 294, 3) := by decide +kernel
theorem dX12_replaceNext_114 : decode cX12_replaceNext 114 = .ok (.aload_n 0, 1) := by decide +kernel
theorem dX12_replaceNext_115 : decode cX12_replaceNext 115 = .ok (.iload_n 1, 1) := by decide +kernel
theorem dX12_replaceNext_116 : decode cX12_replaceNext 116 = .ok (.invokevirtual 209, 3) := by decide +kernel
theorem dX12_replaceNext_119 : decode cX12_replaceNext 119 = .ok (.ireturn, 1) := by decide +kernel
theorem dX12_replaceAll_0 : decode cX12_replaceAll 0 = .ok (.aload_n 0, 1) := by decide +kernel
theorem dX12_replaceAll_1 : decode cX12_replaceAll 1 = .ok (.getfield 279, 3) := by decide +kernel
theorem dX12_replaceAll_4 : decode cX12_replaceAll 4 = .ok (.ifCond .ne 9, 3) := by decide +kernel
theorem dX12_replaceAll_7 : decode cX12_replaceAll 7 = .ok (.aload_n 0, 1) := by decide +kernel
theorem dX12_replaceAll_8 : decode cX12_replaceAll 8 = .ok (.iconst 1, 1) := by decide +kernel
theorem dX12_replaceAll_9 : decode cX12_replaceAll 9 = .ok (.invokevirtual 206, 3) := by decide +kernel
theorem dX12_replaceAll_12 : decode cX12_replaceAll 12 = .ok (.ireturn, 1) := by decide +kernel
theorem dX12_replaceAll_13 : decode cX12_replaceAll 13 = .ok (.aload_n 0, 1) := by decide +kernel
theorem dX12_replaceAll_14 : decode cX12_replaceAll 14 = .ok (.invokevirtual 234, 3) := by decide +kernel
theorem dX12_replaceAll_17 : decode cX12_replaceAll 17 = .ok (.aload_n 0, 1) := by decide +kernel
theorem dX12_replaceAll_18 : decode cX12_replaceAll 18 = .ok (.invokevirtual 237, 3) := by decide +kernel
theorem dX12_replaceAll_21 : decode cX12_replaceAll 21 = .ok (.aload_n 0, 1) := by decide +kernel
theorem dX12_replaceAll_22 : decode cX12_replaceAll 22 = .ok (.iconst 0, 1) := by decide +kernel
theorem dX12_replaceAll_23 : decode cX12_replaceAll 23 = .ok (.invokevirtual 291, 3) := by decide +kernel
theorem dX12_replaceAll_26 : decode cX12_replaceAll 26 = .ok (.istore_n 1, 1) := by decide +kernel
theorem dX12_replaceAll_27 : decode cX12_replaceAll 27 = .ok (.iload_n 1, 1) := by decide +kernel
theorem dX12_replaceAll_28 : decode cX12_replaceAll 28 = .ok (.iconst (-1), 1) := by decide +kernel
theorem dX12_replaceAll_29 : decode cX12_replaceAll 29 = .ok (.if_icmp .eq 33, 3) := by decide +kernel
theorem dX12_replaceAll_32 : decode cX12_replaceAll 32 = .ok (.aload_n 0, 1) := by decide +kernel
theorem dX12_replaceAll_33 : decode cX12_replaceAll 33 = .ok (.iload_n 1, 1) := by decide +kernel
theorem dX12_replaceAll_34 : decode cX12_replaceAll 34 = .ok (.iload_n 1, 1) := by decide +kernel
theorem dX12_replaceAll_35 : decode cX12_replaceAll 35 = .ok (.aload_n 0, 1) := by decide +kernel
theorem dX12_replaceAll_36 : decode cX12_replaceAll 36 = .ok (.getfield 279, 3) := by decide +kernel
theorem dX12_replaceAll_39 : decode cX12_replaceAll 39 = .ok (.iadd, 1) := by decide +kernel
theorem dX12_replaceAll_40 : decode cX12_replaceAll 40 = .ok (.iconst 0, 1) := by decide +kernel
theorem dX12_replaceAll_41 : decode cX12_replaceAll 41 = .ok (.aload_n 0, 1) := by decide +kernel
theorem dX12_replaceAll_42 : decode cX12_replaceAll 42 = .ok (.getfield 158, 3) := by decide +kernel
theorem dX12_replaceAll_45 : decode cX12_replaceAll 45 = .ok (.invokevirtual 240, 3) := by decide +kernel
theorem dX12_replaceAll_48 : decode cX12_replaceAll 48 = .ok (.aload_n 0, 1) := by decide +kernel
theorem dX12_replaceAll_49 : decode cX12_replaceAll 49 = .ok (.iload_n 1, 1) := by decide +kernel
theorem dX12_replaceAll_50 : decode cX12_replaceAll 50 = .ok (.aload_n 0, 1) := by decide +kernel
theorem dX12_replaceAll_51 : decode cX12_replaceAll 51 = .ok (.getfield 279, 3) := by decide +kernel
theorem dX12_replaceAll_54 : decode cX12_replaceAll 54 = .ok (.iadd, 1) := by decide +kernel
theorem dX12_replaceAll_55 : decode cX12_replaceAll 55 = .ok (.invokevirtual 291, 3) := by decide +kernel
theorem dX12_replaceAll_58 : decode cX12_replaceAll 58 = .ok (.istore_n 1, 1) := by decide +kernel
theorem dX12_replaceAll_59 : decode cX12_replaceAll 59 = .ok (.goto (-32), 3) := by decide +kernel
theorem dX12_replaceAll_62 : decode cX12_replaceAll 62 = .ok (.aload_n 0, 1) := by decide +kernel
theorem dX12_replaceAll_63 : decode cX12_replaceAll 63 = .ok (.getfield 155, 3) := by decide +kernel
theorem dX12_replaceAll_66 : decode cX12_replaceAll 66 = .ok (.istore_n 2, 1) := by decide +kernel
theorem dX12_replaceAll_67 : decode cX12_replaceAll 67 = .ok (.aload_n 0, 1) := by decide +kernel
theorem dX12_replaceAll_68 : decode cX12_replaceAll 68 = .ok (.invokevirtual 244, 3) := by decide +kernel
theorem dX12_replaceAll_71 : decode cX12_replaceAll 71 = .ok (.ifCond .eq 11, 3) := by decide +kernel
theorem dX12_replaceAll_74 : decode cX12_replaceAll 74 = .ok (.aload_n 0, 1) := by decide +kernel
theorem dX12_replaceAll_75 : decode cX12_replaceAll 75 = .ok (.iload_n 2, 1) := by decide +kernel
theorem dX12_replaceAll_76 : decode cX12_replaceAll 76 = .ok (.invokevirtual 209, 3) := by decide +kernel
theorem dX12_replaceAll_79 : decode cX12_replaceAll 79 = .ok (.goto 8, 3) := by decide +kernel
theorem dX12_replaceAll_82 : decode cX12_replaceAll 82 = .ok (.aload_n 0, 1) := by decide +kernel
theorem dX12_replaceAll_83 : decode cX12_replaceAll 83 = .ok (.iconst 1, 1) := by decide +kernel
theorem dX12_replaceAll_84 : decode cX12_replaceAll 84 = .ok (.invokevirtual 206, 3) := by decide +kernel
theorem dX12_replaceAll_87 : decode cX12_replaceAll 87 = .ok (.ireturn, 1) := by decide +kernel
theorem dX12_closes_0 : decode cX12_closes 0 = .ok (.aload_n 0, 1) := by decide +kernel
theorem dX12_closes_1 : decode cX12_closes 1 = .ok (.iconst 0, 1) := by decide +kernel
theorem dX12_closes_2 : decode cX12_closes 2 = .ok (.putfield 174, 3) := by decide +kernel
theorem dX12_closes_5 : decode cX12_closes 5 = .ok (.aload_n 0, 1) := by decide +kernel
theorem dX12_closes_6 : decode cX12_closes 6 = .ok (.iconst (-1), 1) := by decide +kernel
theorem dX12_closes_7 : decode cX12_closes 7 = .ok (.putfield 72, 3) := by decide +kernel
theorem dX12_closes_10 : decode cX12_closes 10 = .ok (.return_, 1) := by decide +kernel
theorem dX12_undo_0 : decode cX12_undo 0 = .ok (.iload_n 1, 1) := by decide +kernel
theorem dX12_undo_1 : decode cX12_undo 1 = .ok (.iconst 1, 1) := by decide +kernel
theorem dX12_undo_2 : decode cX12_undo 2 = .ok (.sipush 150, 3) := by decide +kernel
theorem dX12_undo_5 : decode cX12_undo 5 = .ok (.invokestatic 134, 3) := by decide +kernel
theorem dX12_undo_8 : decode cX12_undo 8 = .ok (.ifCond .ne 9, 3) := by decide +kernel
theorem dX12_undo_11 : decode cX12_undo 11 = .ok (.aload_n 0, 1) := by decide +kernel
theorem dX12_undo_12 : decode cX12_undo 12 = .ok (.iconst 1, 1) := by decide +kernel
theorem dX12_undo_13 : decode cX12_undo 13 = .ok (.invokevirtual 206, 3) := by decide +kernel
theorem dX12_undo_16 : decode cX12_undo 16 = .ok (.ireturn, 1) := by decide +kernel
theorem dX12_undo_17 : decode cX12_undo 17 = .ok (.aload_n 0, 1) := by decide +kernel
theorem dX12_undo_18 : decode cX12_undo 18 = .ok (.invokevirtual 297, 3) := by decide +kernel
theorem dX12_undo_21 : decode cX12_undo 21 = .ok (.iconst 0, 1) := by decide +kernel
theorem dX12_undo_22 : decode cX12_undo 22 = .ok (.istore_n 2, 1) := by decide +kernel
theorem dX12_undo_23 : decode cX12_undo 23 = .ok (.iload_n 2, 1) := by decide +kernel
theorem dX12_undo_24 : decode cX12_undo 24 = .ok (.iload_n 1, 1) := by decide +kernel
theorem dX12_undo_25 : decode cX12_undo 25 = .ok (.if_icmp .ge 69, 3) := by decide +kernel
theorem dX12_undo_28 : decode cX12_undo 28 = .ok (.aload_n 0, 1) := by decide +kernel
theorem dX12_undo_29 : decode cX12_undo 29 = .ok (.getfield 185, 3) := by decide +kernel
theorem dX12_undo_32 : decode cX12_undo 32 = .ok (.ifCond .eq 62, 3) := by decide +kernel
theorem dX12_undo_35 : decode cX12_undo 35 = .ok (.aload_n 0, 1) := by decide +kernel
theorem dX12_undo_36 : decode cX12_undo 36 = .ok (.aload_n 0, 1) := by decide +kernel
theorem dX12_undo_37 : decode cX12_undo 37 = .ok (.getfield 185, 3) := by decide +kernel
theorem dX12_undo_40 : decode cX12_undo 40 = .ok (.invokestatic 300, 3) := by decide +kernel
theorem dX12_undo_43 : decode cX12_undo 43 = .ok (.invokevirtual 191, 3) := by decide +kernel
theorem dX12_undo_46 : decode cX12_undo 46 = .ok (.aload_n 0, 1) := by decide +kernel
theorem dX12_undo_47 : decode cX12_undo 47 = .ok (.aload_n 0, 1) := by decide +kernel
theorem dX12_undo_48 : decode cX12_undo 48 = .ok (.getfield 185, 3) := by decide +kernel
theorem dX12_undo_51 : decode cX12_undo 51 = .ok (.invokestatic 188, 3) := by decide +kernel
theorem dX12_undo_54 : decode cX12_undo 54 = .ok (.invokevirtual 303, 3) := by decide +kernel
theorem dX12_undo_57 : decode cX12_undo 57 = .ok (.aload_n 0, 1) := by decide +kernel
theorem dX12_undo_58 : decode cX12_undo 58 = .ok (.getfield 69, 3) := by decide +kernel
theorem dX12_undo_61 : decode cX12_undo 61 = .ok (.aload_n 0, 1) := by decide +kernel
theorem dX12_undo_62 : decode cX12_undo 62 = .ok (.getfield 66, 3) := by decide +kernel
theorem dX12_undo_65 : decode cX12_undo 65 = .ok (.aload_n 0, 1) := by decide +kernel
theorem dX12_undo_66 : decode cX12_undo 66 = .ok (.getfield 185, 3) := by decide +kernel
theorem dX12_undo_69 : decode cX12_undo 69 = .ok (.iaload, 1) := by decide +kernel
theorem dX12_undo_70 : decode cX12_undo 70 = .ok (.aload_n 0, 1) := by decide +kernel
theorem dX12_undo_71 : decode cX12_undo 71 = .ok (.getfield 185, 3) := by decide +kernel
theorem dX12_undo_74 : decode cX12_undo 74 = .ok (.iastore, 1) := by decide +kernel
theorem dX12_undo_75 : decode cX12_undo 75 = .ok (.aload_n 0, 1) := by decide +kernel
theorem dX12_undo_76 : decode cX12_undo 76 = .ok (.aload_n 0, 1) := by decide +kernel
theorem dX12_undo_77 : decode cX12_undo 77 = .ok (.getfield 66, 3) := by decide +kernel
theorem dX12_undo_80 : decode cX12_undo 80 = .ok (.aload_n 0, 1) := by decide +kernel
theorem dX12_undo_81 : decode cX12_undo 81 = .ok (.getfield 185, 3) := by decide +kernel
theorem dX12_undo_84 : decode cX12_undo 84 = .ok (.iaload, 1) := by decide +kernel
theorem dX12_undo_85 : decode cX12_undo 85 = .ok (.putfield 185, 3) := by decide +kernel
theorem dX12_undo_88 : decode cX12_undo 88 = .ok (.iinc 2 1, 3) := by decide +kernel
theorem dX12_undo_91 : decode cX12_undo 91 = .ok (.goto (-68), 3) := by decide +kernel
theorem dX12_undo_94 : decode cX12_undo 94 = .ok (.aload_n 0, 1) := by decide +kernel
theorem dX12_undo_95 : decode cX12_undo 95 = .ok (.iload_n 2, 1) := by decide +kernel
theorem dX12_undo_96 : decode cX12_undo 96 = .ok (.invokevirtual 209, 3) := by decide +kernel
theorem dX12_undo_99 : decode cX12_undo 99 = .ok (.ireturn, 1) := by decide +kernel
theorem dX12_redo_0 : decode cX12_redo 0 = .ok (.iload_n 1, 1) := by decide +kernel
theorem dX12_redo_1 : decode cX12_redo 1 = .ok (.iconst 1, 1) := by decide +kernel
theorem dX12_redo_2 : decode cX12_redo 2 = .ok (.sipush 150, 3) := by decide +kernel
theorem dX12_redo_5 : decode cX12_redo 5 = .ok (.invokestatic 134, 3) := by decide +kernel
theorem dX12_redo_8 : decode cX12_redo 8 = .ok (.ifCond .ne 9, 3) := by decide +kernel
theorem dX12_redo_11 : decode cX12_redo 11 = .ok (.aload_n 0, 1) := by decide +kernel
theorem dX12_redo_12 : decode cX12_redo 12 = .ok (.iconst 1, 1) := by decide +kernel
theorem dX12_redo_13 : decode cX12_redo 13 = .ok (.invokevirtual 206, 3) := by decide +kernel
theorem dX12_redo_16 : decode cX12_redo 16 = .ok (.ireturn, 1) := by decide +kernel
theorem dX12_redo_17 : decode cX12_redo 17 = .ok (.aload_n 0, 1) := by decide +kernel
theorem dX12_redo_18 : decode cX12_redo 18 = .ok (.invokevirtual 297, 3) := by decide +kernel
theorem dX12_redo_21 : decode cX12_redo 21 = .ok (.iconst 0, 1) := by decide +kernel
theorem dX12_redo_22 : decode cX12_redo 22 = .ok (.istore_n 2, 1) := by decide +kernel
theorem dX12_redo_23 : decode cX12_redo 23 = .ok (.iload_n 2, 1) := by decide +kernel
theorem dX12_redo_24 : decode cX12_redo 24 = .ok (.iload_n 1, 1) := by decide +kernel
theorem dX12_redo_25 : decode cX12_redo 25 = .ok (.if_icmp .ge 45, 3) := by decide +kernel
theorem dX12_redo_28 : decode cX12_redo 28 = .ok (.aload_n 0, 1) := by decide +kernel
theorem dX12_redo_29 : decode cX12_redo 29 = .ok (.getfield 69, 3) := by decide +kernel
theorem dX12_redo_32 : decode cX12_redo 32 = .ok (.aload_n 0, 1) := by decide +kernel
theorem dX12_redo_33 : decode cX12_redo 33 = .ok (.getfield 185, 3) := by decide +kernel
theorem dX12_redo_36 : decode cX12_redo 36 = .ok (.iaload, 1) := by decide +kernel
theorem dX12_redo_37 : decode cX12_redo 37 = .ok (.ifCond .eq 33, 3) := by decide +kernel
theorem dX12_redo_40 : decode cX12_redo 40 = .ok (.aload_n 0, 1) := by decide +kernel
theorem dX12_redo_41 : decode cX12_redo 41 = .ok (.aload_n 0, 1) := by decide +kernel
theorem dX12_redo_42 : decode cX12_redo 42 = .ok (.getfield 69, 3) := by decide +kernel
theorem dX12_redo_45 : decode cX12_redo 45 = .ok (.aload_n 0, 1) := by decide +kernel
theorem dX12_redo_46 : decode cX12_redo 46 = .ok (.getfield 185, 3) := by decide +kernel
theorem dX12_redo_49 : decode cX12_redo 49 = .ok (.iaload, 1) := by decide +kernel
theorem dX12_redo_50 : decode cX12_redo 50 = .ok (.putfield 185, 3) := by decide +kernel
theorem dX12_redo_53 : decode cX12_redo 53 = .ok (.aload_n 0, 1) := by decide +kernel
theorem dX12_redo_54 : decode cX12_redo 54 = .ok (.aload_n 0, 1) := by decide +kernel
theorem dX12_redo_55 : decode cX12_redo 55 = .ok (.getfield 185, 3) := by decide +kernel
theorem dX12_redo_58 : decode cX12_redo 58 = .ok (.invokestatic 300, 3) := by decide +kernel
theorem dX12_redo_61 : decode cX12_redo 61 = .ok (.invokevirtual 303, 3) := by decide +kernel
theorem dX12_redo_64 : decode cX12_redo 64 = .ok (.iinc 2 1, 3) := by decide +kernel
theorem dX12_redo_67 : decode cX12_redo 67 = .ok (.goto (-44), 3) := by decide +kernel
theorem dX12_redo_70 : decode cX12_redo 70 = .ok (.aload_n 0, 1) := by decide +kernel
theorem dX12_redo_71 : decode cX12_redo 71 = .ok (.iload_n 2, 1) := by decide +kernel
theorem dX12_redo_72 : decode cX12_redo 72 = .ok (.invokevirtual 209, 3) := by decide +kernel
theorem dX12_redo_75 : decode cX12_redo 75 = .ok (.ireturn, 1) := by decide +kernel
theorem dX12_continuations_0 : decode cX12_continuations 0 = .ok (.iconst 0, 1) := by decide +kernel
theorem dX12_continuations_1 : decode cX12_continuations 1 = .ok (.istore_n 1, 1) := by decide +kernel
theorem dX12_continuations_2 : decode cX12_continuations 2 = .ok (.iconst 1, 1) := by decide +kernel
theorem dX12_continuations_3 : decode cX12_continuations 3 = .ok (.istore_n 2, 1) := by decide +kernel
theorem dX12_continuations_4 : decode cX12_continuations 4 = .ok (.iload_n 2, 1) := by decide +kernel
theorem dX12_continuations_5 : decode cX12_continuations 5 = .ok (.aload_n 0, 1) := by decide +kernel
theorem dX12_continuations_6 : decode cX12_continuations 6 = .ok (.getfield 182, 3) := by decide +kernel
theorem dX12_continuations_9 : decode cX12_continuations 9 = .ok (.if_icmp .gt 30, 3) := by decide +kernel
theorem dX12_continuations_12 : decode cX12_continuations 12 = .ok (.iload_n 1, 1) := by decide +kernel
theorem dX12_continuations_13 : decode cX12_continuations 13 = .ok (.aload_n 0, 1) := by decide +kernel
theorem dX12_continuations_14 : decode cX12_continuations 14 = .ok (.getfield 66, 3) := by decide +kernel
theorem dX12_continuations_17 : decode cX12_continuations 17 = .ok (.iload_n 2, 1) := by decide +kernel
theorem dX12_continuations_18 : decode cX12_continuations 18 = .ok (.iaload, 1) := by decide +kernel
theorem dX12_continuations_19 : decode cX12_continuations 19 = .ok (.aload_n 0, 1) := by decide +kernel
theorem dX12_continuations_20 : decode cX12_continuations 20 = .ok (.getfield 185, 3) := by decide +kernel
theorem dX12_continuations_23 : decode cX12_continuations 23 = .ok (.if_icmp .ne 7, 3) := by decide +kernel
theorem dX12_continuations_26 : decode cX12_continuations 26 = .ok (.iconst 1, 1) := by decide +kernel
theorem dX12_continuations_27 : decode cX12_continuations 27 = .ok (.goto 4, 3) := by decide +kernel
theorem dX12_continuations_30 : decode cX12_continuations 30 = .ok (.iconst 0, 1) := by decide +kernel
theorem dX12_continuations_31 : decode cX12_continuations 31 = .ok (.iadd, 1) := by decide +kernel
theorem dX12_continuations_32 : decode cX12_continuations 32 = .ok (.istore_n 1, 1) := by decide +kernel
theorem dX12_continuations_33 : decode cX12_continuations 33 = .ok (.iinc 2 1, 3) := by decide +kernel
theorem dX12_continuations_36 : decode cX12_continuations 36 = .ok (.goto (-32), 3) := by decide +kernel
theorem dX12_continuations_39 : decode cX12_continuations 39 = .ok (.iload_n 1, 1) := by decide +kernel
theorem dX12_continuations_40 : decode cX12_continuations 40 = .ok (.ireturn, 1) := by decide +kernel
theorem dX12_branch_0 : decode cX12_branch 0 = .ok (.aload_n 0, 1) := by decide +kernel
theorem dX12_branch_1 : decode cX12_branch 1 = .ok (.invokevirtual 306, 3) := by decide +kernel
theorem dX12_branch_4 : decode cX12_branch 4 = .ok (.istore_n 2, 1) := by decide +kernel
theorem dX12_branch_5 : decode cX12_branch 5 = .ok (.iload_n 1, 1) := by decide +kernel
theorem dX12_branch_6 : decode cX12_branch 6 = .ok (.iconst 0, 1) := by decide +kernel
theorem dX12_branch_7 : decode cX12_branch 7 = .ok (.iload_n 2, 1) := by decide +kernel
theorem dX12_branch_8 : decode cX12_branch 8 = .ok (.iconst 1, 1) := by decide +kernel
theorem dX12_branch_9 : decode cX12_branch 9 = .ok (.isub, 1) := by decide +kernel
theorem dX12_branch_10 : decode cX12_branch 10 = .ok (.invokestatic 134, 3) := by decide +kernel
theorem dX12_branch_13 : decode cX12_branch 13 = .ok (.ifCond .ne 9, 3) := by decide +kernel
theorem dX12_branch_16 : decode cX12_branch 16 = .ok (.aload_n 0, 1) := by decide +kernel
theorem dX12_branch_17 : decode cX12_branch 17 = .ok (.iconst 1, 1) := by decide +kernel
theorem dX12_branch_18 : decode cX12_branch 18 = .ok (.invokevirtual 206, 3) := by decide +kernel
theorem dX12_branch_21 : decode cX12_branch 21 = .ok (.ireturn, 1) := by decide +kernel
theorem dX12_branch_22 : decode cX12_branch 22 = .ok (.aload_n 0, 1) := by decide +kernel
theorem dX12_branch_23 : decode cX12_branch 23 = .ok (.invokevirtual 297, 3) := by decide +kernel
theorem dX12_branch_26 : decode cX12_branch 26 = .ok (.iload_n 1, 1) := by decide +kernel
theorem dX12_branch_27 : decode cX12_branch 27 = .ok (.istore_n 3, 1) := by decide +kernel
theorem dX12_branch_28 : decode cX12_branch 28 = .ok (.iconst 0, 1) := by decide +kernel
theorem dX12_branch_29 : decode cX12_branch 29 = .ok (.istore 4, 2) := by decide +kernel
theorem dX12_branch_31 : decode cX12_branch 31 = .ok (.iload_n 3, 1) := by decide +kernel
theorem dX12_branch_32 : decode cX12_branch 32 = .ok (.ifCond .lt 31, 3) := by decide +kernel
theorem dX12_branch_35 : decode cX12_branch 35 = .ok (.iinc 4 1, 3) := by decide +kernel
theorem dX12_branch_38 : decode cX12_branch 38 = .ok (.iload_n 3, 1) := by decide +kernel
theorem dX12_branch_39 : decode cX12_branch 39 = .ok (.aload_n 0, 1) := by decide +kernel
theorem dX12_branch_40 : decode cX12_branch 40 = .ok (.getfield 66, 3) := by decide +kernel
theorem dX12_branch_43 : decode cX12_branch 43 = .ok (.iload 4, 2) := by decide +kernel
theorem dX12_branch_45 : decode cX12_branch 45 = .ok (.iaload, 1) := by decide +kernel
theorem dX12_branch_46 : decode cX12_branch 46 = .ok (.aload_n 0, 1) := by decide +kernel
theorem dX12_branch_47 : decode cX12_branch 47 = .ok (.getfield 185, 3) := by decide +kernel
theorem dX12_branch_50 : decode cX12_branch 50 = .ok (.if_icmp .ne 7, 3) := by decide +kernel
theorem dX12_branch_53 : decode cX12_branch 53 = .ok (.iconst 1, 1) := by decide +kernel
theorem dX12_branch_54 : decode cX12_branch 54 = .ok (.goto 4, 3) := by decide +kernel
theorem dX12_branch_57 : decode cX12_branch 57 = .ok (.iconst 0, 1) := by decide +kernel
theorem dX12_branch_58 : decode cX12_branch 58 = .ok (.isub, 1) := by decide +kernel
theorem dX12_branch_59 : decode cX12_branch 59 = .ok (.istore_n 3, 1) := by decide +kernel
theorem dX12_branch_60 : decode cX12_branch 60 = .ok (.goto (-29), 3) := by decide +kernel
theorem dX12_branch_63 : decode cX12_branch 63 = .ok (.aload_n 0, 1) := by decide +kernel
theorem dX12_branch_64 : decode cX12_branch 64 = .ok (.getfield 69, 3) := by decide +kernel
theorem dX12_branch_67 : decode cX12_branch 67 = .ok (.aload_n 0, 1) := by decide +kernel
theorem dX12_branch_68 : decode cX12_branch 68 = .ok (.getfield 185, 3) := by decide +kernel
theorem dX12_branch_71 : decode cX12_branch 71 = .ok (.iload 4, 2) := by decide +kernel
theorem dX12_branch_73 : decode cX12_branch 73 = .ok (.iastore, 1) := by decide +kernel
theorem dX12_branch_74 : decode cX12_branch 74 = .ok (.aload_n 0, 1) := by decide +kernel
theorem dX12_branch_75 : decode cX12_branch 75 = .ok (.iload_n 2, 1) := by decide +kernel
theorem dX12_branch_76 : decode cX12_branch 76 = .ok (.invokevirtual 209, 3) := by decide +kernel
theorem dX12_branch_79 : decode cX12_branch 79 = .ok (.ireturn, 1) := by decide +kernel
theorem dX12_group_0 : decode cX12_group 0 = .ok (.aload_n 0, 1) := by decide +kernel
theorem dX12_group_1 : decode cX12_group 1 = .ok (.getfield 174, 3) := by decide +kernel
theorem dX12_group_4 : decode cX12_group 4 = .ok (.istore_n 2, 1) := by decide +kernel
theorem dX12_group_5 : decode cX12_group 5 = .ok (.aload_n 0, 1) := by decide +kernel
theorem dX12_group_6 : decode cX12_group 6 = .ok (.invokevirtual 297, 3) := by decide +kernel
theorem dX12_group_9 : decode cX12_group 9 = .ok (.aload_n 0, 1) := by decide +kernel
theorem dX12_group_10 : decode cX12_group 10 = .ok (.iload_n 1, 1) := by decide +kernel
theorem dX12_group_11 : decode cX12_group 11 = .ok (.putfield 174, 3) := by decide +kernel
theorem dX12_group_14 : decode cX12_group 14 = .ok (.aload_n 0, 1) := by decide +kernel
theorem dX12_group_15 : decode cX12_group 15 = .ok (.iload_n 2, 1) := by decide +kernel
theorem dX12_group_16 : decode cX12_group 16 = .ok (.invokevirtual 309, 3) := by decide +kernel
theorem dX12_group_19 : decode cX12_group 19 = .ok (.ireturn, 1) := by decide +kernel
theorem dX12_depth_0 : decode cX12_depth 0 = .ok (.iconst 0, 1) := by decide +kernel
theorem dX12_depth_1 : decode cX12_depth 1 = .ok (.istore_n 1, 1) := by decide +kernel
theorem dX12_depth_2 : decode cX12_depth 2 = .ok (.aload_n 0, 1) := by decide +kernel
theorem dX12_depth_3 : decode cX12_depth 3 = .ok (.getfield 185, 3) := by decide +kernel
theorem dX12_depth_6 : decode cX12_depth 6 = .ok (.istore_n 2, 1) := by decide +kernel
theorem dX12_depth_7 : decode cX12_depth 7 = .ok (.iload_n 2, 1) := by decide +kernel
theorem dX12_depth_8 : decode cX12_depth 8 = .ok (.ifCond .eq 16, 3) := by decide +kernel
theorem dX12_depth_11 : decode cX12_depth 11 = .ok (.iinc 1 1, 3) := by decide +kernel
theorem dX12_depth_14 : decode cX12_depth 14 = .ok (.aload_n 0, 1) := by decide +kernel
theorem dX12_depth_15 : decode cX12_depth 15 = .ok (.getfield 66, 3) := by decide +kernel
theorem dX12_depth_18 : decode cX12_depth 18 = .ok (.iload_n 2, 1) := by decide +kernel
theorem dX12_depth_19 : decode cX12_depth 19 = .ok (.iaload, 1) := by decide +kernel
theorem dX12_depth_20 : decode cX12_depth 20 = .ok (.istore_n 2, 1) := by decide +kernel
theorem dX12_depth_21 : decode cX12_depth 21 = .ok (.goto (-14), 3) := by decide +kernel
theorem dX12_depth_24 : decode cX12_depth 24 = .ok (.iload_n 1, 1) := by decide +kernel
theorem dX12_depth_25 : decode cX12_depth 25 = .ok (.ireturn, 1) := by decide +kernel
theorem dX12_chain_0 : decode cX12_chain 0 = .ok (.iconst 0, 1) := by decide +kernel
theorem dX12_chain_1 : decode cX12_chain 1 = .ok (.istore_n 1, 1) := by decide +kernel
theorem dX12_chain_2 : decode cX12_chain 2 = .ok (.aload_n 0, 1) := by decide +kernel
theorem dX12_chain_3 : decode cX12_chain 3 = .ok (.getfield 69, 3) := by decide +kernel
theorem dX12_chain_6 : decode cX12_chain 6 = .ok (.aload_n 0, 1) := by decide +kernel
theorem dX12_chain_7 : decode cX12_chain 7 = .ok (.getfield 185, 3) := by decide +kernel
theorem dX12_chain_10 : decode cX12_chain 10 = .ok (.iaload, 1) := by decide +kernel
theorem dX12_chain_11 : decode cX12_chain 11 = .ok (.istore_n 2, 1) := by decide +kernel
theorem dX12_chain_12 : decode cX12_chain 12 = .ok (.iload_n 2, 1) := by decide +kernel
theorem dX12_chain_13 : decode cX12_chain 13 = .ok (.ifCond .eq 16, 3) := by decide +kernel
theorem dX12_chain_16 : decode cX12_chain 16 = .ok (.iinc 1 1, 3) := by decide +kernel
theorem dX12_chain_19 : decode cX12_chain 19 = .ok (.aload_n 0, 1) := by decide +kernel
theorem dX12_chain_20 : decode cX12_chain 20 = .ok (.getfield 69, 3) := by decide +kernel
theorem dX12_chain_23 : decode cX12_chain 23 = .ok (.iload_n 2, 1) := by decide +kernel
theorem dX12_chain_24 : decode cX12_chain 24 = .ok (.iaload, 1) := by decide +kernel
theorem dX12_chain_25 : decode cX12_chain 25 = .ok (.istore_n 2, 1) := by decide +kernel
theorem dX12_chain_26 : decode cX12_chain 26 = .ok (.goto (-14), 3) := by decide +kernel
theorem dX12_chain_29 : decode cX12_chain 29 = .ok (.iload_n 1, 1) := by decide +kernel
theorem dX12_chain_30 : decode cX12_chain 30 = .ok (.ireturn, 1) := by decide +kernel
theorem dX12_acts__0 : decode cX12_acts_ 0 = .ok (.iload_n 1, 1) := by decide +kernel
theorem dX12_acts__1 : decode cX12_acts_ 1 = .ok (.tableswitch 67 0 3 #[31, 40, 49, 58], 31) := by decide +kernel
theorem dX12_acts__32 : decode cX12_acts_ 32 = .ok (.aload_n 0, 1) := by decide +kernel
theorem dX12_acts__33 : decode cX12_acts_ 33 = .ok (.aload_n 0, 1) := by decide +kernel
theorem dX12_acts__34 : decode cX12_acts_ 34 = .ok (.getfield 182, 3) := by decide +kernel
theorem dX12_acts__37 : decode cX12_acts_ 37 = .ok (.invokevirtual 209, 3) := by decide +kernel
theorem dX12_acts__40 : decode cX12_acts_ 40 = .ok (.ireturn, 1) := by decide +kernel
theorem dX12_acts__41 : decode cX12_acts_ 41 = .ok (.aload_n 0, 1) := by decide +kernel
theorem dX12_acts__42 : decode cX12_acts_ 42 = .ok (.aload_n 0, 1) := by decide +kernel
theorem dX12_acts__43 : decode cX12_acts_ 43 = .ok (.invokevirtual 313, 3) := by decide +kernel
theorem dX12_acts__46 : decode cX12_acts_ 46 = .ok (.invokevirtual 209, 3) := by decide +kernel
theorem dX12_acts__49 : decode cX12_acts_ 49 = .ok (.ireturn, 1) := by decide +kernel
theorem dX12_acts__50 : decode cX12_acts_ 50 = .ok (.aload_n 0, 1) := by decide +kernel
theorem dX12_acts__51 : decode cX12_acts_ 51 = .ok (.aload_n 0, 1) := by decide +kernel
theorem dX12_acts__52 : decode cX12_acts_ 52 = .ok (.invokevirtual 316, 3) := by decide +kernel
theorem dX12_acts__55 : decode cX12_acts_ 55 = .ok (.invokevirtual 209, 3) := by decide +kernel
theorem dX12_acts__58 : decode cX12_acts_ 58 = .ok (.ireturn, 1) := by decide +kernel
theorem dX12_acts__59 : decode cX12_acts_ 59 = .ok (.aload_n 0, 1) := by decide +kernel
theorem dX12_acts__60 : decode cX12_acts_ 60 = .ok (.aload_n 0, 1) := by decide +kernel
theorem dX12_acts__61 : decode cX12_acts_ 61 = .ok (.invokevirtual 306, 3) := by decide +kernel
theorem dX12_acts__64 : decode cX12_acts_ 64 = .ok (.invokevirtual 209, 3) := by decide +kernel
theorem dX12_acts__67 : decode cX12_acts_ 67 = .ok (.ireturn, 1) := by decide +kernel
theorem dX12_acts__68 : decode cX12_acts_ 68 = .ok (.aload_n 0, 1) := by decide +kernel
theorem dX12_acts__69 : decode cX12_acts_ 69 = .ok (.iconst 1, 1) := by decide +kernel
theorem dX12_acts__70 : decode cX12_acts_ 70 = .ok (.invokevirtual 206, 3) := by decide +kernel
theorem dX12_acts__73 : decode cX12_acts_ 73 = .ok (.ireturn, 1) := by decide +kernel
theorem dX12_setCursor_0 : decode cX12_setCursor 0 = .ok (.aload_n 0, 1) := by decide +kernel
theorem dX12_setCursor_1 : decode cX12_setCursor 1 = .ok (.iload_n 1, 1) := by decide +kernel
theorem dX12_setCursor_2 : decode cX12_setCursor 2 = .ok (.invokevirtual 218, 3) := by decide +kernel
theorem dX12_setCursor_5 : decode cX12_setCursor 5 = .ok (.ifCond .ne 9, 3) := by decide +kernel
theorem dX12_setCursor_8 : decode cX12_setCursor 8 = .ok (.aload_n 0, 1) := by decide +kernel
theorem dX12_setCursor_9 : decode cX12_setCursor 9 = .ok (.iconst 1, 1) := by decide +kernel
theorem dX12_setCursor_10 : decode cX12_setCursor 10 = .ok (.invokevirtual 206, 3) := by decide +kernel
theorem dX12_setCursor_13 : decode cX12_setCursor 13 = .ok (.ireturn, 1) := by decide +kernel
theorem dX12_setCursor_14 : decode cX12_setCursor 14 = .ok (.aload_n 0, 1) := by decide +kernel
theorem dX12_setCursor_15 : decode cX12_setCursor 15 = .ok (.getfield 26, 3) := by decide +kernel
theorem dX12_setCursor_18 : decode cX12_setCursor 18 = .ok (.istore_n 2, 1) := by decide +kernel
theorem dX12_setCursor_19 : decode cX12_setCursor 19 = .ok (.aload_n 0, 1) := by decide +kernel
theorem dX12_setCursor_20 : decode cX12_setCursor 20 = .ok (.iconst 1, 1) := by decide +kernel
theorem dX12_setCursor_21 : decode cX12_setCursor 21 = .ok (.putfield 26, 3) := by decide +kernel
theorem dX12_setCursor_24 : decode cX12_setCursor 24 = .ok (.aload_n 0, 1) := by decide +kernel
theorem dX12_setCursor_25 : decode cX12_setCursor 25 = .ok (.getfield 13, 3) := by decide +kernel
theorem dX12_setCursor_28 : decode cX12_setCursor 28 = .ok (.iconst 0, 1) := by decide +kernel
theorem dX12_setCursor_29 : decode cX12_setCursor 29 = .ok (.iload_n 1, 1) := by decide +kernel
theorem dX12_setCursor_30 : decode cX12_setCursor 30 = .ok (.iastore, 1) := by decide +kernel
theorem dX12_setCursor_31 : decode cX12_setCursor 31 = .ok (.aload_n 0, 1) := by decide +kernel
theorem dX12_setCursor_32 : decode cX12_setCursor 32 = .ok (.iload_n 1, 1) := by decide +kernel
theorem dX12_setCursor_33 : decode cX12_setCursor 33 = .ok (.invokevirtual 294, 3) := by decide +kernel
theorem dX12_setCursor_36 : decode cX12_setCursor 36 = .ok (.aload_n 0, 1) := by decide +kernel
theorem dX12_setCursor_37 : decode cX12_setCursor 37 = .ok (.iload_n 2, 1) := by decide +kernel
theorem dX12_setCursor_38 : decode cX12_setCursor 38 = .ok (.invokevirtual 209, 3) := by decide +kernel
theorem dX12_setCursor_41 : decode cX12_setCursor 41 = .ok (.ireturn, 1) := by decide +kernel
theorem dX12_addCursor_0 : decode cX12_addCursor 0 = .ok (.aload_n 0, 1) := by decide +kernel
theorem dX12_addCursor_1 : decode cX12_addCursor 1 = .ok (.iload_n 1, 1) := by decide +kernel
theorem dX12_addCursor_2 : decode cX12_addCursor 2 = .ok (.invokevirtual 218, 3) := by decide +kernel
theorem dX12_addCursor_5 : decode cX12_addCursor 5 = .ok (.ifCond .ne 9, 3) := by decide +kernel
theorem dX12_addCursor_8 : decode cX12_addCursor 8 = .ok (.aload_n 0, 1) := by decide +kernel
theorem dX12_addCursor_9 : decode cX12_addCursor 9 = .ok (.iconst 1, 1) := by decide +kernel
theorem dX12_addCursor_10 : decode cX12_addCursor 10 = .ok (.invokevirtual 206, 3) := by decide +kernel
theorem dX12_addCursor_13 : decode cX12_addCursor 13 = .ok (.ireturn, 1) := by decide +kernel
theorem dX12_addCursor_14 : decode cX12_addCursor 14 = .ok (.iconst 0, 1) := by decide +kernel
theorem dX12_addCursor_15 : decode cX12_addCursor 15 = .ok (.istore_n 2, 1) := by decide +kernel
theorem dX12_addCursor_16 : decode cX12_addCursor 16 = .ok (.iconst 0, 1) := by decide +kernel
theorem dX12_addCursor_17 : decode cX12_addCursor 17 = .ok (.istore_n 3, 1) := by decide +kernel
theorem dX12_addCursor_18 : decode cX12_addCursor 18 = .ok (.iload_n 3, 1) := by decide +kernel
theorem dX12_addCursor_19 : decode cX12_addCursor 19 = .ok (.aload_n 0, 1) := by decide +kernel
theorem dX12_addCursor_20 : decode cX12_addCursor 20 = .ok (.getfield 26, 3) := by decide +kernel
theorem dX12_addCursor_23 : decode cX12_addCursor 23 = .ok (.if_icmp .ge 29, 3) := by decide +kernel
theorem dX12_addCursor_26 : decode cX12_addCursor 26 = .ok (.iload_n 2, 1) := by decide +kernel
theorem dX12_addCursor_27 : decode cX12_addCursor 27 = .ok (.ifCond .ne 13, 3) := by decide +kernel
theorem dX12_addCursor_30 : decode cX12_addCursor 30 = .ok (.aload_n 0, 1) := by decide +kernel
theorem dX12_addCursor_31 : decode cX12_addCursor 31 = .ok (.getfield 13, 3) := by decide +kernel
theorem dX12_addCursor_34 : decode cX12_addCursor 34 = .ok (.iload_n 3, 1) := by decide +kernel
theorem dX12_addCursor_35 : decode cX12_addCursor 35 = .ok (.iaload, 1) := by decide +kernel
theorem dX12_addCursor_36 : decode cX12_addCursor 36 = .ok (.iload_n 1, 1) := by decide +kernel
theorem dX12_addCursor_37 : decode cX12_addCursor 37 = .ok (.if_icmp .ne 7, 3) := by decide +kernel
theorem dX12_addCursor_40 : decode cX12_addCursor 40 = .ok (.iconst 1, 1) := by decide +kernel
theorem dX12_addCursor_41 : decode cX12_addCursor 41 = .ok (.goto 4, 3) := by decide +kernel
theorem dX12_addCursor_44 : decode cX12_addCursor 44 = .ok (.iconst 0, 1) := by decide +kernel
theorem dX12_addCursor_45 : decode cX12_addCursor 45 = .ok (.istore_n 2, 1) := by decide +kernel
theorem dX12_addCursor_46 : decode cX12_addCursor 46 = .ok (.iinc 3 1, 3) := by decide +kernel
theorem dX12_addCursor_49 : decode cX12_addCursor 49 = .ok (.goto (-31), 3) := by decide +kernel
theorem dX12_addCursor_52 : decode cX12_addCursor 52 = .ok (.iload_n 2, 1) := by decide +kernel
theorem dX12_addCursor_53 : decode cX12_addCursor 53 = .ok (.ifCond .eq 12, 3) := by decide +kernel
theorem dX12_addCursor_56 : decode cX12_addCursor 56 = .ok (.aload_n 0, 1) := by decide +kernel
theorem dX12_addCursor_57 : decode cX12_addCursor 57 = .ok (.aload_n 0, 1) := by decide +kernel
theorem dX12_addCursor_58 : decode cX12_addCursor 58 = .ok (.getfield 26, 3) := by decide +kernel
theorem dX12_addCursor_61 : decode cX12_addCursor 61 = .ok (.invokevirtual 209, 3) := by decide +kernel
theorem dX12_addCursor_64 : decode cX12_addCursor 64 = .ok (.ireturn, 1) := by decide +kernel
theorem dX12_addCursor_65 : decode cX12_addCursor 65 = .ok (.aload_n 0, 1) := by decide +kernel
theorem dX12_addCursor_66 : decode cX12_addCursor 66 = .ok (.getfield 26, 3) := by decide +kernel
theorem dX12_addCursor_69 : decode cX12_addCursor 69 = .ok (.bipush 8, 2) := by decide +kernel
theorem dX12_addCursor_71 : decode cX12_addCursor 71 = .ok (.if_icmp .ne 9, 3) := by decide +kernel
theorem dX12_addCursor_74 : decode cX12_addCursor 74 = .ok (.aload_n 0, 1) := by decide +kernel
theorem dX12_addCursor_75 : decode cX12_addCursor 75 = .ok (.iconst 2, 1) := by decide +kernel
theorem dX12_addCursor_76 : decode cX12_addCursor 76 = .ok (.invokevirtual 206, 3) := by decide +kernel
theorem dX12_addCursor_79 : decode cX12_addCursor 79 = .ok (.ireturn, 1) := by decide +kernel
theorem dX12_addCursor_80 : decode cX12_addCursor 80 = .ok (.aload_n 0, 1) := by decide +kernel
theorem dX12_addCursor_81 : decode cX12_addCursor 81 = .ok (.getfield 13, 3) := by decide +kernel
theorem dX12_addCursor_84 : decode cX12_addCursor 84 = .ok (.aload_n 0, 1) := by decide +kernel
theorem dX12_addCursor_85 : decode cX12_addCursor 85 = .ok (.getfield 26, 3) := by decide +kernel
theorem dX12_addCursor_88 : decode cX12_addCursor 88 = .ok (.iload_n 1, 1) := by decide +kernel
theorem dX12_addCursor_89 : decode cX12_addCursor 89 = .ok (.iastore, 1) := by decide +kernel
theorem dX12_addCursor_90 : decode cX12_addCursor 90 = .ok (.aload_n 0, 1) := by decide +kernel
theorem dX12_addCursor_91 : decode cX12_addCursor 91 = .ok (.dup, 1) := by decide +kernel
theorem dX12_addCursor_92 : decode cX12_addCursor 92 = .ok (.getfield 26, 3) := by decide +kernel
theorem dX12_addCursor_95 : decode cX12_addCursor 95 = .ok (.iconst 1, 1) := by decide +kernel
theorem dX12_addCursor_96 : decode cX12_addCursor 96 = .ok (.iadd, 1) := by decide +kernel
theorem dX12_addCursor_97 : decode cX12_addCursor 97 = .ok (.putfield 26, 3) := by decide +kernel
theorem dX12_addCursor_100 : decode cX12_addCursor 100 = .ok (.aload_n 0, 1) := by decide +kernel
theorem dX12_addCursor_101 : decode cX12_addCursor 101 = .ok (.invokevirtual 197, 3) := by decide +kernel
theorem dX12_addCursor_104 : decode cX12_addCursor 104 = .ok (.aload_n 0, 1) := by decide +kernel
theorem dX12_addCursor_105 : decode cX12_addCursor 105 = .ok (.iload_n 1, 1) := by decide +kernel
theorem dX12_addCursor_106 : decode cX12_addCursor 106 = .ok (.invokevirtual 294, 3) := by decide +kernel
theorem dX12_addCursor_109 : decode cX12_addCursor 109 = .ok (.aload_n 0, 1) := by decide +kernel
theorem dX12_addCursor_110 : decode cX12_addCursor 110 = .ok (.aload_n 0, 1) := by decide +kernel
theorem dX12_addCursor_111 : decode cX12_addCursor 111 = .ok (.getfield 26, 3) := by decide +kernel
theorem dX12_addCursor_114 : decode cX12_addCursor 114 = .ok (.invokevirtual 209, 3) := by decide +kernel
theorem dX12_addCursor_117 : decode cX12_addCursor 117 = .ok (.ireturn, 1) := by decide +kernel
theorem dX12_visibleFrom_0 : decode cX12_visibleFrom 0 = .ok (.iload_n 1, 1) := by decide +kernel
theorem dX12_visibleFrom_1 : decode cX12_visibleFrom 1 = .ok (.istore_n 3, 1) := by decide +kernel
theorem dX12_visibleFrom_2 : decode cX12_visibleFrom 2 = .ok (.iload_n 2, 1) := by decide +kernel
theorem dX12_visibleFrom_3 : decode cX12_visibleFrom 3 = .ok (.ifCond .ge 8, 3) := by decide +kernel
theorem dX12_visibleFrom_6 : decode cX12_visibleFrom 6 = .ok (.iload_n 2, 1) := by decide +kernel
theorem dX12_visibleFrom_7 : decode cX12_visibleFrom 7 = .ok (.ineg, 1) := by decide +kernel
theorem dX12_visibleFrom_8 : decode cX12_visibleFrom 8 = .ok (.goto 4, 3) := by decide +kernel
theorem dX12_visibleFrom_11 : decode cX12_visibleFrom 11 = .ok (.iload_n 2, 1) := by decide +kernel
theorem dX12_visibleFrom_12 : decode cX12_visibleFrom 12 = .ok (.istore 4, 2) := by decide +kernel
theorem dX12_visibleFrom_14 : decode cX12_visibleFrom 14 = .ok (.iload_n 2, 1) := by decide +kernel
theorem dX12_visibleFrom_15 : decode cX12_visibleFrom 15 = .ok (.ifCond .ge 7, 3) := by decide +kernel
theorem dX12_visibleFrom_18 : decode cX12_visibleFrom 18 = .ok (.iconst (-1), 1) := by decide +kernel
theorem dX12_visibleFrom_19 : decode cX12_visibleFrom 19 = .ok (.goto 4, 3) := by decide +kernel
theorem dX12_visibleFrom_22 : decode cX12_visibleFrom 22 = .ok (.iconst 1, 1) := by decide +kernel
theorem dX12_visibleFrom_23 : decode cX12_visibleFrom 23 = .ok (.istore 5, 2) := by decide +kernel
theorem dX12_visibleFrom_25 : decode cX12_visibleFrom 25 = .ok (.aload_n 0, 1) := by decide +kernel
theorem dX12_visibleFrom_26 : decode cX12_visibleFrom 26 = .ok (.invokevirtual 141, 3) := by decide +kernel
theorem dX12_visibleFrom_29 : decode cX12_visibleFrom 29 = .ok (.istore 6, 2) := by decide +kernel
theorem dX12_visibleFrom_31 : decode cX12_visibleFrom 31 = .ok (.iload_n 1, 1) := by decide +kernel
theorem dX12_visibleFrom_32 : decode cX12_visibleFrom 32 = .ok (.iload 5, 2) := by decide +kernel
theorem dX12_visibleFrom_34 : decode cX12_visibleFrom 34 = .ok (.iadd, 1) := by decide +kernel
theorem dX12_visibleFrom_35 : decode cX12_visibleFrom 35 = .ok (.istore 7, 2) := by decide +kernel
theorem dX12_visibleFrom_37 : decode cX12_visibleFrom 37 = .ok (.iload 4, 2) := by decide +kernel
theorem dX12_visibleFrom_39 : decode cX12_visibleFrom 39 = .ok (.ifCond .le 42, 3) := by decide +kernel
theorem dX12_visibleFrom_42 : decode cX12_visibleFrom 42 = .ok (.iload 7, 2) := by decide +kernel
theorem dX12_visibleFrom_44 : decode cX12_visibleFrom 44 = .ok (.iconst 0, 1) := by decide +kernel
theorem dX12_visibleFrom_45 : decode cX12_visibleFrom 45 = .ok (.iload 6, 2) := by decide +kernel
theorem dX12_visibleFrom_47 : decode cX12_visibleFrom 47 = .ok (.iconst 1, 1) := by decide +kernel
theorem dX12_visibleFrom_48 : decode cX12_visibleFrom 48 = .ok (.isub, 1) := by decide +kernel
theorem dX12_visibleFrom_49 : decode cX12_visibleFrom 49 = .ok (.invokestatic 134, 3) := by decide +kernel
theorem dX12_visibleFrom_52 : decode cX12_visibleFrom 52 = .ok (.ifCond .eq 29, 3) := by decide +kernel
theorem dX12_visibleFrom_55 : decode cX12_visibleFrom 55 = .ok (.aload_n 0, 1) := by decide +kernel
theorem dX12_visibleFrom_56 : decode cX12_visibleFrom 56 = .ok (.getfield 23, 3) := by decide +kernel
theorem dX12_visibleFrom_59 : decode cX12_visibleFrom 59 = .ok (.iload 7, 2) := by decide +kernel
theorem dX12_visibleFrom_61 : decode cX12_visibleFrom 61 = .ok (.baload, 1) := by decide +kernel
theorem dX12_visibleFrom_62 : decode cX12_visibleFrom 62 = .ok (.ifCond .ne 9, 3) := by decide +kernel
theorem dX12_visibleFrom_65 : decode cX12_visibleFrom 65 = .ok (.iload 7, 2) := by decide +kernel
theorem dX12_visibleFrom_67 : decode cX12_visibleFrom 67 = .ok (.istore_n 3, 1) := by decide +kernel
theorem dX12_visibleFrom_68 : decode cX12_visibleFrom 68 = .ok (.iinc 4 (-1), 3) := by decide +kernel
theorem dX12_visibleFrom_71 : decode cX12_visibleFrom 71 = .ok (.iload 7, 2) := by decide +kernel
theorem dX12_visibleFrom_73 : decode cX12_visibleFrom 73 = .ok (.iload 5, 2) := by decide +kernel
theorem dX12_visibleFrom_75 : decode cX12_visibleFrom 75 = .ok (.iadd, 1) := by decide +kernel
theorem dX12_visibleFrom_76 : decode cX12_visibleFrom 76 = .ok (.istore 7, 2) := by decide +kernel
theorem dX12_visibleFrom_78 : decode cX12_visibleFrom 78 = .ok (.goto (-41), 3) := by decide +kernel
theorem dX12_visibleFrom_81 : decode cX12_visibleFrom 81 = .ok (.iload_n 3, 1) := by decide +kernel
theorem dX12_visibleFrom_82 : decode cX12_visibleFrom 82 = .ok (.ireturn, 1) := by decide +kernel
theorem dX12_wordFrom_0 : decode cX12_wordFrom 0 = .ok (.iload_n 1, 1) := by decide +kernel
theorem dX12_wordFrom_1 : decode cX12_wordFrom 1 = .ok (.istore_n 3, 1) := by decide +kernel
theorem dX12_wordFrom_2 : decode cX12_wordFrom 2 = .ok (.iload_n 2, 1) := by decide +kernel
theorem dX12_wordFrom_3 : decode cX12_wordFrom 3 = .ok (.ifCond .eq 7, 3) := by decide +kernel
theorem dX12_wordFrom_6 : decode cX12_wordFrom 6 = .ok (.iconst 1, 1) := by decide +kernel
theorem dX12_wordFrom_7 : decode cX12_wordFrom 7 = .ok (.goto 4, 3) := by decide +kernel
theorem dX12_wordFrom_10 : decode cX12_wordFrom 10 = .ok (.iconst (-1), 1) := by decide +kernel
theorem dX12_wordFrom_11 : decode cX12_wordFrom 11 = .ok (.istore 4, 2) := by decide +kernel
theorem dX12_wordFrom_13 : decode cX12_wordFrom 13 = .ok (.iload_n 2, 1) := by decide +kernel
theorem dX12_wordFrom_14 : decode cX12_wordFrom 14 = .ok (.ifCond .eq 7, 3) := by decide +kernel
theorem dX12_wordFrom_17 : decode cX12_wordFrom 17 = .ok (.iconst 0, 1) := by decide +kernel
theorem dX12_wordFrom_18 : decode cX12_wordFrom 18 = .ok (.goto 4, 3) := by decide +kernel
theorem dX12_wordFrom_21 : decode cX12_wordFrom 21 = .ok (.iconst (-1), 1) := by decide +kernel
theorem dX12_wordFrom_22 : decode cX12_wordFrom 22 = .ok (.istore 5, 2) := by decide +kernel
theorem dX12_wordFrom_24 : decode cX12_wordFrom 24 = .ok (.iload_n 3, 1) := by decide +kernel
theorem dX12_wordFrom_25 : decode cX12_wordFrom 25 = .ok (.iload 5, 2) := by decide +kernel
theorem dX12_wordFrom_27 : decode cX12_wordFrom 27 = .ok (.iadd, 1) := by decide +kernel
theorem dX12_wordFrom_28 : decode cX12_wordFrom 28 = .ok (.iconst 0, 1) := by decide +kernel
theorem dX12_wordFrom_29 : decode cX12_wordFrom 29 = .ok (.aload_n 0, 1) := by decide +kernel
theorem dX12_wordFrom_30 : decode cX12_wordFrom 30 = .ok (.getfield 138, 3) := by decide +kernel
theorem dX12_wordFrom_33 : decode cX12_wordFrom 33 = .ok (.iconst 1, 1) := by decide +kernel
theorem dX12_wordFrom_34 : decode cX12_wordFrom 34 = .ok (.isub, 1) := by decide +kernel
theorem dX12_wordFrom_35 : decode cX12_wordFrom 35 = .ok (.invokestatic 134, 3) := by decide +kernel
theorem dX12_wordFrom_38 : decode cX12_wordFrom 38 = .ok (.ifCond .eq 26, 3) := by decide +kernel
theorem dX12_wordFrom_41 : decode cX12_wordFrom 41 = .ok (.aload_n 0, 1) := by decide +kernel
theorem dX12_wordFrom_42 : decode cX12_wordFrom 42 = .ok (.getfield 7, 3) := by decide +kernel
theorem dX12_wordFrom_45 : decode cX12_wordFrom 45 = .ok (.iload_n 3, 1) := by decide +kernel
theorem dX12_wordFrom_46 : decode cX12_wordFrom 46 = .ok (.iload 5, 2) := by decide +kernel
theorem dX12_wordFrom_48 : decode cX12_wordFrom 48 = .ok (.iadd, 1) := by decide +kernel
theorem dX12_wordFrom_49 : decode cX12_wordFrom 49 = .ok (.iaload, 1) := by decide +kernel
theorem dX12_wordFrom_50 : decode cX12_wordFrom 50 = .ok (.invokestatic 285, 3) := by decide +kernel
theorem dX12_wordFrom_53 : decode cX12_wordFrom 53 = .ok (.ifCond .ne 11, 3) := by decide +kernel
theorem dX12_wordFrom_56 : decode cX12_wordFrom 56 = .ok (.iload_n 3, 1) := by decide +kernel
theorem dX12_wordFrom_57 : decode cX12_wordFrom 57 = .ok (.iload 4, 2) := by decide +kernel
theorem dX12_wordFrom_59 : decode cX12_wordFrom 59 = .ok (.iadd, 1) := by decide +kernel
theorem dX12_wordFrom_60 : decode cX12_wordFrom 60 = .ok (.istore_n 3, 1) := by decide +kernel
theorem dX12_wordFrom_61 : decode cX12_wordFrom 61 = .ok (.goto (-37), 3) := by decide +kernel
theorem dX12_wordFrom_64 : decode cX12_wordFrom 64 = .ok (.iload_n 3, 1) := by decide +kernel
theorem dX12_wordFrom_65 : decode cX12_wordFrom 65 = .ok (.iload 5, 2) := by decide +kernel
theorem dX12_wordFrom_67 : decode cX12_wordFrom 67 = .ok (.iadd, 1) := by decide +kernel
theorem dX12_wordFrom_68 : decode cX12_wordFrom 68 = .ok (.iconst 0, 1) := by decide +kernel
theorem dX12_wordFrom_69 : decode cX12_wordFrom 69 = .ok (.aload_n 0, 1) := by decide +kernel
theorem dX12_wordFrom_70 : decode cX12_wordFrom 70 = .ok (.getfield 138, 3) := by decide +kernel
theorem dX12_wordFrom_73 : decode cX12_wordFrom 73 = .ok (.iconst 1, 1) := by decide +kernel
theorem dX12_wordFrom_74 : decode cX12_wordFrom 74 = .ok (.isub, 1) := by decide +kernel
theorem dX12_wordFrom_75 : decode cX12_wordFrom 75 = .ok (.invokestatic 134, 3) := by decide +kernel
theorem dX12_wordFrom_78 : decode cX12_wordFrom 78 = .ok (.ifCond .eq 26, 3) := by decide +kernel
theorem dX12_wordFrom_81 : decode cX12_wordFrom 81 = .ok (.aload_n 0, 1) := by decide +kernel
theorem dX12_wordFrom_82 : decode cX12_wordFrom 82 = .ok (.getfield 7, 3) := by decide +kernel
theorem dX12_wordFrom_85 : decode cX12_wordFrom 85 = .ok (.iload_n 3, 1) := by decide +kernel
theorem dX12_wordFrom_86 : decode cX12_wordFrom 86 = .ok (.iload 5, 2) := by decide +kernel
theorem dX12_wordFrom_88 : decode cX12_wordFrom 88 = .ok (.iadd, 1) := by decide +kernel
theorem dX12_wordFrom_89 : decode cX12_wordFrom 89 = .ok (.iaload, 1) := by decide +kernel
theorem dX12_wordFrom_90 : decode cX12_wordFrom 90 = .ok (.invokestatic 285, 3) := by decide +kernel
theorem dX12_wordFrom_93 : decode cX12_wordFrom 93 = .ok (.ifCond .eq 11, 3) := by decide +kernel
theorem dX12_wordFrom_96 : decode cX12_wordFrom 96 = .ok (.iload_n 3, 1) := by decide +kernel
theorem dX12_wordFrom_97 : decode cX12_wordFrom 97 = .ok (.iload 4, 2) := by decide +kernel
theorem dX12_wordFrom_99 : decode cX12_wordFrom 99 = .ok (.iadd, 1) := by decide +kernel
theorem dX12_wordFrom_100 : decode cX12_wordFrom 100 = .ok (.istore_n 3, 1) := by decide +kernel
theorem dX12_wordFrom_101 : decode cX12_wordFrom 101 = .ok (.goto (-37), 3) := by decide +kernel
theorem dX12_wordFrom_104 : decode cX12_wordFrom 104 = .ok (.iload_n 3, 1) := by decide +kernel
theorem dX12_wordFrom_105 : decode cX12_wordFrom 105 = .ok (.ireturn, 1) := by decide +kernel
theorem dX12_paragraphFrom_0 : decode cX12_paragraphFrom 0 = .ok (.iconst 0, 1) := by decide +kernel
theorem dX12_paragraphFrom_1 : decode cX12_paragraphFrom 1 = .ok (.istore_n 3, 1) := by decide +kernel
theorem dX12_paragraphFrom_2 : decode cX12_paragraphFrom 2 = .ok (.iconst 0, 1) := by decide +kernel
theorem dX12_paragraphFrom_3 : decode cX12_paragraphFrom 3 = .ok (.istore 4, 2) := by decide +kernel
theorem dX12_paragraphFrom_5 : decode cX12_paragraphFrom 5 = .ok (.iconst 1, 1) := by decide +kernel
theorem dX12_paragraphFrom_6 : decode cX12_paragraphFrom 6 = .ok (.istore 5, 2) := by decide +kernel
theorem dX12_paragraphFrom_8 : decode cX12_paragraphFrom 8 = .ok (.iload 4, 2) := by decide +kernel
theorem dX12_paragraphFrom_10 : decode cX12_paragraphFrom 10 = .ok (.aload_n 0, 1) := by decide +kernel
theorem dX12_paragraphFrom_11 : decode cX12_paragraphFrom 11 = .ok (.getfield 138, 3) := by decide +kernel
theorem dX12_paragraphFrom_14 : decode cX12_paragraphFrom 14 = .ok (.if_icmp .gt 111, 3) := by decide +kernel
theorem dX12_paragraphFrom_17 : decode cX12_paragraphFrom 17 = .ok (.iconst 1, 1) := by decide +kernel
theorem dX12_paragraphFrom_18 : decode cX12_paragraphFrom 18 = .ok (.istore 6, 2) := by decide +kernel
theorem dX12_paragraphFrom_20 : decode cX12_paragraphFrom 20 = .ok (.iload 4, 2) := by decide +kernel
theorem dX12_paragraphFrom_22 : decode cX12_paragraphFrom 22 = .ok (.istore 7, 2) := by decide +kernel
theorem dX12_paragraphFrom_24 : decode cX12_paragraphFrom 24 = .ok (.iload 7, 2) := by decide +kernel
theorem dX12_paragraphFrom_26 : decode cX12_paragraphFrom 26 = .ok (.aload_n 0, 1) := by decide +kernel
theorem dX12_paragraphFrom_27 : decode cX12_paragraphFrom 27 = .ok (.getfield 138, 3) := by decide +kernel
theorem dX12_paragraphFrom_30 : decode cX12_paragraphFrom 30 = .ok (.if_icmp .ge 46, 3) := by decide +kernel
theorem dX12_paragraphFrom_33 : decode cX12_paragraphFrom 33 = .ok (.aload_n 0, 1) := by decide +kernel
theorem dX12_paragraphFrom_34 : decode cX12_paragraphFrom 34 = .ok (.getfield 7, 3) := by decide +kernel
theorem dX12_paragraphFrom_37 : decode cX12_paragraphFrom 37 = .ok (.iload 7, 2) := by decide +kernel
theorem dX12_paragraphFrom_39 : decode cX12_paragraphFrom 39 = .ok (.iaload, 1) := by decide +kernel
theorem dX12_paragraphFrom_40 : decode cX12_paragraphFrom 40 = .ok (.bipush 10, 2) := by decide +kernel
theorem dX12_paragraphFrom_42 : decode cX12_paragraphFrom 42 = .ok (.if_icmp .eq 34, 3) := by decide +kernel
theorem dX12_paragraphFrom_45 : decode cX12_paragraphFrom 45 = .ok (.iload 6, 2) := by decide +kernel
theorem dX12_paragraphFrom_47 : decode cX12_paragraphFrom 47 = .ok (.ifCond .eq 20, 3) := by decide +kernel
theorem dX12_paragraphFrom_50 : decode cX12_paragraphFrom 50 = .ok (.aload_n 0, 1) := by decide +kernel
theorem dX12_paragraphFrom_51 : decode cX12_paragraphFrom 51 = .ok (.getfield 7, 3) := by decide +kernel
theorem dX12_paragraphFrom_54 : decode cX12_paragraphFrom 54 = .ok (.iload 7, 2) := by decide +kernel
theorem dX12_paragraphFrom_56 : decode cX12_paragraphFrom 56 = .ok (.iaload, 1) := by decide +kernel
theorem dX12_paragraphFrom_57 : decode cX12_paragraphFrom 57 = .ok (.invokestatic 276, 3) := by decide +kernel
theorem dX12_paragraphFrom_60 : decode cX12_paragraphFrom 60 = .ok (.ifCond .eq 7, 3) := by decide +kernel
theorem dX12_paragraphFrom_63 : decode cX12_paragraphFrom 63 = .ok (.iconst 1, 1) := by decide +kernel
theorem dX12_paragraphFrom_64 : decode cX12_paragraphFrom 64 = .ok (.goto 4, 3) := by decide +kernel
theorem dX12_paragraphFrom_67 : decode cX12_paragraphFrom 67 = .ok (.iconst 0, 1) := by decide +kernel
theorem dX12_paragraphFrom_68 : decode cX12_paragraphFrom 68 = .ok (.istore 6, 2) := by decide +kernel
theorem dX12_paragraphFrom_70 : decode cX12_paragraphFrom 70 = .ok (.iinc 7 1, 3) := by decide +kernel
theorem dX12_paragraphFrom_73 : decode cX12_paragraphFrom 73 = .ok (.goto (-49), 3) := by decide +kernel
theorem dX12_paragraphFrom_76 : decode cX12_paragraphFrom 76 = .ok (.iload 6, 2) := by decide +kernel
theorem dX12_paragraphFrom_78 : decode cX12_paragraphFrom 78 = .ok (.ifCond .ne 34, 3) := by decide +kernel
theorem dX12_paragraphFrom_81 : decode cX12_paragraphFrom 81 = .ok (.iload 5, 2) := by decide +kernel
theorem dX12_paragraphFrom_83 : decode cX12_paragraphFrom 83 = .ok (.ifCond .eq 29, 3) := by decide +kernel
theorem dX12_paragraphFrom_86 : decode cX12_paragraphFrom 86 = .ok (.iload_n 2, 1) := by decide +kernel
theorem dX12_paragraphFrom_87 : decode cX12_paragraphFrom 87 = .ok (.ifCond .eq 12, 3) := by decide +kernel
theorem dX12_paragraphFrom_90 : decode cX12_paragraphFrom 90 = .ok (.iload 4, 2) := by decide +kernel
theorem dX12_paragraphFrom_92 : decode cX12_paragraphFrom 92 = .ok (.iload_n 1, 1) := by decide +kernel
theorem dX12_paragraphFrom_93 : decode cX12_paragraphFrom 93 = .ok (.if_icmp .le 6, 3) := by decide +kernel
theorem dX12_paragraphFrom_96 : decode cX12_paragraphFrom 96 = .ok (.iload 4, 2) := by decide +kernel
theorem dX12_paragraphFrom_98 : decode cX12_paragraphFrom 98 = .ok (.ireturn, 1) := by decide +kernel
theorem dX12_paragraphFrom_99 : decode cX12_paragraphFrom 99 = .ok (.iload 4, 2) := by decide +kernel
theorem dX12_paragraphFrom_101 : decode cX12_paragraphFrom 101 = .ok (.iload_n 1, 1) := by decide +kernel
theorem dX12_paragraphFrom_102 : decode cX12_paragraphFrom 102 = .ok (.if_icmp .ge 8, 3) := by decide +kernel
theorem dX12_paragraphFrom_105 : decode cX12_paragraphFrom 105 = .ok (.iload 4, 2) := by decide +kernel
theorem dX12_paragraphFrom_107 : decode cX12_paragraphFrom 107 = .ok (.goto 4, 3) := by decide +kernel
theorem dX12_paragraphFrom_110 : decode cX12_paragraphFrom 110 = .ok (.iload_n 3, 1) := by decide +kernel
theorem dX12_paragraphFrom_111 : decode cX12_paragraphFrom 111 = .ok (.istore_n 3, 1) := by decide +kernel
theorem dX12_paragraphFrom_112 : decode cX12_paragraphFrom 112 = .ok (.iload 6, 2) := by decide +kernel
theorem dX12_paragraphFrom_114 : decode cX12_paragraphFrom 114 = .ok (.istore 5, 2) := by decide +kernel
theorem dX12_paragraphFrom_116 : decode cX12_paragraphFrom 116 = .ok (.iload 7, 2) := by decide +kernel
theorem dX12_paragraphFrom_118 : decode cX12_paragraphFrom 118 = .ok (.iconst 1, 1) := by decide +kernel
theorem dX12_paragraphFrom_119 : decode cX12_paragraphFrom 119 = .ok (.iadd, 1) := by decide +kernel
theorem dX12_paragraphFrom_120 : decode cX12_paragraphFrom 120 = .ok (.istore 4, 2) := by decide +kernel
theorem dX12_paragraphFrom_122 : decode cX12_paragraphFrom 122 = .ok (.goto (-114), 3) := by decide +kernel
theorem dX12_paragraphFrom_125 : decode cX12_paragraphFrom 125 = .ok (.iload_n 2, 1) := by decide +kernel
theorem dX12_paragraphFrom_126 : decode cX12_paragraphFrom 126 = .ok (.ifCond .eq 10, 3) := by decide +kernel
theorem dX12_paragraphFrom_129 : decode cX12_paragraphFrom 129 = .ok (.aload_n 0, 1) := by decide +kernel
theorem dX12_paragraphFrom_130 : decode cX12_paragraphFrom 130 = .ok (.getfield 138, 3) := by decide +kernel
theorem dX12_paragraphFrom_133 : decode cX12_paragraphFrom 133 = .ok (.goto 4, 3) := by decide +kernel
theorem dX12_paragraphFrom_136 : decode cX12_paragraphFrom 136 = .ok (.iload_n 3, 1) := by decide +kernel
theorem dX12_paragraphFrom_137 : decode cX12_paragraphFrom 137 = .ok (.ireturn, 1) := by decide +kernel
theorem dX12_movedCursor_0 : decode cX12_movedCursor 0 = .ok (.iload_n 2, 1) := by decide +kernel
theorem dX12_movedCursor_1 : decode cX12_movedCursor 1 = .ok (.ifCond .ne 18, 3) := by decide +kernel
theorem dX12_movedCursor_4 : decode cX12_movedCursor 4 = .ok (.iconst 0, 1) := by decide +kernel
theorem dX12_movedCursor_5 : decode cX12_movedCursor 5 = .ok (.aload_n 0, 1) := by decide +kernel
theorem dX12_movedCursor_6 : decode cX12_movedCursor 6 = .ok (.getfield 138, 3) := by decide +kernel
theorem dX12_movedCursor_9 : decode cX12_movedCursor 9 = .ok (.iload_n 1, 1) := by decide +kernel
theorem dX12_movedCursor_10 : decode cX12_movedCursor 10 = .ok (.iload_n 3, 1) := by decide +kernel
theorem dX12_movedCursor_11 : decode cX12_movedCursor 11 = .ok (.iadd, 1) := by decide +kernel
theorem dX12_movedCursor_12 : decode cX12_movedCursor 12 = .ok (.invokestatic 261, 3) := by decide +kernel
theorem dX12_movedCursor_15 : decode cX12_movedCursor 15 = .ok (.invokestatic 257, 3) := by decide +kernel
theorem dX12_movedCursor_18 : decode cX12_movedCursor 18 = .ok (.ireturn, 1) := by decide +kernel
theorem dX12_movedCursor_19 : decode cX12_movedCursor 19 = .ok (.iload_n 2, 1) := by decide +kernel
theorem dX12_movedCursor_20 : decode cX12_movedCursor 20 = .ok (.iconst 1, 1) := by decide +kernel
theorem dX12_movedCursor_21 : decode cX12_movedCursor 21 = .ok (.if_icmp .ne 42, 3) := by decide +kernel
theorem dX12_movedCursor_24 : decode cX12_movedCursor 24 = .ok (.aload_n 0, 1) := by decide +kernel
theorem dX12_movedCursor_25 : decode cX12_movedCursor 25 = .ok (.iload_n 1, 1) := by decide +kernel
theorem dX12_movedCursor_26 : decode cX12_movedCursor 26 = .ok (.invokevirtual 149, 3) := by decide +kernel
theorem dX12_movedCursor_29 : decode cX12_movedCursor 29 = .ok (.istore 4, 2) := by decide +kernel
theorem dX12_movedCursor_31 : decode cX12_movedCursor 31 = .ok (.aload_n 0, 1) := by decide +kernel
theorem dX12_movedCursor_32 : decode cX12_movedCursor 32 = .ok (.iload 4, 2) := by decide +kernel
theorem dX12_movedCursor_34 : decode cX12_movedCursor 34 = .ok (.iload_n 3, 1) := by decide +kernel
theorem dX12_movedCursor_35 : decode cX12_movedCursor 35 = .ok (.invokevirtual 319, 3) := by decide +kernel
theorem dX12_movedCursor_38 : decode cX12_movedCursor 38 = .ok (.istore 5, 2) := by decide +kernel
theorem dX12_movedCursor_40 : decode cX12_movedCursor 40 = .ok (.iload 5, 2) := by decide +kernel
theorem dX12_movedCursor_42 : decode cX12_movedCursor 42 = .ok (.iload 4, 2) := by decide +kernel
theorem dX12_movedCursor_44 : decode cX12_movedCursor 44 = .ok (.if_icmp .ne 7, 3) := by decide +kernel
theorem dX12_movedCursor_47 : decode cX12_movedCursor 47 = .ok (.iload_n 1, 1) := by decide +kernel
theorem dX12_movedCursor_48 : decode cX12_movedCursor 48 = .ok (.goto 14, 3) := by decide +kernel
theorem dX12_movedCursor_51 : decode cX12_movedCursor 51 = .ok (.aload_n 0, 1) := by decide +kernel
theorem dX12_movedCursor_52 : decode cX12_movedCursor 52 = .ok (.iload 5, 2) := by decide +kernel
theorem dX12_movedCursor_54 : decode cX12_movedCursor 54 = .ok (.aload_n 0, 1) := by decide +kernel
theorem dX12_movedCursor_55 : decode cX12_movedCursor 55 = .ok (.iload_n 1, 1) := by decide +kernel
theorem dX12_movedCursor_56 : decode cX12_movedCursor 56 = .ok (.invokevirtual 322, 3) := by decide +kernel
theorem dX12_movedCursor_59 : decode cX12_movedCursor 59 = .ok (.invokevirtual 325, 3) := by decide +kernel
theorem dX12_movedCursor_62 : decode cX12_movedCursor 62 = .ok (.ireturn, 1) := by decide +kernel
theorem dX12_movedCursor_63 : decode cX12_movedCursor 63 = .ok (.iload_n 2, 1) := by decide +kernel
theorem dX12_movedCursor_64 : decode cX12_movedCursor 64 = .ok (.iconst 3, 1) := by decide +kernel
theorem dX12_movedCursor_65 : decode cX12_movedCursor 65 = .ok (.if_icmp .ne 37, 3) := by decide +kernel
theorem dX12_movedCursor_68 : decode cX12_movedCursor 68 = .ok (.iload_n 3, 1) := by decide +kernel
theorem dX12_movedCursor_69 : decode cX12_movedCursor 69 = .ok (.ifCond .ge 15, 3) := by decide +kernel
theorem dX12_movedCursor_72 : decode cX12_movedCursor 72 = .ok (.aload_n 0, 1) := by decide +kernel
theorem dX12_movedCursor_73 : decode cX12_movedCursor 73 = .ok (.aload_n 0, 1) := by decide +kernel
theorem dX12_movedCursor_74 : decode cX12_movedCursor 74 = .ok (.iload_n 1, 1) := by decide +kernel
theorem dX12_movedCursor_75 : decode cX12_movedCursor 75 = .ok (.invokevirtual 149, 3) := by decide +kernel
theorem dX12_movedCursor_78 : decode cX12_movedCursor 78 = .ok (.invokevirtual 145, 3) := by decide +kernel
theorem dX12_movedCursor_81 : decode cX12_movedCursor 81 = .ok (.goto 20, 3) := by decide +kernel
theorem dX12_movedCursor_84 : decode cX12_movedCursor 84 = .ok (.iload_n 3, 1) := by decide +kernel
theorem dX12_movedCursor_85 : decode cX12_movedCursor 85 = .ok (.ifCond .le 15, 3) := by decide +kernel
theorem dX12_movedCursor_88 : decode cX12_movedCursor 88 = .ok (.aload_n 0, 1) := by decide +kernel
theorem dX12_movedCursor_89 : decode cX12_movedCursor 89 = .ok (.aload_n 0, 1) := by decide +kernel
theorem dX12_movedCursor_90 : decode cX12_movedCursor 90 = .ok (.iload_n 1, 1) := by decide +kernel
theorem dX12_movedCursor_91 : decode cX12_movedCursor 91 = .ok (.invokevirtual 149, 3) := by decide +kernel
theorem dX12_movedCursor_94 : decode cX12_movedCursor 94 = .ok (.invokevirtual 228, 3) := by decide +kernel
theorem dX12_movedCursor_97 : decode cX12_movedCursor 97 = .ok (.goto 4, 3) := by decide +kernel
theorem dX12_movedCursor_100 : decode cX12_movedCursor 100 = .ok (.iload_n 1, 1) := by decide +kernel
theorem dX12_movedCursor_101 : decode cX12_movedCursor 101 = .ok (.ireturn, 1) := by decide +kernel
theorem dX12_movedCursor_102 : decode cX12_movedCursor 102 = .ok (.iload_n 1, 1) := by decide +kernel
theorem dX12_movedCursor_103 : decode cX12_movedCursor 103 = .ok (.istore 4, 2) := by decide +kernel
theorem dX12_movedCursor_105 : decode cX12_movedCursor 105 = .ok (.iload_n 3, 1) := by decide +kernel
theorem dX12_movedCursor_106 : decode cX12_movedCursor 106 = .ok (.ifCond .ge 8, 3) := by decide +kernel
theorem dX12_movedCursor_109 : decode cX12_movedCursor 109 = .ok (.iload_n 3, 1) := by decide +kernel
theorem dX12_movedCursor_110 : decode cX12_movedCursor 110 = .ok (.ineg, 1) := by decide +kernel
theorem dX12_movedCursor_111 : decode cX12_movedCursor 111 = .ok (.goto 4, 3) := by decide +kernel
theorem dX12_movedCursor_114 : decode cX12_movedCursor 114 = .ok (.iload_n 3, 1) := by decide +kernel
theorem dX12_movedCursor_115 : decode cX12_movedCursor 115 = .ok (.istore 5, 2) := by decide +kernel
theorem dX12_movedCursor_117 : decode cX12_movedCursor 117 = .ok (.iconst 0, 1) := by decide +kernel
theorem dX12_movedCursor_118 : decode cX12_movedCursor 118 = .ok (.istore 6, 2) := by decide +kernel
theorem dX12_movedCursor_120 : decode cX12_movedCursor 120 = .ok (.iload 6, 2) := by decide +kernel
theorem dX12_movedCursor_122 : decode cX12_movedCursor 122 = .ok (.iload 5, 2) := by decide +kernel
theorem dX12_movedCursor_124 : decode cX12_movedCursor 124 = .ok (.if_icmp .ge 49, 3) := by decide +kernel
theorem dX12_movedCursor_127 : decode cX12_movedCursor 127 = .ok (.iload_n 2, 1) := by decide +kernel
theorem dX12_movedCursor_128 : decode cX12_movedCursor 128 = .ok (.iconst 2, 1) := by decide +kernel
theorem dX12_movedCursor_129 : decode cX12_movedCursor 129 = .ok (.if_icmp .ne 21, 3) := by decide +kernel
theorem dX12_movedCursor_132 : decode cX12_movedCursor 132 = .ok (.aload_n 0, 1) := by decide +kernel
theorem dX12_movedCursor_133 : decode cX12_movedCursor 133 = .ok (.iload 4, 2) := by decide +kernel
theorem dX12_movedCursor_135 : decode cX12_movedCursor 135 = .ok (.iload_n 3, 1) := by decide +kernel
theorem dX12_movedCursor_136 : decode cX12_movedCursor 136 = .ok (.ifCond .le 7, 3) := by decide +kernel
theorem dX12_movedCursor_139 : decode cX12_movedCursor 139 = .ok (.iconst 1, 1) := by decide +kernel
theorem dX12_movedCursor_140 : decode cX12_movedCursor 140 = .ok (.goto 4, 3) := by decide +kernel
theorem dX12_movedCursor_143 : decode cX12_movedCursor 143 = .ok (.iconst 0, 1) := by decide +kernel
theorem dX12_movedCursor_144 : decode cX12_movedCursor 144 = .ok (.invokevirtual 328, 3) := by decide +kernel
theorem dX12_movedCursor_147 : decode cX12_movedCursor 147 = .ok (.goto 18, 3) := by decide +kernel
theorem dX12_movedCursor_150 : decode cX12_movedCursor 150 = .ok (.aload_n 0, 1) := by decide +kernel
theorem dX12_movedCursor_151 : decode cX12_movedCursor 151 = .ok (.iload 4, 2) := by decide +kernel
theorem dX12_movedCursor_153 : decode cX12_movedCursor 153 = .ok (.iload_n 3, 1) := by decide +kernel
theorem dX12_movedCursor_154 : decode cX12_movedCursor 154 = .ok (.ifCond .le 7, 3) := by decide +kernel
theorem dX12_movedCursor_157 : decode cX12_movedCursor 157 = .ok (.iconst 1, 1) := by decide +kernel
theorem dX12_movedCursor_158 : decode cX12_movedCursor 158 = .ok (.goto 4, 3) := by decide +kernel
theorem dX12_movedCursor_161 : decode cX12_movedCursor 161 = .ok (.iconst 0, 1) := by decide +kernel
theorem dX12_movedCursor_162 : decode cX12_movedCursor 162 = .ok (.invokevirtual 332, 3) := by decide +kernel
theorem dX12_movedCursor_165 : decode cX12_movedCursor 165 = .ok (.istore 4, 2) := by decide +kernel
theorem dX12_movedCursor_167 : decode cX12_movedCursor 167 = .ok (.iinc 6 1, 3) := by decide +kernel
theorem dX12_movedCursor_170 : decode cX12_movedCursor 170 = .ok (.goto (-50), 3) := by decide +kernel
theorem dX12_movedCursor_173 : decode cX12_movedCursor 173 = .ok (.iload 4, 2) := by decide +kernel
theorem dX12_movedCursor_175 : decode cX12_movedCursor 175 = .ok (.ireturn, 1) := by decide +kernel
theorem dX12_movesCursors_0 : decode cX12_movesCursors 0 = .ok (.iconst 0, 1) := by decide +kernel
theorem dX12_movesCursors_1 : decode cX12_movesCursors 1 = .ok (.istore_n 3, 1) := by decide +kernel
theorem dX12_movesCursors_2 : decode cX12_movesCursors 2 = .ok (.iload_n 3, 1) := by decide +kernel
theorem dX12_movesCursors_3 : decode cX12_movesCursors 3 = .ok (.aload_n 0, 1) := by decide +kernel
theorem dX12_movesCursors_4 : decode cX12_movesCursors 4 = .ok (.getfield 26, 3) := by decide +kernel
theorem dX12_movesCursors_7 : decode cX12_movesCursors 7 = .ok (.if_icmp .ge 27, 3) := by decide +kernel
theorem dX12_movesCursors_10 : decode cX12_movesCursors 10 = .ok (.aload_n 0, 1) := by decide +kernel
theorem dX12_movesCursors_11 : decode cX12_movesCursors 11 = .ok (.getfield 13, 3) := by decide +kernel
theorem dX12_movesCursors_14 : decode cX12_movesCursors 14 = .ok (.iload_n 3, 1) := by decide +kernel
theorem dX12_movesCursors_15 : decode cX12_movesCursors 15 = .ok (.aload_n 0, 1) := by decide +kernel
theorem dX12_movesCursors_16 : decode cX12_movesCursors 16 = .ok (.aload_n 0, 1) := by decide +kernel
theorem dX12_movesCursors_17 : decode cX12_movesCursors 17 = .ok (.getfield 13, 3) := by decide +kernel
theorem dX12_movesCursors_20 : decode cX12_movesCursors 20 = .ok (.iload_n 3, 1) := by decide +kernel
theorem dX12_movesCursors_21 : decode cX12_movesCursors 21 = .ok (.iaload, 1) := by decide +kernel
theorem dX12_movesCursors_22 : decode cX12_movesCursors 22 = .ok (.iload_n 1, 1) := by decide +kernel
theorem dX12_movesCursors_23 : decode cX12_movesCursors 23 = .ok (.iload_n 2, 1) := by decide +kernel
theorem dX12_movesCursors_24 : decode cX12_movesCursors 24 = .ok (.invokevirtual 335, 3) := by decide +kernel
theorem dX12_movesCursors_27 : decode cX12_movesCursors 27 = .ok (.iastore, 1) := by decide +kernel
theorem dX12_movesCursors_28 : decode cX12_movesCursors 28 = .ok (.iinc 3 1, 3) := by decide +kernel
theorem dX12_movesCursors_31 : decode cX12_movesCursors 31 = .ok (.goto (-29), 3) := by decide +kernel
theorem dX12_movesCursors_34 : decode cX12_movesCursors 34 = .ok (.aload_n 0, 1) := by decide +kernel
theorem dX12_movesCursors_35 : decode cX12_movesCursors 35 = .ok (.invokevirtual 197, 3) := by decide +kernel
theorem dX12_movesCursors_38 : decode cX12_movesCursors 38 = .ok (.iconst 0, 1) := by decide +kernel
theorem dX12_movesCursors_39 : decode cX12_movesCursors 39 = .ok (.istore_n 3, 1) := by decide +kernel
theorem dX12_movesCursors_40 : decode cX12_movesCursors 40 = .ok (.iload_n 3, 1) := by decide +kernel
theorem dX12_movesCursors_41 : decode cX12_movesCursors 41 = .ok (.aload_n 0, 1) := by decide +kernel
theorem dX12_movesCursors_42 : decode cX12_movesCursors 42 = .ok (.getfield 26, 3) := by decide +kernel
theorem dX12_movesCursors_45 : decode cX12_movesCursors 45 = .ok (.if_icmp .ge 19, 3) := by decide +kernel
theorem dX12_movesCursors_48 : decode cX12_movesCursors 48 = .ok (.aload_n 0, 1) := by decide +kernel
theorem dX12_movesCursors_49 : decode cX12_movesCursors 49 = .ok (.aload_n 0, 1) := by decide +kernel
theorem dX12_movesCursors_50 : decode cX12_movesCursors 50 = .ok (.getfield 13, 3) := by decide +kernel
theorem dX12_movesCursors_53 : decode cX12_movesCursors 53 = .ok (.iload_n 3, 1) := by decide +kernel
theorem dX12_movesCursors_54 : decode cX12_movesCursors 54 = .ok (.iaload, 1) := by decide +kernel
theorem dX12_movesCursors_55 : decode cX12_movesCursors 55 = .ok (.invokevirtual 294, 3) := by decide +kernel
theorem dX12_movesCursors_58 : decode cX12_movesCursors 58 = .ok (.iinc 3 1, 3) := by decide +kernel
theorem dX12_movesCursors_61 : decode cX12_movesCursors 61 = .ok (.goto (-21), 3) := by decide +kernel
theorem dX12_movesCursors_64 : decode cX12_movesCursors 64 = .ok (.return_, 1) := by decide +kernel
theorem dX12_moveCursors_0 : decode cX12_moveCursors 0 = .ok (.iload_n 1, 1) := by decide +kernel
theorem dX12_moveCursors_1 : decode cX12_moveCursors 1 = .ok (.iconst 0, 1) := by decide +kernel
theorem dX12_moveCursors_2 : decode cX12_moveCursors 2 = .ok (.iconst 4, 1) := by decide +kernel
theorem dX12_moveCursors_3 : decode cX12_moveCursors 3 = .ok (.invokestatic 134, 3) := by decide +kernel
theorem dX12_moveCursors_6 : decode cX12_moveCursors 6 = .ok (.ifCond .eq 14, 3) := by decide +kernel
theorem dX12_moveCursors_9 : decode cX12_moveCursors 9 = .ok (.iload_n 2, 1) := by decide +kernel
theorem dX12_moveCursors_10 : decode cX12_moveCursors 10 = .ok (.bipush (-50), 2) := by decide +kernel
theorem dX12_moveCursors_12 : decode cX12_moveCursors 12 = .ok (.bipush 50, 2) := by decide +kernel
theorem dX12_moveCursors_14 : decode cX12_moveCursors 14 = .ok (.invokestatic 134, 3) := by decide +kernel
theorem dX12_moveCursors_17 : decode cX12_moveCursors 17 = .ok (.ifCond .ne 9, 3) := by decide +kernel
theorem dX12_moveCursors_20 : decode cX12_moveCursors 20 = .ok (.aload_n 0, 1) := by decide +kernel
theorem dX12_moveCursors_21 : decode cX12_moveCursors 21 = .ok (.iconst 1, 1) := by decide +kernel
theorem dX12_moveCursors_22 : decode cX12_moveCursors 22 = .ok (.invokevirtual 206, 3) := by decide +kernel
theorem dX12_moveCursors_25 : decode cX12_moveCursors 25 = .ok (.ireturn, 1) := by decide +kernel
theorem dX12_moveCursors_26 : decode cX12_moveCursors 26 = .ok (.aload_n 0, 1) := by decide +kernel
theorem dX12_moveCursors_27 : decode cX12_moveCursors 27 = .ok (.iload_n 1, 1) := by decide +kernel
theorem dX12_moveCursors_28 : decode cX12_moveCursors 28 = .ok (.iload_n 2, 1) := by decide +kernel
theorem dX12_moveCursors_29 : decode cX12_moveCursors 29 = .ok (.invokevirtual 339, 3) := by decide +kernel
theorem dX12_moveCursors_32 : decode cX12_moveCursors 32 = .ok (.aload_n 0, 1) := by decide +kernel
theorem dX12_moveCursors_33 : decode cX12_moveCursors 33 = .ok (.iconst 2, 1) := by decide +kernel
theorem dX12_moveCursors_34 : decode cX12_moveCursors 34 = .ok (.iload_n 1, 1) := by decide +kernel
theorem dX12_moveCursors_35 : decode cX12_moveCursors 35 = .ok (.iload_n 2, 1) := by decide +kernel
theorem dX12_moveCursors_36 : decode cX12_moveCursors 36 = .ok (.invokevirtual 250, 3) := by decide +kernel
theorem dX12_moveCursors_39 : decode cX12_moveCursors 39 = .ok (.aload_n 0, 1) := by decide +kernel
theorem dX12_moveCursors_40 : decode cX12_moveCursors 40 = .ok (.aload_n 0, 1) := by decide +kernel
theorem dX12_moveCursors_41 : decode cX12_moveCursors 41 = .ok (.getfield 26, 3) := by decide +kernel
theorem dX12_moveCursors_44 : decode cX12_moveCursors 44 = .ok (.invokevirtual 209, 3) := by decide +kernel
theorem dX12_moveCursors_47 : decode cX12_moveCursors 47 = .ok (.ireturn, 1) := by decide +kernel
theorem dX12_cursorAt_0 : decode cX12_cursorAt 0 = .ok (.iload_n 1, 1) := by decide +kernel
theorem dX12_cursorAt_1 : decode cX12_cursorAt 1 = .ok (.iconst 0, 1) := by decide +kernel
theorem dX12_cursorAt_2 : decode cX12_cursorAt 2 = .ok (.aload_n 0, 1) := by decide +kernel
theorem dX12_cursorAt_3 : decode cX12_cursorAt 3 = .ok (.getfield 26, 3) := by decide +kernel
theorem dX12_cursorAt_6 : decode cX12_cursorAt 6 = .ok (.iconst 1, 1) := by decide +kernel
theorem dX12_cursorAt_7 : decode cX12_cursorAt 7 = .ok (.isub, 1) := by decide +kernel
theorem dX12_cursorAt_8 : decode cX12_cursorAt 8 = .ok (.invokestatic 134, 3) := by decide +kernel
theorem dX12_cursorAt_11 : decode cX12_cursorAt 11 = .ok (.ifCond .eq 16, 3) := by decide +kernel
theorem dX12_cursorAt_14 : decode cX12_cursorAt 14 = .ok (.aload_n 0, 1) := by decide +kernel
theorem dX12_cursorAt_15 : decode cX12_cursorAt 15 = .ok (.aload_n 0, 1) := by decide +kernel
theorem dX12_cursorAt_16 : decode cX12_cursorAt 16 = .ok (.getfield 13, 3) := by decide +kernel
theorem dX12_cursorAt_19 : decode cX12_cursorAt 19 = .ok (.iload_n 1, 1) := by decide +kernel
theorem dX12_cursorAt_20 : decode cX12_cursorAt 20 = .ok (.iaload, 1) := by decide +kernel
theorem dX12_cursorAt_21 : decode cX12_cursorAt 21 = .ok (.invokevirtual 209, 3) := by decide +kernel
theorem dX12_cursorAt_24 : decode cX12_cursorAt 24 = .ok (.goto 8, 3) := by decide +kernel
theorem dX12_cursorAt_27 : decode cX12_cursorAt 27 = .ok (.aload_n 0, 1) := by decide +kernel
theorem dX12_cursorAt_28 : decode cX12_cursorAt 28 = .ok (.iconst 1, 1) := by decide +kernel
theorem dX12_cursorAt_29 : decode cX12_cursorAt 29 = .ok (.invokevirtual 206, 3) := by decide +kernel
theorem dX12_cursorAt_32 : decode cX12_cursorAt 32 = .ok (.ireturn, 1) := by decide +kernel
theorem dX12_isMark_0 : decode cX12_isMark 0 = .ok (.iload_n 0, 1) := by decide +kernel
theorem dX12_isMark_1 : decode cX12_isMark 1 = .ok (.iconst 0, 1) := by decide +kernel
theorem dX12_isMark_2 : decode cX12_isMark 2 = .ok (.bipush 15, 2) := by decide +kernel
theorem dX12_isMark_4 : decode cX12_isMark 4 = .ok (.invokestatic 134, 3) := by decide +kernel
theorem dX12_isMark_7 : decode cX12_isMark 7 = .ok (.ireturn, 1) := by decide +kernel
theorem dX12_setMark_0 : decode cX12_setMark 0 = .ok (.iload_n 1, 1) := by decide +kernel
theorem dX12_setMark_1 : decode cX12_setMark 1 = .ok (.invokestatic 342, 3) := by decide +kernel
theorem dX12_setMark_4 : decode cX12_setMark 4 = .ok (.ifCond .eq 11, 3) := by decide +kernel
theorem dX12_setMark_7 : decode cX12_setMark 7 = .ok (.aload_n 0, 1) := by decide +kernel
theorem dX12_setMark_8 : decode cX12_setMark 8 = .ok (.iload_n 2, 1) := by decide +kernel
theorem dX12_setMark_9 : decode cX12_setMark 9 = .ok (.invokevirtual 218, 3) := by decide +kernel
theorem dX12_setMark_12 : decode cX12_setMark 12 = .ok (.ifCond .ne 9, 3) := by decide +kernel
theorem dX12_setMark_15 : decode cX12_setMark 15 = .ok (.aload_n 0, 1) := by decide +kernel
theorem dX12_setMark_16 : decode cX12_setMark 16 = .ok (.iconst 1, 1) := by decide +kernel
theorem dX12_setMark_17 : decode cX12_setMark 17 = .ok (.invokevirtual 206, 3) := by decide +kernel
theorem dX12_setMark_20 : decode cX12_setMark 20 = .ok (.ireturn, 1) := by decide +kernel
theorem dX12_setMark_21 : decode cX12_setMark 21 = .ok (.aload_n 0, 1) := by decide +kernel
theorem dX12_setMark_22 : decode cX12_setMark 22 = .ok (.getfield 16, 3) := by decide +kernel
theorem dX12_setMark_25 : decode cX12_setMark 25 = .ok (.iload_n 1, 1) := by decide +kernel
theorem dX12_setMark_26 : decode cX12_setMark 26 = .ok (.iaload, 1) := by decide +kernel
theorem dX12_setMark_27 : decode cX12_setMark 27 = .ok (.istore 4, 2) := by decide +kernel
theorem dX12_setMark_29 : decode cX12_setMark 29 = .ok (.aload_n 0, 1) := by decide +kernel
theorem dX12_setMark_30 : decode cX12_setMark 30 = .ok (.getfield 16, 3) := by decide +kernel
theorem dX12_setMark_33 : decode cX12_setMark 33 = .ok (.iload_n 1, 1) := by decide +kernel
theorem dX12_setMark_34 : decode cX12_setMark 34 = .ok (.iload_n 2, 1) := by decide +kernel
theorem dX12_setMark_35 : decode cX12_setMark 35 = .ok (.iastore, 1) := by decide +kernel
theorem dX12_setMark_36 : decode cX12_setMark 36 = .ok (.aload_n 0, 1) := by decide +kernel
theorem dX12_setMark_37 : decode cX12_setMark 37 = .ok (.getfield 19, 3) := by decide +kernel
theorem dX12_setMark_40 : decode cX12_setMark 40 = .ok (.iload_n 1, 1) := by decide +kernel
theorem dX12_setMark_41 : decode cX12_setMark 41 = .ok (.iload_n 3, 1) := by decide +kernel
theorem dX12_setMark_42 : decode cX12_setMark 42 = .ok (.bastore, 1) := by decide +kernel
theorem dX12_setMark_43 : decode cX12_setMark 43 = .ok (.aload_n 0, 1) := by decide +kernel
theorem dX12_setMark_44 : decode cX12_setMark 44 = .ok (.iload 4, 2) := by decide +kernel
theorem dX12_setMark_46 : decode cX12_setMark 46 = .ok (.invokevirtual 209, 3) := by decide +kernel
theorem dX12_setMark_49 : decode cX12_setMark 49 = .ok (.ireturn, 1) := by decide +kernel
theorem dX12_dropMark_0 : decode cX12_dropMark 0 = .ok (.iload_n 1, 1) := by decide +kernel
theorem dX12_dropMark_1 : decode cX12_dropMark 1 = .ok (.invokestatic 342, 3) := by decide +kernel
theorem dX12_dropMark_4 : decode cX12_dropMark 4 = .ok (.ifCond .ne 9, 3) := by decide +kernel
theorem dX12_dropMark_7 : decode cX12_dropMark 7 = .ok (.aload_n 0, 1) := by decide +kernel
theorem dX12_dropMark_8 : decode cX12_dropMark 8 = .ok (.iconst 1, 1) := by decide +kernel
theorem dX12_dropMark_9 : decode cX12_dropMark 9 = .ok (.invokevirtual 206, 3) := by decide +kernel
theorem dX12_dropMark_12 : decode cX12_dropMark 12 = .ok (.ireturn, 1) := by decide +kernel
theorem dX12_dropMark_13 : decode cX12_dropMark 13 = .ok (.aload_n 0, 1) := by decide +kernel
theorem dX12_dropMark_14 : decode cX12_dropMark 14 = .ok (.getfield 16, 3) := by decide +kernel
theorem dX12_dropMark_17 : decode cX12_dropMark 17 = .ok (.iload_n 1, 1) := by decide +kernel
theorem dX12_dropMark_18 : decode cX12_dropMark 18 = .ok (.iaload, 1) := by decide +kernel
theorem dX12_dropMark_19 : decode cX12_dropMark 19 = .ok (.istore_n 2, 1) := by decide +kernel
theorem dX12_dropMark_20 : decode cX12_dropMark 20 = .ok (.aload_n 0, 1) := by decide +kernel
theorem dX12_dropMark_21 : decode cX12_dropMark 21 = .ok (.getfield 16, 3) := by decide +kernel
theorem dX12_dropMark_24 : decode cX12_dropMark 24 = .ok (.iload_n 1, 1) := by decide +kernel
theorem dX12_dropMark_25 : decode cX12_dropMark 25 = .ok (.iconst (-1), 1) := by decide +kernel
theorem dX12_dropMark_26 : decode cX12_dropMark 26 = .ok (.iastore, 1) := by decide +kernel
theorem dX12_dropMark_27 : decode cX12_dropMark 27 = .ok (.aload_n 0, 1) := by decide +kernel
theorem dX12_dropMark_28 : decode cX12_dropMark 28 = .ok (.getfield 19, 3) := by decide +kernel
theorem dX12_dropMark_31 : decode cX12_dropMark 31 = .ok (.iload_n 1, 1) := by decide +kernel
theorem dX12_dropMark_32 : decode cX12_dropMark 32 = .ok (.iconst 0, 1) := by decide +kernel
theorem dX12_dropMark_33 : decode cX12_dropMark 33 = .ok (.bastore, 1) := by decide +kernel
theorem dX12_dropMark_34 : decode cX12_dropMark 34 = .ok (.aload_n 0, 1) := by decide +kernel
theorem dX12_dropMark_35 : decode cX12_dropMark 35 = .ok (.iload_n 2, 1) := by decide +kernel
theorem dX12_dropMark_36 : decode cX12_dropMark 36 = .ok (.invokevirtual 209, 3) := by decide +kernel
theorem dX12_dropMark_39 : decode cX12_dropMark 39 = .ok (.ireturn, 1) := by decide +kernel
theorem dX12_markAt_0 : decode cX12_markAt 0 = .ok (.iload_n 1, 1) := by decide +kernel
theorem dX12_markAt_1 : decode cX12_markAt 1 = .ok (.invokestatic 342, 3) := by decide +kernel
theorem dX12_markAt_4 : decode cX12_markAt 4 = .ok (.ifCond .eq 16, 3) := by decide +kernel
theorem dX12_markAt_7 : decode cX12_markAt 7 = .ok (.aload_n 0, 1) := by decide +kernel
theorem dX12_markAt_8 : decode cX12_markAt 8 = .ok (.aload_n 0, 1) := by decide +kernel
theorem dX12_markAt_9 : decode cX12_markAt 9 = .ok (.getfield 16, 3) := by decide +kernel
theorem dX12_markAt_12 : decode cX12_markAt 12 = .ok (.iload_n 1, 1) := by decide +kernel
theorem dX12_markAt_13 : decode cX12_markAt 13 = .ok (.iaload, 1) := by decide +kernel
theorem dX12_markAt_14 : decode cX12_markAt 14 = .ok (.invokevirtual 209, 3) := by decide +kernel
theorem dX12_markAt_17 : decode cX12_markAt 17 = .ok (.goto 8, 3) := by decide +kernel
theorem dX12_markAt_20 : decode cX12_markAt 20 = .ok (.aload_n 0, 1) := by decide +kernel
theorem dX12_markAt_21 : decode cX12_markAt 21 = .ok (.iconst 1, 1) := by decide +kernel
theorem dX12_markAt_22 : decode cX12_markAt 22 = .ok (.invokevirtual 206, 3) := by decide +kernel
theorem dX12_markAt_25 : decode cX12_markAt 25 = .ok (.ireturn, 1) := by decide +kernel
theorem dX12_markBeside_0 : decode cX12_markBeside 0 = .ok (.aload_n 0, 1) := by decide +kernel
theorem dX12_markBeside_1 : decode cX12_markBeside 1 = .ok (.iload_n 1, 1) := by decide +kernel
theorem dX12_markBeside_2 : decode cX12_markBeside 2 = .ok (.invokevirtual 218, 3) := by decide +kernel
theorem dX12_markBeside_5 : decode cX12_markBeside 5 = .ok (.ifCond .ne 9, 3) := by decide +kernel
theorem dX12_markBeside_8 : decode cX12_markBeside 8 = .ok (.aload_n 0, 1) := by decide +kernel
theorem dX12_markBeside_9 : decode cX12_markBeside 9 = .ok (.iconst 1, 1) := by decide +kernel
theorem dX12_markBeside_10 : decode cX12_markBeside 10 = .ok (.invokevirtual 206, 3) := by decide +kernel
theorem dX12_markBeside_13 : decode cX12_markBeside 13 = .ok (.ireturn, 1) := by decide +kernel
theorem dX12_markBeside_14 : decode cX12_markBeside 14 = .ok (.iconst (-1), 1) := by decide +kernel
theorem dX12_markBeside_15 : decode cX12_markBeside 15 = .ok (.istore_n 3, 1) := by decide +kernel
theorem dX12_markBeside_16 : decode cX12_markBeside 16 = .ok (.iconst 0, 1) := by decide +kernel
theorem dX12_markBeside_17 : decode cX12_markBeside 17 = .ok (.istore 4, 2) := by decide +kernel
theorem dX12_markBeside_19 : decode cX12_markBeside 19 = .ok (.iload 4, 2) := by decide +kernel
theorem dX12_markBeside_21 : decode cX12_markBeside 21 = .ok (.bipush 16, 2) := by decide +kernel
theorem dX12_markBeside_23 : decode cX12_markBeside 23 = .ok (.if_icmp .ge 108, 3) := by decide +kernel
theorem dX12_markBeside_26 : decode cX12_markBeside 26 = .ok (.aload_n 0, 1) := by decide +kernel
theorem dX12_markBeside_27 : decode cX12_markBeside 27 = .ok (.getfield 16, 3) := by decide +kernel
theorem dX12_markBeside_30 : decode cX12_markBeside 30 = .ok (.iload 4, 2) := by decide +kernel
theorem dX12_markBeside_32 : decode cX12_markBeside 32 = .ok (.iaload, 1) := by decide +kernel
theorem dX12_markBeside_33 : decode cX12_markBeside 33 = .ok (.iconst (-1), 1) := by decide +kernel
theorem dX12_markBeside_34 : decode cX12_markBeside 34 = .ok (.if_icmp .eq 36, 3) := by decide +kernel
theorem dX12_markBeside_37 : decode cX12_markBeside 37 = .ok (.iload_n 2, 1) := by decide +kernel
theorem dX12_markBeside_38 : decode cX12_markBeside 38 = .ok (.ifCond .eq 17, 3) := by decide +kernel
theorem dX12_markBeside_41 : decode cX12_markBeside 41 = .ok (.aload_n 0, 1) := by decide +kernel
theorem dX12_markBeside_42 : decode cX12_markBeside 42 = .ok (.getfield 16, 3) := by decide +kernel
theorem dX12_markBeside_45 : decode cX12_markBeside 45 = .ok (.iload 4, 2) := by decide +kernel
theorem dX12_markBeside_47 : decode cX12_markBeside 47 = .ok (.iaload, 1) := by decide +kernel
theorem dX12_markBeside_48 : decode cX12_markBeside 48 = .ok (.iload_n 1, 1) := by decide +kernel
theorem dX12_markBeside_49 : decode cX12_markBeside 49 = .ok (.if_icmp .lt 21, 3) := by decide +kernel
theorem dX12_markBeside_52 : decode cX12_markBeside 52 = .ok (.goto 14, 3) := by decide +kernel
theorem dX12_markBeside_55 : decode cX12_markBeside 55 = .ok (.aload_n 0, 1) := by decide +kernel
theorem dX12_markBeside_56 : decode cX12_markBeside 56 = .ok (.getfield 16, 3) := by decide +kernel
theorem dX12_markBeside_59 : decode cX12_markBeside 59 = .ok (.iload 4, 2) := by decide +kernel
theorem dX12_markBeside_61 : decode cX12_markBeside 61 = .ok (.iaload, 1) := by decide +kernel
theorem dX12_markBeside_62 : decode cX12_markBeside 62 = .ok (.iload_n 1, 1) := by decide +kernel
theorem dX12_markBeside_63 : decode cX12_markBeside 63 = .ok (.if_icmp .gt 7, 3) := by decide +kernel
theorem dX12_markBeside_66 : decode cX12_markBeside 66 = .ok (.iconst 1, 1) := by decide +kernel
theorem dX12_markBeside_67 : decode cX12_markBeside 67 = .ok (.goto 4, 3) := by decide +kernel
theorem dX12_markBeside_70 : decode cX12_markBeside 70 = .ok (.iconst 0, 1) := by decide +kernel
theorem dX12_markBeside_71 : decode cX12_markBeside 71 = .ok (.istore 5, 2) := by decide +kernel
theorem dX12_markBeside_73 : decode cX12_markBeside 73 = .ok (.iload 5, 2) := by decide +kernel
theorem dX12_markBeside_75 : decode cX12_markBeside 75 = .ok (.ifCond .eq 50, 3) := by decide +kernel
theorem dX12_markBeside_78 : decode cX12_markBeside 78 = .ok (.iload_n 3, 1) := by decide +kernel
theorem dX12_markBeside_79 : decode cX12_markBeside 79 = .ok (.iconst (-1), 1) := by decide +kernel
theorem dX12_markBeside_80 : decode cX12_markBeside 80 = .ok (.if_icmp .eq 42, 3) := by decide +kernel
theorem dX12_markBeside_83 : decode cX12_markBeside 83 = .ok (.iload_n 2, 1) := by decide +kernel
theorem dX12_markBeside_84 : decode cX12_markBeside 84 = .ok (.ifCond .eq 22, 3) := by decide +kernel
theorem dX12_markBeside_87 : decode cX12_markBeside 87 = .ok (.aload_n 0, 1) := by decide +kernel
theorem dX12_markBeside_88 : decode cX12_markBeside 88 = .ok (.getfield 16, 3) := by decide +kernel
theorem dX12_markBeside_91 : decode cX12_markBeside 91 = .ok (.iload 4, 2) := by decide +kernel
theorem dX12_markBeside_93 : decode cX12_markBeside 93 = .ok (.iaload, 1) := by decide +kernel
theorem dX12_markBeside_94 : decode cX12_markBeside 94 = .ok (.aload_n 0, 1) := by decide +kernel
theorem dX12_markBeside_95 : decode cX12_markBeside 95 = .ok (.getfield 16, 3) := by decide +kernel
theorem dX12_markBeside_98 : decode cX12_markBeside 98 = .ok (.iload_n 3, 1) := by decide +kernel
theorem dX12_markBeside_99 : decode cX12_markBeside 99 = .ok (.iaload, 1) := by decide +kernel
theorem dX12_markBeside_100 : decode cX12_markBeside 100 = .ok (.if_icmp .ge 25, 3) := by decide +kernel
theorem dX12_markBeside_103 : decode cX12_markBeside 103 = .ok (.goto 19, 3) := by decide +kernel
theorem dX12_markBeside_106 : decode cX12_markBeside 106 = .ok (.aload_n 0, 1) := by decide +kernel
theorem dX12_markBeside_107 : decode cX12_markBeside 107 = .ok (.getfield 16, 3) := by decide +kernel
theorem dX12_markBeside_110 : decode cX12_markBeside 110 = .ok (.iload 4, 2) := by decide +kernel
theorem dX12_markBeside_112 : decode cX12_markBeside 112 = .ok (.iaload, 1) := by decide +kernel
theorem dX12_markBeside_113 : decode cX12_markBeside 113 = .ok (.aload_n 0, 1) := by decide +kernel
theorem dX12_markBeside_114 : decode cX12_markBeside 114 = .ok (.getfield 16, 3) := by decide +kernel
theorem dX12_markBeside_117 : decode cX12_markBeside 117 = .ok (.iload_n 3, 1) := by decide +kernel
theorem dX12_markBeside_118 : decode cX12_markBeside 118 = .ok (.iaload, 1) := by decide +kernel
theorem dX12_markBeside_119 : decode cX12_markBeside 119 = .ok (.if_icmp .le 6, 3) := by decide +kernel
theorem dX12_markBeside_122 : decode cX12_markBeside 122 = .ok (.iload 4, 2) := by decide +kernel
theorem dX12_markBeside_124 : decode cX12_markBeside 124 = .ok (.istore_n 3, 1) := by decide +kernel
theorem dX12_markBeside_125 : decode cX12_markBeside 125 = .ok (.iinc 4 1, 3) := by decide +kernel
theorem dX12_markBeside_128 : decode cX12_markBeside 128 = .ok (.goto (-109), 3) := by decide +kernel
theorem dX12_markBeside_131 : decode cX12_markBeside 131 = .ok (.aload_n 0, 1) := by decide +kernel
theorem dX12_markBeside_132 : decode cX12_markBeside 132 = .ok (.iload_n 3, 1) := by decide +kernel
theorem dX12_markBeside_133 : decode cX12_markBeside 133 = .ok (.invokevirtual 209, 3) := by decide +kernel
theorem dX12_markBeside_136 : decode cX12_markBeside 136 = .ok (.ireturn, 1) := by decide +kernel
theorem dX12_fold_0 : decode cX12_fold 0 = .ok (.aload_n 0, 1) := by decide +kernel
theorem dX12_fold_1 : decode cX12_fold 1 = .ok (.iload_n 1, 1) := by decide +kernel
theorem dX12_fold_2 : decode cX12_fold 2 = .ok (.invokevirtual 225, 3) := by decide +kernel
theorem dX12_fold_5 : decode cX12_fold 5 = .ok (.ifCond .eq 11, 3) := by decide +kernel
theorem dX12_fold_8 : decode cX12_fold 8 = .ok (.aload_n 0, 1) := by decide +kernel
theorem dX12_fold_9 : decode cX12_fold 9 = .ok (.iload_n 2, 1) := by decide +kernel
theorem dX12_fold_10 : decode cX12_fold 10 = .ok (.invokevirtual 225, 3) := by decide +kernel
theorem dX12_fold_13 : decode cX12_fold 13 = .ok (.ifCond .ne 9, 3) := by decide +kernel
theorem dX12_fold_16 : decode cX12_fold 16 = .ok (.aload_n 0, 1) := by decide +kernel
theorem dX12_fold_17 : decode cX12_fold 17 = .ok (.iconst 1, 1) := by decide +kernel
theorem dX12_fold_18 : decode cX12_fold 18 = .ok (.invokevirtual 206, 3) := by decide +kernel
theorem dX12_fold_21 : decode cX12_fold 21 = .ok (.ireturn, 1) := by decide +kernel
theorem dX12_fold_22 : decode cX12_fold 22 = .ok (.iload_n 1, 1) := by decide +kernel
theorem dX12_fold_23 : decode cX12_fold 23 = .ok (.iload_n 2, 1) := by decide +kernel
theorem dX12_fold_24 : decode cX12_fold 24 = .ok (.if_icmp .lt 9, 3) := by decide +kernel
theorem dX12_fold_27 : decode cX12_fold 27 = .ok (.aload_n 0, 1) := by decide +kernel
theorem dX12_fold_28 : decode cX12_fold 28 = .ok (.iconst 2, 1) := by decide +kernel
theorem dX12_fold_29 : decode cX12_fold 29 = .ok (.invokevirtual 206, 3) := by decide +kernel
theorem dX12_fold_32 : decode cX12_fold 32 = .ok (.ireturn, 1) := by decide +kernel
theorem dX12_fold_33 : decode cX12_fold 33 = .ok (.iconst 0, 1) := by decide +kernel
theorem dX12_fold_34 : decode cX12_fold 34 = .ok (.istore_n 3, 1) := by decide +kernel
theorem dX12_fold_35 : decode cX12_fold 35 = .ok (.iload_n 3, 1) := by decide +kernel
theorem dX12_fold_36 : decode cX12_fold 36 = .ok (.aload_n 0, 1) := by decide +kernel
theorem dX12_fold_37 : decode cX12_fold 37 = .ok (.getfield 26, 3) := by decide +kernel
theorem dX12_fold_40 : decode cX12_fold 40 = .ok (.if_icmp .ge 35, 3) := by decide +kernel
theorem dX12_fold_43 : decode cX12_fold 43 = .ok (.aload_n 0, 1) := by decide +kernel
theorem dX12_fold_44 : decode cX12_fold 44 = .ok (.aload_n 0, 1) := by decide +kernel
theorem dX12_fold_45 : decode cX12_fold 45 = .ok (.getfield 13, 3) := by decide +kernel
theorem dX12_fold_48 : decode cX12_fold 48 = .ok (.iload_n 3, 1) := by decide +kernel
theorem dX12_fold_49 : decode cX12_fold 49 = .ok (.iaload, 1) := by decide +kernel
theorem dX12_fold_50 : decode cX12_fold 50 = .ok (.invokevirtual 149, 3) := by decide +kernel
theorem dX12_fold_53 : decode cX12_fold 53 = .ok (.iload_n 1, 1) := by decide +kernel
theorem dX12_fold_54 : decode cX12_fold 54 = .ok (.iconst 1, 1) := by decide +kernel
theorem dX12_fold_55 : decode cX12_fold 55 = .ok (.iadd, 1) := by decide +kernel
theorem dX12_fold_56 : decode cX12_fold 56 = .ok (.iload_n 2, 1) := by decide +kernel
theorem dX12_fold_57 : decode cX12_fold 57 = .ok (.invokestatic 134, 3) := by decide +kernel
theorem dX12_fold_60 : decode cX12_fold 60 = .ok (.ifCond .eq 9, 3) := by decide +kernel
theorem dX12_fold_63 : decode cX12_fold 63 = .ok (.aload_n 0, 1) := by decide +kernel
theorem dX12_fold_64 : decode cX12_fold 64 = .ok (.iconst 3, 1) := by decide +kernel
theorem dX12_fold_65 : decode cX12_fold 65 = .ok (.invokevirtual 206, 3) := by decide +kernel
theorem dX12_fold_68 : decode cX12_fold 68 = .ok (.ireturn, 1) := by decide +kernel
theorem dX12_fold_69 : decode cX12_fold 69 = .ok (.iinc 3 1, 3) := by decide +kernel
theorem dX12_fold_72 : decode cX12_fold 72 = .ok (.goto (-37), 3) := by decide +kernel
theorem dX12_fold_75 : decode cX12_fold 75 = .ok (.iload_n 1, 1) := by decide +kernel
theorem dX12_fold_76 : decode cX12_fold 76 = .ok (.iconst 1, 1) := by decide +kernel
theorem dX12_fold_77 : decode cX12_fold 77 = .ok (.iadd, 1) := by decide +kernel
theorem dX12_fold_78 : decode cX12_fold 78 = .ok (.istore_n 3, 1) := by decide +kernel
theorem dX12_fold_79 : decode cX12_fold 79 = .ok (.iload_n 3, 1) := by decide +kernel
theorem dX12_fold_80 : decode cX12_fold 80 = .ok (.iload_n 2, 1) := by decide +kernel
theorem dX12_fold_81 : decode cX12_fold 81 = .ok (.if_icmp .gt 16, 3) := by decide +kernel
theorem dX12_fold_84 : decode cX12_fold 84 = .ok (.aload_n 0, 1) := by decide +kernel
theorem dX12_fold_85 : decode cX12_fold 85 = .ok (.getfield 23, 3) := by decide +kernel
theorem dX12_fold_88 : decode cX12_fold 88 = .ok (.iload_n 3, 1) := by decide +kernel
theorem dX12_fold_89 : decode cX12_fold 89 = .ok (.iconst 1, 1) := by decide +kernel
theorem dX12_fold_90 : decode cX12_fold 90 = .ok (.bastore, 1) := by decide +kernel
theorem dX12_fold_91 : decode cX12_fold 91 = .ok (.iinc 3 1, 3) := by decide +kernel
theorem dX12_fold_94 : decode cX12_fold 94 = .ok (.goto (-15), 3) := by decide +kernel
theorem dX12_fold_97 : decode cX12_fold 97 = .ok (.aload_n 0, 1) := by decide +kernel
theorem dX12_fold_98 : decode cX12_fold 98 = .ok (.aload_n 0, 1) := by decide +kernel
theorem dX12_fold_99 : decode cX12_fold 99 = .ok (.invokevirtual 345, 3) := by decide +kernel
theorem dX12_fold_102 : decode cX12_fold 102 = .ok (.invokevirtual 209, 3) := by decide +kernel
theorem dX12_fold_105 : decode cX12_fold 105 = .ok (.ireturn, 1) := by decide +kernel
theorem dX12_unfold_0 : decode cX12_unfold 0 = .ok (.aload_n 0, 1) := by decide +kernel
theorem dX12_unfold_1 : decode cX12_unfold 1 = .ok (.iload_n 1, 1) := by decide +kernel
theorem dX12_unfold_2 : decode cX12_unfold 2 = .ok (.invokevirtual 225, 3) := by decide +kernel
theorem dX12_unfold_5 : decode cX12_unfold 5 = .ok (.ifCond .eq 15, 3) := by decide +kernel
theorem dX12_unfold_8 : decode cX12_unfold 8 = .ok (.aload_n 0, 1) := by decide +kernel
theorem dX12_unfold_9 : decode cX12_unfold 9 = .ok (.aload_n 0, 1) := by decide +kernel
theorem dX12_unfold_10 : decode cX12_unfold 10 = .ok (.iload_n 1, 1) := by decide +kernel
theorem dX12_unfold_11 : decode cX12_unfold 11 = .ok (.invokevirtual 152, 3) := by decide +kernel
theorem dX12_unfold_14 : decode cX12_unfold 14 = .ok (.invokevirtual 209, 3) := by decide +kernel
theorem dX12_unfold_17 : decode cX12_unfold 17 = .ok (.goto 8, 3) := by decide +kernel
theorem dX12_unfold_20 : decode cX12_unfold 20 = .ok (.aload_n 0, 1) := by decide +kernel
theorem dX12_unfold_21 : decode cX12_unfold 21 = .ok (.iconst 1, 1) := by decide +kernel
theorem dX12_unfold_22 : decode cX12_unfold 22 = .ok (.invokevirtual 206, 3) := by decide +kernel
theorem dX12_unfold_25 : decode cX12_unfold 25 = .ok (.ireturn, 1) := by decide +kernel
theorem dX12_isHidden_0 : decode cX12_isHidden 0 = .ok (.aload_n 0, 1) := by decide +kernel
theorem dX12_isHidden_1 : decode cX12_isHidden 1 = .ok (.iload_n 1, 1) := by decide +kernel
theorem dX12_isHidden_2 : decode cX12_isHidden 2 = .ok (.invokevirtual 225, 3) := by decide +kernel
theorem dX12_isHidden_5 : decode cX12_isHidden 5 = .ok (.ifCond .eq 16, 3) := by decide +kernel
theorem dX12_isHidden_8 : decode cX12_isHidden 8 = .ok (.aload_n 0, 1) := by decide +kernel
theorem dX12_isHidden_9 : decode cX12_isHidden 9 = .ok (.aload_n 0, 1) := by decide +kernel
theorem dX12_isHidden_10 : decode cX12_isHidden 10 = .ok (.getfield 23, 3) := by decide +kernel
theorem dX12_isHidden_13 : decode cX12_isHidden 13 = .ok (.iload_n 1, 1) := by decide +kernel
theorem dX12_isHidden_14 : decode cX12_isHidden 14 = .ok (.baload, 1) := by decide +kernel
theorem dX12_isHidden_15 : decode cX12_isHidden 15 = .ok (.invokevirtual 309, 3) := by decide +kernel
theorem dX12_isHidden_18 : decode cX12_isHidden 18 = .ok (.goto 8, 3) := by decide +kernel
theorem dX12_isHidden_21 : decode cX12_isHidden 21 = .ok (.aload_n 0, 1) := by decide +kernel
theorem dX12_isHidden_22 : decode cX12_isHidden 22 = .ok (.iconst 1, 1) := by decide +kernel
theorem dX12_isHidden_23 : decode cX12_isHidden 23 = .ok (.invokevirtual 348, 3) := by decide +kernel
theorem dX12_isHidden_26 : decode cX12_isHidden 26 = .ok (.ireturn, 1) := by decide +kernel
theorem dX12_isView_0 : decode cX12_isView 0 = .ok (.iload_n 0, 1) := by decide +kernel
theorem dX12_isView_1 : decode cX12_isView 1 = .ok (.iconst 0, 1) := by decide +kernel
theorem dX12_isView_2 : decode cX12_isView 2 = .ok (.iconst 1, 1) := by decide +kernel
theorem dX12_isView_3 : decode cX12_isView 3 = .ok (.invokestatic 134, 3) := by decide +kernel
theorem dX12_isView_6 : decode cX12_isView 6 = .ok (.ireturn, 1) := by decide +kernel
theorem dX12_setView_0 : decode cX12_setView 0 = .ok (.iload_n 1, 1) := by decide +kernel
theorem dX12_setView_1 : decode cX12_setView 1 = .ok (.invokestatic 351, 3) := by decide +kernel
theorem dX12_setView_4 : decode cX12_setView 4 = .ok (.ifCond .ne 9, 3) := by decide +kernel
theorem dX12_setView_7 : decode cX12_setView 7 = .ok (.aload_n 0, 1) := by decide +kernel
theorem dX12_setView_8 : decode cX12_setView 8 = .ok (.iconst 1, 1) := by decide +kernel
theorem dX12_setView_9 : decode cX12_setView 9 = .ok (.invokevirtual 206, 3) := by decide +kernel
theorem dX12_setView_12 : decode cX12_setView 12 = .ok (.ireturn, 1) := by decide +kernel
theorem dX12_setView_13 : decode cX12_setView 13 = .ok (.iload_n 2, 1) := by decide +kernel
theorem dX12_setView_14 : decode cX12_setView 14 = .ok (.ifCond .lt 13, 3) := by decide +kernel
theorem dX12_setView_17 : decode cX12_setView 17 = .ok (.iload_n 3, 1) := by decide +kernel
theorem dX12_setView_18 : decode cX12_setView 18 = .ok (.iconst 1, 1) := by decide +kernel
theorem dX12_setView_19 : decode cX12_setView 19 = .ok (.bipush 40, 2) := by decide +kernel
theorem dX12_setView_21 : decode cX12_setView 21 = .ok (.invokestatic 134, 3) := by decide +kernel
theorem dX12_setView_24 : decode cX12_setView 24 = .ok (.ifCond .ne 9, 3) := by decide +kernel
theorem dX12_setView_27 : decode cX12_setView 27 = .ok (.aload_n 0, 1) := by decide +kernel
theorem dX12_setView_28 : decode cX12_setView 28 = .ok (.iconst 2, 1) := by decide +kernel
theorem dX12_setView_29 : decode cX12_setView 29 = .ok (.invokevirtual 206, 3) := by decide +kernel
theorem dX12_setView_32 : decode cX12_setView 32 = .ok (.ireturn, 1) := by decide +kernel
theorem dX12_setView_33 : decode cX12_setView 33 = .ok (.aload_n 0, 1) := by decide +kernel
theorem dX12_setView_34 : decode cX12_setView 34 = .ok (.getfield 45, 3) := by decide +kernel
theorem dX12_setView_37 : decode cX12_setView 37 = .ok (.iload_n 1, 1) := by decide +kernel
theorem dX12_setView_38 : decode cX12_setView 38 = .ok (.iaload, 1) := by decide +kernel
theorem dX12_setView_39 : decode cX12_setView 39 = .ok (.istore 4, 2) := by decide +kernel
theorem dX12_setView_41 : decode cX12_setView 41 = .ok (.aload_n 0, 1) := by decide +kernel
theorem dX12_setView_42 : decode cX12_setView 42 = .ok (.getfield 45, 3) := by decide +kernel
theorem dX12_setView_45 : decode cX12_setView 45 = .ok (.iload_n 1, 1) := by decide +kernel
theorem dX12_setView_46 : decode cX12_setView 46 = .ok (.iload_n 2, 1) := by decide +kernel
theorem dX12_setView_47 : decode cX12_setView 47 = .ok (.iastore, 1) := by decide +kernel
theorem dX12_setView_48 : decode cX12_setView 48 = .ok (.aload_n 0, 1) := by decide +kernel
theorem dX12_setView_49 : decode cX12_setView 49 = .ok (.getfield 48, 3) := by decide +kernel
theorem dX12_setView_52 : decode cX12_setView 52 = .ok (.iload_n 1, 1) := by decide +kernel
theorem dX12_setView_53 : decode cX12_setView 53 = .ok (.iload_n 3, 1) := by decide +kernel
theorem dX12_setView_54 : decode cX12_setView 54 = .ok (.iastore, 1) := by decide +kernel
theorem dX12_setView_55 : decode cX12_setView 55 = .ok (.aload_n 0, 1) := by decide +kernel
theorem dX12_setView_56 : decode cX12_setView 56 = .ok (.iload 4, 2) := by decide +kernel
theorem dX12_setView_58 : decode cX12_setView 58 = .ok (.invokevirtual 209, 3) := by decide +kernel
theorem dX12_setView_61 : decode cX12_setView 61 = .ok (.ireturn, 1) := by decide +kernel
theorem dX12_rowOf_0 : decode cX12_rowOf 0 = .ok (.iload_n 1, 1) := by decide +kernel
theorem dX12_rowOf_1 : decode cX12_rowOf 1 = .ok (.invokestatic 351, 3) := by decide +kernel
theorem dX12_rowOf_4 : decode cX12_rowOf 4 = .ok (.ifCond .ne 9, 3) := by decide +kernel
theorem dX12_rowOf_7 : decode cX12_rowOf 7 = .ok (.aload_n 0, 1) := by decide +kernel
theorem dX12_rowOf_8 : decode cX12_rowOf 8 = .ok (.iconst 1, 1) := by decide +kernel
theorem dX12_rowOf_9 : decode cX12_rowOf 9 = .ok (.invokevirtual 206, 3) := by decide +kernel
theorem dX12_rowOf_12 : decode cX12_rowOf 12 = .ok (.ireturn, 1) := by decide +kernel
theorem dX12_rowOf_13 : decode cX12_rowOf 13 = .ok (.iload_n 2, 1) := by decide +kernel
theorem dX12_rowOf_14 : decode cX12_rowOf 14 = .ok (.iconst 0, 1) := by decide +kernel
theorem dX12_rowOf_15 : decode cX12_rowOf 15 = .ok (.aload_n 0, 1) := by decide +kernel
theorem dX12_rowOf_16 : decode cX12_rowOf 16 = .ok (.getfield 48, 3) := by decide +kernel
theorem dX12_rowOf_19 : decode cX12_rowOf 19 = .ok (.iload_n 1, 1) := by decide +kernel
theorem dX12_rowOf_20 : decode cX12_rowOf 20 = .ok (.iaload, 1) := by decide +kernel
theorem dX12_rowOf_21 : decode cX12_rowOf 21 = .ok (.iconst 1, 1) := by decide +kernel
theorem dX12_rowOf_22 : decode cX12_rowOf 22 = .ok (.isub, 1) := by decide +kernel
theorem dX12_rowOf_23 : decode cX12_rowOf 23 = .ok (.invokestatic 134, 3) := by decide +kernel
theorem dX12_rowOf_26 : decode cX12_rowOf 26 = .ok (.ifCond .ne 9, 3) := by decide +kernel
theorem dX12_rowOf_29 : decode cX12_rowOf 29 = .ok (.aload_n 0, 1) := by decide +kernel
theorem dX12_rowOf_30 : decode cX12_rowOf 30 = .ok (.iconst 2, 1) := by decide +kernel
theorem dX12_rowOf_31 : decode cX12_rowOf 31 = .ok (.invokevirtual 206, 3) := by decide +kernel
theorem dX12_rowOf_34 : decode cX12_rowOf 34 = .ok (.ireturn, 1) := by decide +kernel
theorem dX12_rowOf_35 : decode cX12_rowOf 35 = .ok (.aload_n 0, 1) := by decide +kernel
theorem dX12_rowOf_36 : decode cX12_rowOf 36 = .ok (.invokevirtual 141, 3) := by decide +kernel
theorem dX12_rowOf_39 : decode cX12_rowOf 39 = .ok (.istore_n 3, 1) := by decide +kernel
theorem dX12_rowOf_40 : decode cX12_rowOf 40 = .ok (.aload_n 0, 1) := by decide +kernel
theorem dX12_rowOf_41 : decode cX12_rowOf 41 = .ok (.getfield 45, 3) := by decide +kernel
theorem dX12_rowOf_44 : decode cX12_rowOf 44 = .ok (.iload_n 1, 1) := by decide +kernel
theorem dX12_rowOf_45 : decode cX12_rowOf 45 = .ok (.iaload, 1) := by decide +kernel
theorem dX12_rowOf_46 : decode cX12_rowOf 46 = .ok (.iload_n 3, 1) := by decide +kernel
theorem dX12_rowOf_47 : decode cX12_rowOf 47 = .ok (.iconst 1, 1) := by decide +kernel
theorem dX12_rowOf_48 : decode cX12_rowOf 48 = .ok (.isub, 1) := by decide +kernel
theorem dX12_rowOf_49 : decode cX12_rowOf 49 = .ok (.invokestatic 261, 3) := by decide +kernel
theorem dX12_rowOf_52 : decode cX12_rowOf 52 = .ok (.istore 4, 2) := by decide +kernel
theorem dX12_rowOf_54 : decode cX12_rowOf 54 = .ok (.aload_n 0, 1) := by decide +kernel
theorem dX12_rowOf_55 : decode cX12_rowOf 55 = .ok (.getfield 23, 3) := by decide +kernel
theorem dX12_rowOf_58 : decode cX12_rowOf 58 = .ok (.iload 4, 2) := by decide +kernel
theorem dX12_rowOf_60 : decode cX12_rowOf 60 = .ok (.baload, 1) := by decide +kernel
theorem dX12_rowOf_61 : decode cX12_rowOf 61 = .ok (.ifCond .eq 9, 3) := by decide +kernel
theorem dX12_rowOf_64 : decode cX12_rowOf 64 = .ok (.iinc 4 (-1), 3) := by decide +kernel
theorem dX12_rowOf_67 : decode cX12_rowOf 67 = .ok (.goto (-13), 3) := by decide +kernel
theorem dX12_rowOf_70 : decode cX12_rowOf 70 = .ok (.iload_n 2, 1) := by decide +kernel
theorem dX12_rowOf_71 : decode cX12_rowOf 71 = .ok (.istore 5, 2) := by decide +kernel
theorem dX12_rowOf_73 : decode cX12_rowOf 73 = .ok (.iload 5, 2) := by decide +kernel
theorem dX12_rowOf_75 : decode cX12_rowOf 75 = .ok (.ifCond .le 41, 3) := by decide +kernel
theorem dX12_rowOf_78 : decode cX12_rowOf 78 = .ok (.iload 4, 2) := by decide +kernel
theorem dX12_rowOf_80 : decode cX12_rowOf 80 = .ok (.iload_n 3, 1) := by decide +kernel
theorem dX12_rowOf_81 : decode cX12_rowOf 81 = .ok (.if_icmp .ge 35, 3) := by decide +kernel
theorem dX12_rowOf_84 : decode cX12_rowOf 84 = .ok (.iinc 4 1, 3) := by decide +kernel
theorem dX12_rowOf_87 : decode cX12_rowOf 87 = .ok (.iload 5, 2) := by decide +kernel
theorem dX12_rowOf_89 : decode cX12_rowOf 89 = .ok (.iload 4, 2) := by decide +kernel
theorem dX12_rowOf_91 : decode cX12_rowOf 91 = .ok (.iload_n 3, 1) := by decide +kernel
theorem dX12_rowOf_92 : decode cX12_rowOf 92 = .ok (.if_icmp .ge 17, 3) := by decide +kernel
theorem dX12_rowOf_95 : decode cX12_rowOf 95 = .ok (.aload_n 0, 1) := by decide +kernel
theorem dX12_rowOf_96 : decode cX12_rowOf 96 = .ok (.getfield 23, 3) := by decide +kernel
theorem dX12_rowOf_99 : decode cX12_rowOf 99 = .ok (.iload 4, 2) := by decide +kernel
theorem dX12_rowOf_101 : decode cX12_rowOf 101 = .ok (.baload, 1) := by decide +kernel
theorem dX12_rowOf_102 : decode cX12_rowOf 102 = .ok (.ifCond .ne 7, 3) := by decide +kernel
theorem dX12_rowOf_105 : decode cX12_rowOf 105 = .ok (.iconst 1, 1) := by decide +kernel
theorem dX12_rowOf_106 : decode cX12_rowOf 106 = .ok (.goto 4, 3) := by decide +kernel
theorem dX12_rowOf_109 : decode cX12_rowOf 109 = .ok (.iconst 0, 1) := by decide +kernel
theorem dX12_rowOf_110 : decode cX12_rowOf 110 = .ok (.isub, 1) := by decide +kernel
theorem dX12_rowOf_111 : decode cX12_rowOf 111 = .ok (.istore 5, 2) := by decide +kernel
theorem dX12_rowOf_113 : decode cX12_rowOf 113 = .ok (.goto (-40), 3) := by decide +kernel
theorem dX12_rowOf_116 : decode cX12_rowOf 116 = .ok (.aload_n 0, 1) := by decide +kernel
theorem dX12_rowOf_117 : decode cX12_rowOf 117 = .ok (.iload 4, 2) := by decide +kernel
theorem dX12_rowOf_119 : decode cX12_rowOf 119 = .ok (.iload_n 3, 1) := by decide +kernel
theorem dX12_rowOf_120 : decode cX12_rowOf 120 = .ok (.if_icmp .ge 8, 3) := by decide +kernel
theorem dX12_rowOf_123 : decode cX12_rowOf 123 = .ok (.iload 4, 2) := by decide +kernel
theorem dX12_rowOf_125 : decode cX12_rowOf 125 = .ok (.goto 4, 3) := by decide +kernel
theorem dX12_rowOf_128 : decode cX12_rowOf 128 = .ok (.iconst (-1), 1) := by decide +kernel
theorem dX12_rowOf_129 : decode cX12_rowOf 129 = .ok (.invokevirtual 209, 3) := by decide +kernel
theorem dX12_rowOf_132 : decode cX12_rowOf 132 = .ok (.ireturn, 1) := by decide +kernel
theorem dX12_steps_0 : decode cX12_steps 0 = .ok (.aload_n 0, 1) := by decide +kernel
theorem dX12_steps_1 : decode cX12_steps 1 = .ok (.getfield 354, 3) := by decide +kernel
theorem dX12_steps_4 : decode cX12_steps 4 = .ok (.ifCond .eq 12, 3) := by decide +kernel
theorem dX12_steps_7 : decode cX12_steps 7 = .ok (.aload_n 0, 1) := by decide +kernel
theorem dX12_steps_8 : decode cX12_steps 8 = .ok (.getfield 357, 3) := by decide +kernel
theorem dX12_steps_11 : decode cX12_steps 11 = .ok (.bipush 40, 2) := by decide +kernel
theorem dX12_steps_13 : decode cX12_steps 13 = .ok (.if_icmp .ne 4, 3) := by decide +kernel
theorem dX12_steps_16 : decode cX12_steps 16 = .ok (.return_, 1) := by decide +kernel
theorem dX12_steps_17 : decode cX12_steps 17 = .ok (.aload_n 0, 1) := by decide +kernel
theorem dX12_steps_18 : decode cX12_steps 18 = .ok (.getfield 101, 3) := by decide +kernel
theorem dX12_steps_21 : decode cX12_steps 21 = .ok (.aload_n 0, 1) := by decide +kernel
theorem dX12_steps_22 : decode cX12_steps 22 = .ok (.getfield 357, 3) := by decide +kernel
theorem dX12_steps_25 : decode cX12_steps 25 = .ok (.iload_n 1, 1) := by decide +kernel
theorem dX12_steps_26 : decode cX12_steps 26 = .ok (.iastore, 1) := by decide +kernel
theorem dX12_steps_27 : decode cX12_steps 27 = .ok (.aload_n 0, 1) := by decide +kernel
theorem dX12_steps_28 : decode cX12_steps 28 = .ok (.getfield 104, 3) := by decide +kernel
theorem dX12_steps_31 : decode cX12_steps 31 = .ok (.aload_n 0, 1) := by decide +kernel
theorem dX12_steps_32 : decode cX12_steps 32 = .ok (.getfield 357, 3) := by decide +kernel
theorem dX12_steps_35 : decode cX12_steps 35 = .ok (.iload_n 2, 1) := by decide +kernel
theorem dX12_steps_36 : decode cX12_steps 36 = .ok (.iastore, 1) := by decide +kernel
theorem dX12_steps_37 : decode cX12_steps 37 = .ok (.aload_n 0, 1) := by decide +kernel
theorem dX12_steps_38 : decode cX12_steps 38 = .ok (.getfield 107, 3) := by decide +kernel
theorem dX12_steps_41 : decode cX12_steps 41 = .ok (.aload_n 0, 1) := by decide +kernel
theorem dX12_steps_42 : decode cX12_steps 42 = .ok (.getfield 357, 3) := by decide +kernel
theorem dX12_steps_45 : decode cX12_steps 45 = .ok (.iload_n 3, 1) := by decide +kernel
theorem dX12_steps_46 : decode cX12_steps 46 = .ok (.iastore, 1) := by decide +kernel
theorem dX12_steps_47 : decode cX12_steps 47 = .ok (.aload_n 0, 1) := by decide +kernel
theorem dX12_steps_48 : decode cX12_steps 48 = .ok (.getfield 110, 3) := by decide +kernel
theorem dX12_steps_51 : decode cX12_steps 51 = .ok (.aload_n 0, 1) := by decide +kernel
theorem dX12_steps_52 : decode cX12_steps 52 = .ok (.getfield 357, 3) := by decide +kernel
theorem dX12_steps_55 : decode cX12_steps 55 = .ok (.aload_n 0, 1) := by decide +kernel
theorem dX12_steps_56 : decode cX12_steps 56 = .ok (.getfield 161, 3) := by decide +kernel
theorem dX12_steps_59 : decode cX12_steps 59 = .ok (.iastore, 1) := by decide +kernel
theorem dX12_steps_60 : decode cX12_steps 60 = .ok (.iconst 0, 1) := by decide +kernel
theorem dX12_steps_61 : decode cX12_steps 61 = .ok (.istore 4, 2) := by decide +kernel
theorem dX12_steps_63 : decode cX12_steps 63 = .ok (.iload 4, 2) := by decide +kernel
theorem dX12_steps_65 : decode cX12_steps 65 = .ok (.aload_n 0, 1) := by decide +kernel
theorem dX12_steps_66 : decode cX12_steps 66 = .ok (.getfield 161, 3) := by decide +kernel
theorem dX12_steps_69 : decode cX12_steps 69 = .ok (.if_icmp .ge 32, 3) := by decide +kernel
theorem dX12_steps_72 : decode cX12_steps 72 = .ok (.aload_n 0, 1) := by decide +kernel
theorem dX12_steps_73 : decode cX12_steps 73 = .ok (.getfield 113, 3) := by decide +kernel
theorem dX12_steps_76 : decode cX12_steps 76 = .ok (.sipush 200, 3) := by decide +kernel
theorem dX12_steps_79 : decode cX12_steps 79 = .ok (.aload_n 0, 1) := by decide +kernel
theorem dX12_steps_80 : decode cX12_steps 80 = .ok (.getfield 357, 3) := by decide +kernel
theorem dX12_steps_83 : decode cX12_steps 83 = .ok (.imul, 1) := by decide +kernel
theorem dX12_steps_84 : decode cX12_steps 84 = .ok (.iload 4, 2) := by decide +kernel
theorem dX12_steps_86 : decode cX12_steps 86 = .ok (.iadd, 1) := by decide +kernel
theorem dX12_steps_87 : decode cX12_steps 87 = .ok (.aload_n 0, 1) := by decide +kernel
theorem dX12_steps_88 : decode cX12_steps 88 = .ok (.getfield 30, 3) := by decide +kernel
theorem dX12_steps_91 : decode cX12_steps 91 = .ok (.iload 4, 2) := by decide +kernel
theorem dX12_steps_93 : decode cX12_steps 93 = .ok (.iaload, 1) := by decide +kernel
theorem dX12_steps_94 : decode cX12_steps 94 = .ok (.iastore, 1) := by decide +kernel
theorem dX12_steps_95 : decode cX12_steps 95 = .ok (.iinc 4 1, 3) := by decide +kernel
theorem dX12_steps_98 : decode cX12_steps 98 = .ok (.goto (-35), 3) := by decide +kernel
theorem dX12_steps_101 : decode cX12_steps 101 = .ok (.aload_n 0, 1) := by decide +kernel
theorem dX12_steps_102 : decode cX12_steps 102 = .ok (.dup, 1) := by decide +kernel
theorem dX12_steps_103 : decode cX12_steps 103 = .ok (.getfield 357, 3) := by decide +kernel
theorem dX12_steps_106 : decode cX12_steps 106 = .ok (.iconst 1, 1) := by decide +kernel
theorem dX12_steps_107 : decode cX12_steps 107 = .ok (.iadd, 1) := by decide +kernel
theorem dX12_steps_108 : decode cX12_steps 108 = .ok (.putfield 357, 3) := by decide +kernel
theorem dX12_steps_111 : decode cX12_steps 111 = .ok (.return_, 1) := by decide +kernel
theorem dX12_record_0 : decode cX12_record 0 = .ok (.aload_n 0, 1) := by decide +kernel
theorem dX12_record_1 : decode cX12_record 1 = .ok (.getfield 357, 3) := by decide +kernel
theorem dX12_record_4 : decode cX12_record 4 = .ok (.istore_n 2, 1) := by decide +kernel
theorem dX12_record_5 : decode cX12_record 5 = .ok (.iload_n 1, 1) := by decide +kernel
theorem dX12_record_6 : decode cX12_record 6 = .ok (.ifCond .eq 8, 3) := by decide +kernel
theorem dX12_record_9 : decode cX12_record 9 = .ok (.aload_n 0, 1) := by decide +kernel
theorem dX12_record_10 : decode cX12_record 10 = .ok (.iconst 0, 1) := by decide +kernel
theorem dX12_record_11 : decode cX12_record 11 = .ok (.putfield 357, 3) := by decide +kernel
theorem dX12_record_14 : decode cX12_record 14 = .ok (.aload_n 0, 1) := by decide +kernel
theorem dX12_record_15 : decode cX12_record 15 = .ok (.iload_n 1, 1) := by decide +kernel
theorem dX12_record_16 : decode cX12_record 16 = .ok (.putfield 354, 3) := by decide +kernel
theorem dX12_record_19 : decode cX12_record 19 = .ok (.aload_n 0, 1) := by decide +kernel
theorem dX12_record_20 : decode cX12_record 20 = .ok (.iload_n 2, 1) := by decide +kernel
theorem dX12_record_21 : decode cX12_record 21 = .ok (.invokevirtual 209, 3) := by decide +kernel
theorem dX12_record_24 : decode cX12_record 24 = .ok (.ireturn, 1) := by decide +kernel
theorem dX12_does_0 : decode cX12_does 0 = .ok (.aload_n 0, 1) := by decide +kernel
theorem dX12_does_1 : decode cX12_does 1 = .ok (.getfield 101, 3) := by decide +kernel
theorem dX12_does_4 : decode cX12_does 4 = .ok (.iload_n 1, 1) := by decide +kernel
theorem dX12_does_5 : decode cX12_does 5 = .ok (.iaload, 1) := by decide +kernel
theorem dX12_does_6 : decode cX12_does 6 = .ok (.iconst 2, 1) := by decide +kernel
theorem dX12_does_7 : decode cX12_does 7 = .ok (.if_icmp .ne 21, 3) := by decide +kernel
theorem dX12_does_10 : decode cX12_does 10 = .ok (.aload_n 0, 1) := by decide +kernel
theorem dX12_does_11 : decode cX12_does 11 = .ok (.aload_n 0, 1) := by decide +kernel
theorem dX12_does_12 : decode cX12_does 12 = .ok (.getfield 104, 3) := by decide +kernel
theorem dX12_does_15 : decode cX12_does 15 = .ok (.iload_n 1, 1) := by decide +kernel
theorem dX12_does_16 : decode cX12_does 16 = .ok (.iaload, 1) := by decide +kernel
theorem dX12_does_17 : decode cX12_does 17 = .ok (.aload_n 0, 1) := by decide +kernel
theorem dX12_does_18 : decode cX12_does 18 = .ok (.getfield 107, 3) := by decide +kernel
theorem dX12_does_21 : decode cX12_does 21 = .ok (.iload_n 1, 1) := by decide +kernel
theorem dX12_does_22 : decode cX12_does 22 = .ok (.iaload, 1) := by decide +kernel
theorem dX12_does_23 : decode cX12_does 23 = .ok (.invokevirtual 339, 3) := by decide +kernel
theorem dX12_does_26 : decode cX12_does 26 = .ok (.iconst 1, 1) := by decide +kernel
theorem dX12_does_27 : decode cX12_does 27 = .ok (.ireturn, 1) := by decide +kernel
theorem dX12_does_28 : decode cX12_does 28 = .ok (.aload_n 0, 1) := by decide +kernel
theorem dX12_does_29 : decode cX12_does 29 = .ok (.getfield 101, 3) := by decide +kernel
theorem dX12_does_32 : decode cX12_does 32 = .ok (.iload_n 1, 1) := by decide +kernel
theorem dX12_does_33 : decode cX12_does 33 = .ok (.iaload, 1) := by decide +kernel
theorem dX12_does_34 : decode cX12_does 34 = .ok (.iconst 1, 1) := by decide +kernel
theorem dX12_does_35 : decode cX12_does 35 = .ok (.if_icmp .ne 14, 3) := by decide +kernel
theorem dX12_does_38 : decode cX12_does 38 = .ok (.aload_n 0, 1) := by decide +kernel
theorem dX12_does_39 : decode cX12_does 39 = .ok (.aload_n 0, 1) := by decide +kernel
theorem dX12_does_40 : decode cX12_does 40 = .ok (.getfield 104, 3) := by decide +kernel
theorem dX12_does_43 : decode cX12_does 43 = .ok (.iload_n 1, 1) := by decide +kernel
theorem dX12_does_44 : decode cX12_does 44 = .ok (.iaload, 1) := by decide +kernel
theorem dX12_does_45 : decode cX12_does 45 = .ok (.invokevirtual 264, 3) := by decide +kernel
theorem dX12_does_48 : decode cX12_does 48 = .ok (.ireturn, 1) := by decide +kernel
theorem dX12_does_49 : decode cX12_does 49 = .ok (.aload_n 0, 1) := by decide +kernel
theorem dX12_does_50 : decode cX12_does 50 = .ok (.getfield 101, 3) := by decide +kernel
theorem dX12_does_53 : decode cX12_does 53 = .ok (.iload_n 1, 1) := by decide +kernel
theorem dX12_does_54 : decode cX12_does 54 = .ok (.iaload, 1) := by decide +kernel
theorem dX12_does_55 : decode cX12_does 55 = .ok (.iconst 3, 1) := by decide +kernel
theorem dX12_does_56 : decode cX12_does 56 = .ok (.if_icmp .ne 8, 3) := by decide +kernel
theorem dX12_does_59 : decode cX12_does 59 = .ok (.aload_n 0, 1) := by decide +kernel
theorem dX12_does_60 : decode cX12_does 60 = .ok (.invokevirtual 273, 3) := by decide +kernel
theorem dX12_does_63 : decode cX12_does 63 = .ok (.ireturn, 1) := by decide +kernel
theorem dX12_does_64 : decode cX12_does 64 = .ok (.aload_n 0, 1) := by decide +kernel
theorem dX12_does_65 : decode cX12_does 65 = .ok (.getfield 161, 3) := by decide +kernel
theorem dX12_does_68 : decode cX12_does 68 = .ok (.istore_n 2, 1) := by decide +kernel
theorem dX12_does_69 : decode cX12_does 69 = .ok (.iconst 0, 1) := by decide +kernel
theorem dX12_does_70 : decode cX12_does 70 = .ok (.istore_n 3, 1) := by decide +kernel
theorem dX12_does_71 : decode cX12_does 71 = .ok (.iload_n 3, 1) := by decide +kernel
theorem dX12_does_72 : decode cX12_does 72 = .ok (.iload_n 2, 1) := by decide +kernel
theorem dX12_does_73 : decode cX12_does 73 = .ok (.if_icmp .ge 21, 3) := by decide +kernel
theorem dX12_does_76 : decode cX12_does 76 = .ok (.aload_n 0, 1) := by decide +kernel
theorem dX12_does_77 : decode cX12_does 77 = .ok (.getfield 116, 3) := by decide +kernel
theorem dX12_does_80 : decode cX12_does 80 = .ok (.iload_n 3, 1) := by decide +kernel
theorem dX12_does_81 : decode cX12_does 81 = .ok (.aload_n 0, 1) := by decide +kernel
theorem dX12_does_82 : decode cX12_does 82 = .ok (.getfield 30, 3) := by decide +kernel
theorem dX12_does_85 : decode cX12_does 85 = .ok (.iload_n 3, 1) := by decide +kernel
theorem dX12_does_86 : decode cX12_does 86 = .ok (.iaload, 1) := by decide +kernel
theorem dX12_does_87 : decode cX12_does 87 = .ok (.iastore, 1) := by decide +kernel
theorem dX12_does_88 : decode cX12_does 88 = .ok (.iinc 3 1, 3) := by decide +kernel
theorem dX12_does_91 : decode cX12_does 91 = .ok (.goto (-20), 3) := by decide +kernel
theorem dX12_does_94 : decode cX12_does 94 = .ok (.aload_n 0, 1) := by decide +kernel
theorem dX12_does_95 : decode cX12_does 95 = .ok (.aload_n 0, 1) := by decide +kernel
theorem dX12_does_96 : decode cX12_does 96 = .ok (.getfield 110, 3) := by decide +kernel
theorem dX12_does_99 : decode cX12_does 99 = .ok (.iload_n 1, 1) := by decide +kernel
theorem dX12_does_100 : decode cX12_does 100 = .ok (.iaload, 1) := by decide +kernel
theorem dX12_does_101 : decode cX12_does 101 = .ok (.putfield 161, 3) := by decide +kernel
theorem dX12_does_104 : decode cX12_does 104 = .ok (.iconst 0, 1) := by decide +kernel
theorem dX12_does_105 : decode cX12_does 105 = .ok (.istore_n 3, 1) := by decide +kernel
theorem dX12_does_106 : decode cX12_does 106 = .ok (.iload_n 3, 1) := by decide +kernel
theorem dX12_does_107 : decode cX12_does 107 = .ok (.aload_n 0, 1) := by decide +kernel
theorem dX12_does_108 : decode cX12_does 108 = .ok (.getfield 161, 3) := by decide +kernel
theorem dX12_does_111 : decode cX12_does 111 = .ok (.if_icmp .ge 27, 3) := by decide +kernel
theorem dX12_does_114 : decode cX12_does 114 = .ok (.aload_n 0, 1) := by decide +kernel
theorem dX12_does_115 : decode cX12_does 115 = .ok (.getfield 30, 3) := by decide +kernel
theorem dX12_does_118 : decode cX12_does 118 = .ok (.iload_n 3, 1) := by decide +kernel
theorem dX12_does_119 : decode cX12_does 119 = .ok (.aload_n 0, 1) := by decide +kernel
theorem dX12_does_120 : decode cX12_does 120 = .ok (.getfield 113, 3) := by decide +kernel
theorem dX12_does_123 : decode cX12_does 123 = .ok (.sipush 200, 3) := by decide +kernel
theorem dX12_does_126 : decode cX12_does 126 = .ok (.iload_n 1, 1) := by decide +kernel
theorem dX12_does_127 : decode cX12_does 127 = .ok (.imul, 1) := by decide +kernel
theorem dX12_does_128 : decode cX12_does 128 = .ok (.iload_n 3, 1) := by decide +kernel
theorem dX12_does_129 : decode cX12_does 129 = .ok (.iadd, 1) := by decide +kernel
theorem dX12_does_130 : decode cX12_does 130 = .ok (.iaload, 1) := by decide +kernel
theorem dX12_does_131 : decode cX12_does 131 = .ok (.iastore, 1) := by decide +kernel
theorem dX12_does_132 : decode cX12_does 132 = .ok (.iinc 3 1, 3) := by decide +kernel
theorem dX12_does_135 : decode cX12_does 135 = .ok (.goto (-29), 3) := by decide +kernel
theorem dX12_does_138 : decode cX12_does 138 = .ok (.aload_n 0, 1) := by decide +kernel
theorem dX12_does_139 : decode cX12_does 139 = .ok (.invokevirtual 247, 3) := by decide +kernel
theorem dX12_does_142 : decode cX12_does 142 = .ok (.istore_n 3, 1) := by decide +kernel
theorem dX12_does_143 : decode cX12_does 143 = .ok (.aload_n 0, 1) := by decide +kernel
theorem dX12_does_144 : decode cX12_does 144 = .ok (.iload_n 2, 1) := by decide +kernel
theorem dX12_does_145 : decode cX12_does 145 = .ok (.putfield 161, 3) := by decide +kernel
theorem dX12_does_148 : decode cX12_does 148 = .ok (.iconst 0, 1) := by decide +kernel
theorem dX12_does_149 : decode cX12_does 149 = .ok (.istore 4, 2) := by decide +kernel
theorem dX12_does_151 : decode cX12_does 151 = .ok (.iload 4, 2) := by decide +kernel
theorem dX12_does_153 : decode cX12_does 153 = .ok (.iload_n 2, 1) := by decide +kernel
theorem dX12_does_154 : decode cX12_does 154 = .ok (.if_icmp .ge 23, 3) := by decide +kernel
theorem dX12_does_157 : decode cX12_does 157 = .ok (.aload_n 0, 1) := by decide +kernel
theorem dX12_does_158 : decode cX12_does 158 = .ok (.getfield 30, 3) := by decide +kernel
theorem dX12_does_161 : decode cX12_does 161 = .ok (.iload 4, 2) := by decide +kernel
theorem dX12_does_163 : decode cX12_does 163 = .ok (.aload_n 0, 1) := by decide +kernel
theorem dX12_does_164 : decode cX12_does 164 = .ok (.getfield 116, 3) := by decide +kernel
theorem dX12_does_167 : decode cX12_does 167 = .ok (.iload 4, 2) := by decide +kernel
theorem dX12_does_169 : decode cX12_does 169 = .ok (.iaload, 1) := by decide +kernel
theorem dX12_does_170 : decode cX12_does 170 = .ok (.iastore, 1) := by decide +kernel
theorem dX12_does_171 : decode cX12_does 171 = .ok (.iinc 4 1, 3) := by decide +kernel
theorem dX12_does_174 : decode cX12_does 174 = .ok (.goto (-23), 3) := by decide +kernel
theorem dX12_does_177 : decode cX12_does 177 = .ok (.iload_n 3, 1) := by decide +kernel
theorem dX12_does_178 : decode cX12_does 178 = .ok (.ireturn, 1) := by decide +kernel
theorem dX12_play_0 : decode cX12_play 0 = .ok (.iload_n 1, 1) := by decide +kernel
theorem dX12_play_1 : decode cX12_play 1 = .ok (.iconst 1, 1) := by decide +kernel
theorem dX12_play_2 : decode cX12_play 2 = .ok (.bipush 20, 2) := by decide +kernel
theorem dX12_play_4 : decode cX12_play 4 = .ok (.invokestatic 134, 3) := by decide +kernel
theorem dX12_play_7 : decode cX12_play 7 = .ok (.ifCond .ne 9, 3) := by decide +kernel
theorem dX12_play_10 : decode cX12_play 10 = .ok (.aload_n 0, 1) := by decide +kernel
theorem dX12_play_11 : decode cX12_play 11 = .ok (.iconst 1, 1) := by decide +kernel
theorem dX12_play_12 : decode cX12_play 12 = .ok (.invokevirtual 206, 3) := by decide +kernel
theorem dX12_play_15 : decode cX12_play 15 = .ok (.ireturn, 1) := by decide +kernel
theorem dX12_play_16 : decode cX12_play 16 = .ok (.aload_n 0, 1) := by decide +kernel
theorem dX12_play_17 : decode cX12_play 17 = .ok (.getfield 354, 3) := by decide +kernel
theorem dX12_play_20 : decode cX12_play 20 = .ok (.ifCond .eq 9, 3) := by decide +kernel
theorem dX12_play_23 : decode cX12_play 23 = .ok (.aload_n 0, 1) := by decide +kernel
theorem dX12_play_24 : decode cX12_play 24 = .ok (.iconst 2, 1) := by decide +kernel
theorem dX12_play_25 : decode cX12_play 25 = .ok (.invokevirtual 206, 3) := by decide +kernel
theorem dX12_play_28 : decode cX12_play 28 = .ok (.ireturn, 1) := by decide +kernel
theorem dX12_play_29 : decode cX12_play 29 = .ok (.aload_n 0, 1) := by decide +kernel
theorem dX12_play_30 : decode cX12_play 30 = .ok (.getfield 174, 3) := by decide +kernel
theorem dX12_play_33 : decode cX12_play 33 = .ok (.istore_n 2, 1) := by decide +kernel
theorem dX12_play_34 : decode cX12_play 34 = .ok (.aload_n 0, 1) := by decide +kernel
theorem dX12_play_35 : decode cX12_play 35 = .ok (.iconst 1, 1) := by decide +kernel
theorem dX12_play_36 : decode cX12_play 36 = .ok (.putfield 174, 3) := by decide +kernel
theorem dX12_play_39 : decode cX12_play 39 = .ok (.iconst 0, 1) := by decide +kernel
theorem dX12_play_40 : decode cX12_play 40 = .ok (.istore_n 3, 1) := by decide +kernel
theorem dX12_play_41 : decode cX12_play 41 = .ok (.iconst 1, 1) := by decide +kernel
theorem dX12_play_42 : decode cX12_play 42 = .ok (.istore 4, 2) := by decide +kernel
theorem dX12_play_44 : decode cX12_play 44 = .ok (.iconst 0, 1) := by decide +kernel
theorem dX12_play_45 : decode cX12_play 45 = .ok (.istore 5, 2) := by decide +kernel
theorem dX12_play_47 : decode cX12_play 47 = .ok (.iload 5, 2) := by decide +kernel
theorem dX12_play_49 : decode cX12_play 49 = .ok (.iload_n 1, 1) := by decide +kernel
theorem dX12_play_50 : decode cX12_play 50 = .ok (.if_icmp .ge 58, 3) := by decide +kernel
theorem dX12_play_53 : decode cX12_play 53 = .ok (.iload 4, 2) := by decide +kernel
theorem dX12_play_55 : decode cX12_play 55 = .ok (.ifCond .eq 53, 3) := by decide +kernel
theorem dX12_play_58 : decode cX12_play 58 = .ok (.iconst 0, 1) := by decide +kernel
theorem dX12_play_59 : decode cX12_play 59 = .ok (.istore 6, 2) := by decide +kernel
theorem dX12_play_61 : decode cX12_play 61 = .ok (.iload 6, 2) := by decide +kernel
theorem dX12_play_63 : decode cX12_play 63 = .ok (.aload_n 0, 1) := by decide +kernel
theorem dX12_play_64 : decode cX12_play 64 = .ok (.getfield 357, 3) := by decide +kernel
theorem dX12_play_67 : decode cX12_play 67 = .ok (.if_icmp .ge 35, 3) := by decide +kernel
theorem dX12_play_70 : decode cX12_play 70 = .ok (.iload 4, 2) := by decide +kernel
theorem dX12_play_72 : decode cX12_play 72 = .ok (.ifCond .eq 30, 3) := by decide +kernel
theorem dX12_play_75 : decode cX12_play 75 = .ok (.aload_n 0, 1) := by decide +kernel
theorem dX12_play_76 : decode cX12_play 76 = .ok (.iload 6, 2) := by decide +kernel
theorem dX12_play_78 : decode cX12_play 78 = .ok (.invokevirtual 360, 3) := by decide +kernel
theorem dX12_play_81 : decode cX12_play 81 = .ok (.istore 4, 2) := by decide +kernel
theorem dX12_play_83 : decode cX12_play 83 = .ok (.iload_n 3, 1) := by decide +kernel
theorem dX12_play_84 : decode cX12_play 84 = .ok (.iload 4, 2) := by decide +kernel
theorem dX12_play_86 : decode cX12_play 86 = .ok (.ifCond .eq 7, 3) := by decide +kernel
theorem dX12_play_89 : decode cX12_play 89 = .ok (.iconst 1, 1) := by decide +kernel
theorem dX12_play_90 : decode cX12_play 90 = .ok (.goto 4, 3) := by decide +kernel
theorem dX12_play_93 : decode cX12_play 93 = .ok (.iconst 0, 1) := by decide +kernel
theorem dX12_play_94 : decode cX12_play 94 = .ok (.iadd, 1) := by decide +kernel
theorem dX12_play_95 : decode cX12_play 95 = .ok (.istore_n 3, 1) := by decide +kernel
theorem dX12_play_96 : decode cX12_play 96 = .ok (.iinc 6 1, 3) := by decide +kernel
theorem dX12_play_99 : decode cX12_play 99 = .ok (.goto (-38), 3) := by decide +kernel
theorem dX12_play_102 : decode cX12_play 102 = .ok (.iinc 5 1, 3) := by decide +kernel
theorem dX12_play_105 : decode cX12_play 105 = .ok (.goto (-58), 3) := by decide +kernel
theorem dX12_play_108 : decode cX12_play 108 = .ok (.iload_n 2, 1) := by decide +kernel
theorem dX12_play_109 : decode cX12_play 109 = .ok (.ifCond .ne 7, 3) := by decide +kernel
theorem dX12_play_112 : decode cX12_play 112 = .ok (.aload_n 0, 1) := by decide +kernel
theorem dX12_play_113 : decode cX12_play 113 = .ok (.invokevirtual 297, 3) := by decide +kernel
theorem dX12_play_116 : decode cX12_play 116 = .ok (.aload_n 0, 1) := by decide +kernel
theorem dX12_play_117 : decode cX12_play 117 = .ok (.iload_n 3, 1) := by decide +kernel
theorem dX12_play_118 : decode cX12_play 118 = .ok (.invokevirtual 209, 3) := by decide +kernel
theorem dX12_play_121 : decode cX12_play 121 = .ok (.ireturn, 1) := by decide +kernel
theorem dX12_words_0 : decode cX12_words 0 = .ok (.iconst 0, 1) := by decide +kernel
theorem dX12_words_1 : decode cX12_words 1 = .ok (.istore_n 1, 1) := by decide +kernel
theorem dX12_words_2 : decode cX12_words 2 = .ok (.iconst 0, 1) := by decide +kernel
theorem dX12_words_3 : decode cX12_words 3 = .ok (.istore_n 2, 1) := by decide +kernel
theorem dX12_words_4 : decode cX12_words 4 = .ok (.iload_n 2, 1) := by decide +kernel
theorem dX12_words_5 : decode cX12_words 5 = .ok (.aload_n 0, 1) := by decide +kernel
theorem dX12_words_6 : decode cX12_words 6 = .ok (.getfield 138, 3) := by decide +kernel
theorem dX12_words_9 : decode cX12_words 9 = .ok (.if_icmp .ge 47, 3) := by decide +kernel
theorem dX12_words_12 : decode cX12_words 12 = .ok (.iload_n 1, 1) := by decide +kernel
theorem dX12_words_13 : decode cX12_words 13 = .ok (.aload_n 0, 1) := by decide +kernel
theorem dX12_words_14 : decode cX12_words 14 = .ok (.getfield 7, 3) := by decide +kernel
theorem dX12_words_17 : decode cX12_words 17 = .ok (.iload_n 2, 1) := by decide +kernel
theorem dX12_words_18 : decode cX12_words 18 = .ok (.iaload, 1) := by decide +kernel
theorem dX12_words_19 : decode cX12_words 19 = .ok (.invokestatic 285, 3) := by decide +kernel
theorem dX12_words_22 : decode cX12_words 22 = .ok (.ifCond .eq 25, 3) := by decide +kernel
theorem dX12_words_25 : decode cX12_words 25 = .ok (.iload_n 2, 1) := by decide +kernel
theorem dX12_words_26 : decode cX12_words 26 = .ok (.ifCond .eq 17, 3) := by decide +kernel
theorem dX12_words_29 : decode cX12_words 29 = .ok (.aload_n 0, 1) := by decide +kernel
theorem dX12_words_30 : decode cX12_words 30 = .ok (.getfield 7, 3) := by decide +kernel
theorem dX12_words_33 : decode cX12_words 33 = .ok (.iload_n 2, 1) := by decide +kernel
theorem dX12_words_34 : decode cX12_words 34 = .ok (.iconst 1, 1) := by decide +kernel
theorem dX12_words_35 : decode cX12_words 35 = .ok (.isub, 1) := by decide +kernel
theorem dX12_words_36 : decode cX12_words 36 = .ok (.iaload, 1) := by decide +kernel
theorem dX12_words_37 : decode cX12_words 37 = .ok (.invokestatic 285, 3) := by decide +kernel
theorem dX12_words_40 : decode cX12_words 40 = .ok (.ifCond .ne 7, 3) := by decide +kernel
theorem dX12_words_43 : decode cX12_words 43 = .ok (.iconst 1, 1) := by decide +kernel
theorem dX12_words_44 : decode cX12_words 44 = .ok (.goto 4, 3) := by decide +kernel
theorem dX12_words_47 : decode cX12_words 47 = .ok (.iconst 0, 1) := by decide +kernel
theorem dX12_words_48 : decode cX12_words 48 = .ok (.iadd, 1) := by decide +kernel
theorem dX12_words_49 : decode cX12_words 49 = .ok (.istore_n 1, 1) := by decide +kernel
theorem dX12_words_50 : decode cX12_words 50 = .ok (.iinc 2 1, 3) := by decide +kernel
theorem dX12_words_53 : decode cX12_words 53 = .ok (.goto (-49), 3) := by decide +kernel
theorem dX12_words_56 : decode cX12_words 56 = .ok (.iload_n 1, 1) := by decide +kernel
theorem dX12_words_57 : decode cX12_words 57 = .ok (.ireturn, 1) := by decide +kernel
theorem dX12_marks_0 : decode cX12_marks 0 = .ok (.iconst 0, 1) := by decide +kernel
theorem dX12_marks_1 : decode cX12_marks 1 = .ok (.istore_n 1, 1) := by decide +kernel
theorem dX12_marks_2 : decode cX12_marks 2 = .ok (.iconst 0, 1) := by decide +kernel
theorem dX12_marks_3 : decode cX12_marks 3 = .ok (.istore_n 2, 1) := by decide +kernel
theorem dX12_marks_4 : decode cX12_marks 4 = .ok (.iload_n 2, 1) := by decide +kernel
theorem dX12_marks_5 : decode cX12_marks 5 = .ok (.bipush 16, 2) := by decide +kernel
theorem dX12_marks_7 : decode cX12_marks 7 = .ok (.if_icmp .ge 27, 3) := by decide +kernel
theorem dX12_marks_10 : decode cX12_marks 10 = .ok (.iload_n 1, 1) := by decide +kernel
theorem dX12_marks_11 : decode cX12_marks 11 = .ok (.aload_n 0, 1) := by decide +kernel
theorem dX12_marks_12 : decode cX12_marks 12 = .ok (.getfield 16, 3) := by decide +kernel
theorem dX12_marks_15 : decode cX12_marks 15 = .ok (.iload_n 2, 1) := by decide +kernel
theorem dX12_marks_16 : decode cX12_marks 16 = .ok (.iaload, 1) := by decide +kernel
theorem dX12_marks_17 : decode cX12_marks 17 = .ok (.iconst (-1), 1) := by decide +kernel
theorem dX12_marks_18 : decode cX12_marks 18 = .ok (.if_icmp .ne 7, 3) := by decide +kernel
theorem dX12_marks_21 : decode cX12_marks 21 = .ok (.iconst 0, 1) := by decide +kernel
theorem dX12_marks_22 : decode cX12_marks 22 = .ok (.goto 4, 3) := by decide +kernel
theorem dX12_marks_25 : decode cX12_marks 25 = .ok (.iconst 1, 1) := by decide +kernel
theorem dX12_marks_26 : decode cX12_marks 26 = .ok (.iadd, 1) := by decide +kernel
theorem dX12_marks_27 : decode cX12_marks 27 = .ok (.istore_n 1, 1) := by decide +kernel
theorem dX12_marks_28 : decode cX12_marks 28 = .ok (.iinc 2 1, 3) := by decide +kernel
theorem dX12_marks_31 : decode cX12_marks 31 = .ok (.goto (-27), 3) := by decide +kernel
theorem dX12_marks_34 : decode cX12_marks 34 = .ok (.iload_n 1, 1) := by decide +kernel
theorem dX12_marks_35 : decode cX12_marks 35 = .ok (.ireturn, 1) := by decide +kernel
theorem dX12_count_0 : decode cX12_count 0 = .ok (.iload_n 1, 1) := by decide +kernel
theorem dX12_count_1 : decode cX12_count 1 = .ok (.tableswitch 119 0 7 #[47, 56, 65, 74, 83, 92, 101, 110], 47) := by decide +kernel
theorem dX12_count_48 : decode cX12_count 48 = .ok (.aload_n 0, 1) := by decide +kernel
theorem dX12_count_49 : decode cX12_count 49 = .ok (.aload_n 0, 1) := by decide +kernel
theorem dX12_count_50 : decode cX12_count 50 = .ok (.getfield 138, 3) := by decide +kernel
theorem dX12_count_53 : decode cX12_count 53 = .ok (.invokevirtual 209, 3) := by decide +kernel
theorem dX12_count_56 : decode cX12_count 56 = .ok (.ireturn, 1) := by decide +kernel
theorem dX12_count_57 : decode cX12_count 57 = .ok (.aload_n 0, 1) := by decide +kernel
theorem dX12_count_58 : decode cX12_count 58 = .ok (.aload_n 0, 1) := by decide +kernel
theorem dX12_count_59 : decode cX12_count 59 = .ok (.invokevirtual 141, 3) := by decide +kernel
theorem dX12_count_62 : decode cX12_count 62 = .ok (.invokevirtual 209, 3) := by decide +kernel
theorem dX12_count_65 : decode cX12_count 65 = .ok (.ireturn, 1) := by decide +kernel
theorem dX12_count_66 : decode cX12_count 66 = .ok (.aload_n 0, 1) := by decide +kernel
theorem dX12_count_67 : decode cX12_count 67 = .ok (.aload_n 0, 1) := by decide +kernel
theorem dX12_count_68 : decode cX12_count 68 = .ok (.getfield 26, 3) := by decide +kernel
theorem dX12_count_71 : decode cX12_count 71 = .ok (.invokevirtual 209, 3) := by decide +kernel
theorem dX12_count_74 : decode cX12_count 74 = .ok (.ireturn, 1) := by decide +kernel
theorem dX12_count_75 : decode cX12_count 75 = .ok (.aload_n 0, 1) := by decide +kernel
theorem dX12_count_76 : decode cX12_count 76 = .ok (.aload_n 0, 1) := by decide +kernel
theorem dX12_count_77 : decode cX12_count 77 = .ok (.invokevirtual 363, 3) := by decide +kernel
theorem dX12_count_80 : decode cX12_count 80 = .ok (.invokevirtual 209, 3) := by decide +kernel
theorem dX12_count_83 : decode cX12_count 83 = .ok (.ireturn, 1) := by decide +kernel
theorem dX12_count_84 : decode cX12_count 84 = .ok (.aload_n 0, 1) := by decide +kernel
theorem dX12_count_85 : decode cX12_count 85 = .ok (.aload_n 0, 1) := by decide +kernel
theorem dX12_count_86 : decode cX12_count 86 = .ok (.invokevirtual 345, 3) := by decide +kernel
theorem dX12_count_89 : decode cX12_count 89 = .ok (.invokevirtual 209, 3) := by decide +kernel
theorem dX12_count_92 : decode cX12_count 92 = .ok (.ireturn, 1) := by decide +kernel
theorem dX12_count_93 : decode cX12_count 93 = .ok (.aload_n 0, 1) := by decide +kernel
theorem dX12_count_94 : decode cX12_count 94 = .ok (.aload_n 0, 1) := by decide +kernel
theorem dX12_count_95 : decode cX12_count 95 = .ok (.getfield 161, 3) := by decide +kernel
theorem dX12_count_98 : decode cX12_count 98 = .ok (.invokevirtual 209, 3) := by decide +kernel
theorem dX12_count_101 : decode cX12_count 101 = .ok (.ireturn, 1) := by decide +kernel
theorem dX12_count_102 : decode cX12_count 102 = .ok (.aload_n 0, 1) := by decide +kernel
theorem dX12_count_103 : decode cX12_count 103 = .ok (.aload_n 0, 1) := by decide +kernel
theorem dX12_count_104 : decode cX12_count 104 = .ok (.getfield 215, 3) := by decide +kernel
theorem dX12_count_107 : decode cX12_count 107 = .ok (.invokevirtual 209, 3) := by decide +kernel
theorem dX12_count_110 : decode cX12_count 110 = .ok (.ireturn, 1) := by decide +kernel
theorem dX12_count_111 : decode cX12_count 111 = .ok (.aload_n 0, 1) := by decide +kernel
theorem dX12_count_112 : decode cX12_count 112 = .ok (.aload_n 0, 1) := by decide +kernel
theorem dX12_count_113 : decode cX12_count 113 = .ok (.invokevirtual 366, 3) := by decide +kernel
theorem dX12_count_116 : decode cX12_count 116 = .ok (.invokevirtual 209, 3) := by decide +kernel
theorem dX12_count_119 : decode cX12_count 119 = .ok (.ireturn, 1) := by decide +kernel
theorem dX12_count_120 : decode cX12_count 120 = .ok (.aload_n 0, 1) := by decide +kernel
theorem dX12_count_121 : decode cX12_count 121 = .ok (.iconst 1, 1) := by decide +kernel
theorem dX12_count_122 : decode cX12_count 122 = .ok (.invokevirtual 206, 3) := by decide +kernel
theorem dX12_count_125 : decode cX12_count 125 = .ok (.ireturn, 1) := by decide +kernel
theorem dX12_letterAt_0 : decode cX12_letterAt 0 = .ok (.iload_n 1, 1) := by decide +kernel
theorem dX12_letterAt_1 : decode cX12_letterAt 1 = .ok (.iconst 0, 1) := by decide +kernel
theorem dX12_letterAt_2 : decode cX12_letterAt 2 = .ok (.aload_n 0, 1) := by decide +kernel
theorem dX12_letterAt_3 : decode cX12_letterAt 3 = .ok (.getfield 138, 3) := by decide +kernel
theorem dX12_letterAt_6 : decode cX12_letterAt 6 = .ok (.iconst 1, 1) := by decide +kernel
theorem dX12_letterAt_7 : decode cX12_letterAt 7 = .ok (.isub, 1) := by decide +kernel
theorem dX12_letterAt_8 : decode cX12_letterAt 8 = .ok (.invokestatic 134, 3) := by decide +kernel
theorem dX12_letterAt_11 : decode cX12_letterAt 11 = .ok (.ifCond .eq 16, 3) := by decide +kernel
theorem dX12_letterAt_14 : decode cX12_letterAt 14 = .ok (.aload_n 0, 1) := by decide +kernel
theorem dX12_letterAt_15 : decode cX12_letterAt 15 = .ok (.aload_n 0, 1) := by decide +kernel
theorem dX12_letterAt_16 : decode cX12_letterAt 16 = .ok (.getfield 7, 3) := by decide +kernel
theorem dX12_letterAt_19 : decode cX12_letterAt 19 = .ok (.iload_n 1, 1) := by decide +kernel
theorem dX12_letterAt_20 : decode cX12_letterAt 20 = .ok (.iaload, 1) := by decide +kernel
theorem dX12_letterAt_21 : decode cX12_letterAt 21 = .ok (.invokevirtual 209, 3) := by decide +kernel
theorem dX12_letterAt_24 : decode cX12_letterAt 24 = .ok (.goto 8, 3) := by decide +kernel
theorem dX12_letterAt_27 : decode cX12_letterAt 27 = .ok (.aload_n 0, 1) := by decide +kernel
theorem dX12_letterAt_28 : decode cX12_letterAt 28 = .ok (.iconst 1, 1) := by decide +kernel
theorem dX12_letterAt_29 : decode cX12_letterAt 29 = .ok (.invokevirtual 206, 3) := by decide +kernel
theorem dX12_letterAt_32 : decode cX12_letterAt 32 = .ok (.ireturn, 1) := by decide +kernel
theorem dX12_lineOf_0 : decode cX12_lineOf 0 = .ok (.aload_n 0, 1) := by decide +kernel
theorem dX12_lineOf_1 : decode cX12_lineOf 1 = .ok (.iload_n 1, 1) := by decide +kernel
theorem dX12_lineOf_2 : decode cX12_lineOf 2 = .ok (.invokevirtual 218, 3) := by decide +kernel
theorem dX12_lineOf_5 : decode cX12_lineOf 5 = .ok (.ifCond .eq 15, 3) := by decide +kernel
theorem dX12_lineOf_8 : decode cX12_lineOf 8 = .ok (.aload_n 0, 1) := by decide +kernel
theorem dX12_lineOf_9 : decode cX12_lineOf 9 = .ok (.aload_n 0, 1) := by decide +kernel
theorem dX12_lineOf_10 : decode cX12_lineOf 10 = .ok (.iload_n 1, 1) := by decide +kernel
theorem dX12_lineOf_11 : decode cX12_lineOf 11 = .ok (.invokevirtual 149, 3) := by decide +kernel
theorem dX12_lineOf_14 : decode cX12_lineOf 14 = .ok (.invokevirtual 209, 3) := by decide +kernel
theorem dX12_lineOf_17 : decode cX12_lineOf 17 = .ok (.goto 8, 3) := by decide +kernel
theorem dX12_lineOf_20 : decode cX12_lineOf 20 = .ok (.aload_n 0, 1) := by decide +kernel
theorem dX12_lineOf_21 : decode cX12_lineOf 21 = .ok (.iconst 1, 1) := by decide +kernel
theorem dX12_lineOf_22 : decode cX12_lineOf 22 = .ok (.invokevirtual 206, 3) := by decide +kernel
theorem dX12_lineOf_25 : decode cX12_lineOf 25 = .ok (.ireturn, 1) := by decide +kernel
theorem dX12_columnOf_0 : decode cX12_columnOf 0 = .ok (.aload_n 0, 1) := by decide +kernel
theorem dX12_columnOf_1 : decode cX12_columnOf 1 = .ok (.iload_n 1, 1) := by decide +kernel
theorem dX12_columnOf_2 : decode cX12_columnOf 2 = .ok (.invokevirtual 218, 3) := by decide +kernel
theorem dX12_columnOf_5 : decode cX12_columnOf 5 = .ok (.ifCond .eq 15, 3) := by decide +kernel
theorem dX12_columnOf_8 : decode cX12_columnOf 8 = .ok (.aload_n 0, 1) := by decide +kernel
theorem dX12_columnOf_9 : decode cX12_columnOf 9 = .ok (.aload_n 0, 1) := by decide +kernel
theorem dX12_columnOf_10 : decode cX12_columnOf 10 = .ok (.iload_n 1, 1) := by decide +kernel
theorem dX12_columnOf_11 : decode cX12_columnOf 11 = .ok (.invokevirtual 322, 3) := by decide +kernel
theorem dX12_columnOf_14 : decode cX12_columnOf 14 = .ok (.invokevirtual 209, 3) := by decide +kernel
theorem dX12_columnOf_17 : decode cX12_columnOf 17 = .ok (.goto 8, 3) := by decide +kernel
theorem dX12_columnOf_20 : decode cX12_columnOf 20 = .ok (.aload_n 0, 1) := by decide +kernel
theorem dX12_columnOf_21 : decode cX12_columnOf 21 = .ok (.iconst 1, 1) := by decide +kernel
theorem dX12_columnOf_22 : decode cX12_columnOf 22 = .ok (.invokevirtual 206, 3) := by decide +kernel
theorem dX12_columnOf_25 : decode cX12_columnOf 25 = .ok (.ireturn, 1) := by decide +kernel
theorem dX12_placeAt_0 : decode cX12_placeAt 0 = .ok (.aload_n 0, 1) := by decide +kernel
theorem dX12_placeAt_1 : decode cX12_placeAt 1 = .ok (.iload_n 1, 1) := by decide +kernel
theorem dX12_placeAt_2 : decode cX12_placeAt 2 = .ok (.invokevirtual 225, 3) := by decide +kernel
theorem dX12_placeAt_5 : decode cX12_placeAt 5 = .ok (.ifCond .ne 9, 3) := by decide +kernel
theorem dX12_placeAt_8 : decode cX12_placeAt 8 = .ok (.aload_n 0, 1) := by decide +kernel
theorem dX12_placeAt_9 : decode cX12_placeAt 9 = .ok (.iconst 1, 1) := by decide +kernel
theorem dX12_placeAt_10 : decode cX12_placeAt 10 = .ok (.invokevirtual 206, 3) := by decide +kernel
theorem dX12_placeAt_13 : decode cX12_placeAt 13 = .ok (.ireturn, 1) := by decide +kernel
theorem dX12_placeAt_14 : decode cX12_placeAt 14 = .ok (.iload_n 2, 1) := by decide +kernel
theorem dX12_placeAt_15 : decode cX12_placeAt 15 = .ok (.ifCond .ge 11, 3) := by decide +kernel
theorem dX12_placeAt_18 : decode cX12_placeAt 18 = .ok (.aload_n 0, 1) := by decide +kernel
theorem dX12_placeAt_19 : decode cX12_placeAt 19 = .ok (.iconst 2, 1) := by decide +kernel
theorem dX12_placeAt_20 : decode cX12_placeAt 20 = .ok (.invokevirtual 206, 3) := by decide +kernel
theorem dX12_placeAt_23 : decode cX12_placeAt 23 = .ok (.goto 13, 3) := by decide +kernel
theorem dX12_placeAt_26 : decode cX12_placeAt 26 = .ok (.aload_n 0, 1) := by decide +kernel
theorem dX12_placeAt_27 : decode cX12_placeAt 27 = .ok (.aload_n 0, 1) := by decide +kernel
theorem dX12_placeAt_28 : decode cX12_placeAt 28 = .ok (.iload_n 1, 1) := by decide +kernel
theorem dX12_placeAt_29 : decode cX12_placeAt 29 = .ok (.iload_n 2, 1) := by decide +kernel
theorem dX12_placeAt_30 : decode cX12_placeAt 30 = .ok (.invokevirtual 325, 3) := by decide +kernel
theorem dX12_placeAt_33 : decode cX12_placeAt 33 = .ok (.invokevirtual 209, 3) := by decide +kernel
theorem dX12_placeAt_36 : decode cX12_placeAt 36 = .ok (.ireturn, 1) := by decide +kernel
theorem dX12_setTab_0 : decode cX12_setTab 0 = .ok (.iload_n 1, 1) := by decide +kernel
theorem dX12_setTab_1 : decode cX12_setTab 1 = .ok (.iconst 1, 1) := by decide +kernel
theorem dX12_setTab_2 : decode cX12_setTab 2 = .ok (.bipush 8, 2) := by decide +kernel
theorem dX12_setTab_4 : decode cX12_setTab 4 = .ok (.invokestatic 134, 3) := by decide +kernel
theorem dX12_setTab_7 : decode cX12_setTab 7 = .ok (.ifCond .ne 9, 3) := by decide +kernel
theorem dX12_setTab_10 : decode cX12_setTab 10 = .ok (.aload_n 0, 1) := by decide +kernel
theorem dX12_setTab_11 : decode cX12_setTab 11 = .ok (.iconst 1, 1) := by decide +kernel
theorem dX12_setTab_12 : decode cX12_setTab 12 = .ok (.invokevirtual 206, 3) := by decide +kernel
theorem dX12_setTab_15 : decode cX12_setTab 15 = .ok (.ireturn, 1) := by decide +kernel
theorem dX12_setTab_16 : decode cX12_setTab 16 = .ok (.aload_n 0, 1) := by decide +kernel
theorem dX12_setTab_17 : decode cX12_setTab 17 = .ok (.getfield 42, 3) := by decide +kernel
theorem dX12_setTab_20 : decode cX12_setTab 20 = .ok (.istore_n 2, 1) := by decide +kernel
theorem dX12_setTab_21 : decode cX12_setTab 21 = .ok (.aload_n 0, 1) := by decide +kernel
theorem dX12_setTab_22 : decode cX12_setTab 22 = .ok (.iload_n 1, 1) := by decide +kernel
theorem dX12_setTab_23 : decode cX12_setTab 23 = .ok (.putfield 42, 3) := by decide +kernel
theorem dX12_setTab_26 : decode cX12_setTab 26 = .ok (.aload_n 0, 1) := by decide +kernel
theorem dX12_setTab_27 : decode cX12_setTab 27 = .ok (.iload_n 2, 1) := by decide +kernel
theorem dX12_setTab_28 : decode cX12_setTab 28 = .ok (.invokevirtual 209, 3) := by decide +kernel
theorem dX12_setTab_31 : decode cX12_setTab 31 = .ok (.ireturn, 1) := by decide +kernel
theorem dX12_hash_0 : decode cX12_hash 0 = .ok (.iconst 0, 1) := by decide +kernel
theorem dX12_hash_1 : decode cX12_hash 1 = .ok (.istore_n 1, 1) := by decide +kernel
theorem dX12_hash_2 : decode cX12_hash 2 = .ok (.iconst 0, 1) := by decide +kernel
theorem dX12_hash_3 : decode cX12_hash 3 = .ok (.istore_n 2, 1) := by decide +kernel
theorem dX12_hash_4 : decode cX12_hash 4 = .ok (.iload_n 2, 1) := by decide +kernel
theorem dX12_hash_5 : decode cX12_hash 5 = .ok (.aload_n 0, 1) := by decide +kernel
theorem dX12_hash_6 : decode cX12_hash 6 = .ok (.getfield 138, 3) := by decide +kernel
theorem dX12_hash_9 : decode cX12_hash 9 = .ok (.if_icmp .ge 21, 3) := by decide +kernel
theorem dX12_hash_12 : decode cX12_hash 12 = .ok (.bipush 31, 2) := by decide +kernel
theorem dX12_hash_14 : decode cX12_hash 14 = .ok (.iload_n 1, 1) := by decide +kernel
theorem dX12_hash_15 : decode cX12_hash 15 = .ok (.imul, 1) := by decide +kernel
theorem dX12_hash_16 : decode cX12_hash 16 = .ok (.aload_n 0, 1) := by decide +kernel
theorem dX12_hash_17 : decode cX12_hash 17 = .ok (.getfield 7, 3) := by decide +kernel
theorem dX12_hash_20 : decode cX12_hash 20 = .ok (.iload_n 2, 1) := by decide +kernel
theorem dX12_hash_21 : decode cX12_hash 21 = .ok (.iaload, 1) := by decide +kernel
theorem dX12_hash_22 : decode cX12_hash 22 = .ok (.iadd, 1) := by decide +kernel
theorem dX12_hash_23 : decode cX12_hash 23 = .ok (.istore_n 1, 1) := by decide +kernel
theorem dX12_hash_24 : decode cX12_hash 24 = .ok (.iinc 2 1, 3) := by decide +kernel
theorem dX12_hash_27 : decode cX12_hash 27 = .ok (.goto (-23), 3) := by decide +kernel
theorem dX12_hash_30 : decode cX12_hash 30 = .ok (.aload_n 0, 1) := by decide +kernel
theorem dX12_hash_31 : decode cX12_hash 31 = .ok (.iload_n 1, 1) := by decide +kernel
theorem dX12_hash_32 : decode cX12_hash 32 = .ok (.invokevirtual 209, 3) := by decide +kernel
theorem dX12_hash_35 : decode cX12_hash 35 = .ok (.ireturn, 1) := by decide +kernel
theorem dX12_meanLine_0 : decode cX12_meanLine 0 = .ok (.aload_n 0, 1) := by decide +kernel
theorem dX12_meanLine_1 : decode cX12_meanLine 1 = .ok (.iconst 0, 1) := by decide +kernel
theorem dX12_meanLine_2 : decode cX12_meanLine 2 = .ok (.putfield 131, 3) := by decide +kernel
theorem dX12_meanLine_5 : decode cX12_meanLine 5 = .ok (.aload_n 0, 1) := by decide +kernel
theorem dX12_meanLine_6 : decode cX12_meanLine 6 = .ok (.invokevirtual 141, 3) := by decide +kernel
theorem dX12_meanLine_9 : decode cX12_meanLine 9 = .ok (.istore_n 1, 1) := by decide +kernel
theorem dX12_meanLine_10 : decode cX12_meanLine 10 = .ok (.aload_n 0, 1) := by decide +kernel
theorem dX12_meanLine_11 : decode cX12_meanLine 11 = .ok (.getfield 138, 3) := by decide +kernel
theorem dX12_meanLine_14 : decode cX12_meanLine 14 = .ok (.iload_n 1, 1) := by decide +kernel
theorem dX12_meanLine_15 : decode cX12_meanLine 15 = .ok (.iconst 1, 1) := by decide +kernel
theorem dX12_meanLine_16 : decode cX12_meanLine 16 = .ok (.isub, 1) := by decide +kernel
theorem dX12_meanLine_17 : decode cX12_meanLine 17 = .ok (.isub, 1) := by decide +kernel
theorem dX12_meanLine_18 : decode cX12_meanLine 18 = .ok (.i2d, 1) := by decide +kernel
theorem dX12_meanLine_19 : decode cX12_meanLine 19 = .ok (.iload_n 1, 1) := by decide +kernel
theorem dX12_meanLine_20 : decode cX12_meanLine 20 = .ok (.i2d, 1) := by decide +kernel
theorem dX12_meanLine_21 : decode cX12_meanLine 21 = .ok (.ddiv, 1) := by decide +kernel
theorem dX12_meanLine_22 : decode cX12_meanLine 22 = .ok (.dreturn, 1) := by decide +kernel
theorem dX12_keep_0 : decode cX12_keep 0 = .ok (.aload_n 0, 1) := by decide +kernel
theorem dX12_keep_1 : decode cX12_keep 1 = .ok (.aload_n 0, 1) := by decide +kernel
theorem dX12_keep_2 : decode cX12_keep 2 = .ok (.getfield 138, 3) := by decide +kernel
theorem dX12_keep_5 : decode cX12_keep 5 = .ok (.putfield 369, 3) := by decide +kernel
theorem dX12_keep_8 : decode cX12_keep 8 = .ok (.iconst 0, 1) := by decide +kernel
theorem dX12_keep_9 : decode cX12_keep 9 = .ok (.istore_n 1, 1) := by decide +kernel
theorem dX12_keep_10 : decode cX12_keep 10 = .ok (.iload_n 1, 1) := by decide +kernel
theorem dX12_keep_11 : decode cX12_keep 11 = .ok (.aload_n 0, 1) := by decide +kernel
theorem dX12_keep_12 : decode cX12_keep 12 = .ok (.getfield 138, 3) := by decide +kernel
theorem dX12_keep_15 : decode cX12_keep 15 = .ok (.if_icmp .ge 21, 3) := by decide +kernel
theorem dX12_keep_18 : decode cX12_keep 18 = .ok (.aload_n 0, 1) := by decide +kernel
theorem dX12_keep_19 : decode cX12_keep 19 = .ok (.getfield 39, 3) := by decide +kernel
theorem dX12_keep_22 : decode cX12_keep 22 = .ok (.iload_n 1, 1) := by decide +kernel
theorem dX12_keep_23 : decode cX12_keep 23 = .ok (.aload_n 0, 1) := by decide +kernel
theorem dX12_keep_24 : decode cX12_keep 24 = .ok (.getfield 7, 3) := by decide +kernel
theorem dX12_keep_27 : decode cX12_keep 27 = .ok (.iload_n 1, 1) := by decide +kernel
theorem dX12_keep_28 : decode cX12_keep 28 = .ok (.iaload, 1) := by decide +kernel
theorem dX12_keep_29 : decode cX12_keep 29 = .ok (.iastore, 1) := by decide +kernel
theorem dX12_keep_30 : decode cX12_keep 30 = .ok (.iinc 1 1, 3) := by decide +kernel
theorem dX12_keep_33 : decode cX12_keep 33 = .ok (.goto (-23), 3) := by decide +kernel
theorem dX12_keep_36 : decode cX12_keep 36 = .ok (.aload_n 0, 1) := by decide +kernel
theorem dX12_keep_37 : decode cX12_keep 37 = .ok (.aload_n 0, 1) := by decide +kernel
theorem dX12_keep_38 : decode cX12_keep 38 = .ok (.invokevirtual 141, 3) := by decide +kernel
theorem dX12_keep_41 : decode cX12_keep 41 = .ok (.invokevirtual 209, 3) := by decide +kernel
theorem dX12_keep_44 : decode cX12_keep 44 = .ok (.ireturn, 1) := by decide +kernel
theorem dX12_lays_0 : decode cX12_lays 0 = .ok (.iconst 1, 1) := by decide +kernel
theorem dX12_lays_1 : decode cX12_lays 1 = .ok (.istore_n 3, 1) := by decide +kernel
theorem dX12_lays_2 : decode cX12_lays 2 = .ok (.aload_n 2, 1) := by decide +kernel
theorem dX12_lays_3 : decode cX12_lays 3 = .ok (.iconst 0, 1) := by decide +kernel
theorem dX12_lays_4 : decode cX12_lays 4 = .ok (.iconst 0, 1) := by decide +kernel
theorem dX12_lays_5 : decode cX12_lays 5 = .ok (.iastore, 1) := by decide +kernel
theorem dX12_lays_6 : decode cX12_lays 6 = .ok (.iconst 0, 1) := by decide +kernel
theorem dX12_lays_7 : decode cX12_lays 7 = .ok (.istore 4, 2) := by decide +kernel
theorem dX12_lays_9 : decode cX12_lays 9 = .ok (.iload 4, 2) := by decide +kernel
theorem dX12_lays_11 : decode cX12_lays 11 = .ok (.iload_n 1, 1) := by decide +kernel
theorem dX12_lays_12 : decode cX12_lays 12 = .ok (.if_icmp .ge 28, 3) := by decide +kernel
theorem dX12_lays_15 : decode cX12_lays 15 = .ok (.aload_n 0, 1) := by decide +kernel
theorem dX12_lays_16 : decode cX12_lays 16 = .ok (.iload 4, 2) := by decide +kernel
theorem dX12_lays_18 : decode cX12_lays 18 = .ok (.iaload, 1) := by decide +kernel
theorem dX12_lays_19 : decode cX12_lays 19 = .ok (.bipush 10, 2) := by decide +kernel
theorem dX12_lays_21 : decode cX12_lays 21 = .ok (.if_icmp .ne 13, 3) := by decide +kernel
theorem dX12_lays_24 : decode cX12_lays 24 = .ok (.aload_n 2, 1) := by decide +kernel
theorem dX12_lays_25 : decode cX12_lays 25 = .ok (.iload_n 3, 1) := by decide +kernel
theorem dX12_lays_26 : decode cX12_lays 26 = .ok (.iload 4, 2) := by decide +kernel
theorem dX12_lays_28 : decode cX12_lays 28 = .ok (.iconst 1, 1) := by decide +kernel
theorem dX12_lays_29 : decode cX12_lays 29 = .ok (.iadd, 1) := by decide +kernel
theorem dX12_lays_30 : decode cX12_lays 30 = .ok (.iastore, 1) := by decide +kernel
theorem dX12_lays_31 : decode cX12_lays 31 = .ok (.iinc 3 1, 3) := by decide +kernel
theorem dX12_lays_34 : decode cX12_lays 34 = .ok (.iinc 4 1, 3) := by decide +kernel
theorem dX12_lays_37 : decode cX12_lays 37 = .ok (.goto (-28), 3) := by decide +kernel
theorem dX12_lays_40 : decode cX12_lays 40 = .ok (.aload_n 2, 1) := by decide +kernel
theorem dX12_lays_41 : decode cX12_lays 41 = .ok (.iload_n 3, 1) := by decide +kernel
theorem dX12_lays_42 : decode cX12_lays 42 = .ok (.iload_n 1, 1) := by decide +kernel
theorem dX12_lays_43 : decode cX12_lays 43 = .ok (.iconst 1, 1) := by decide +kernel
theorem dX12_lays_44 : decode cX12_lays 44 = .ok (.iadd, 1) := by decide +kernel
theorem dX12_lays_45 : decode cX12_lays 45 = .ok (.iastore, 1) := by decide +kernel
theorem dX12_lays_46 : decode cX12_lays 46 = .ok (.iload_n 3, 1) := by decide +kernel
theorem dX12_lays_47 : decode cX12_lays 47 = .ok (.ireturn, 1) := by decide +kernel
theorem dX12_areAlike_0 : decode cX12_areAlike 0 = .ok (.aload_n 0, 1) := by decide +kernel
theorem dX12_areAlike_1 : decode cX12_areAlike 1 = .ok (.getfield 122, 3) := by decide +kernel
theorem dX12_areAlike_4 : decode cX12_areAlike 4 = .ok (.iload_n 1, 1) := by decide +kernel
theorem dX12_areAlike_5 : decode cX12_areAlike 5 = .ok (.iconst 1, 1) := by decide +kernel
theorem dX12_areAlike_6 : decode cX12_areAlike 6 = .ok (.iadd, 1) := by decide +kernel
theorem dX12_areAlike_7 : decode cX12_areAlike 7 = .ok (.iaload, 1) := by decide +kernel
theorem dX12_areAlike_8 : decode cX12_areAlike 8 = .ok (.aload_n 0, 1) := by decide +kernel
theorem dX12_areAlike_9 : decode cX12_areAlike 9 = .ok (.getfield 122, 3) := by decide +kernel
theorem dX12_areAlike_12 : decode cX12_areAlike 12 = .ok (.iload_n 1, 1) := by decide +kernel
theorem dX12_areAlike_13 : decode cX12_areAlike 13 = .ok (.iaload, 1) := by decide +kernel
theorem dX12_areAlike_14 : decode cX12_areAlike 14 = .ok (.isub, 1) := by decide +kernel
theorem dX12_areAlike_15 : decode cX12_areAlike 15 = .ok (.istore_n 3, 1) := by decide +kernel
theorem dX12_areAlike_16 : decode cX12_areAlike 16 = .ok (.iload_n 3, 1) := by decide +kernel
theorem dX12_areAlike_17 : decode cX12_areAlike 17 = .ok (.aload_n 0, 1) := by decide +kernel
theorem dX12_areAlike_18 : decode cX12_areAlike 18 = .ok (.getfield 119, 3) := by decide +kernel
theorem dX12_areAlike_21 : decode cX12_areAlike 21 = .ok (.iload_n 2, 1) := by decide +kernel
theorem dX12_areAlike_22 : decode cX12_areAlike 22 = .ok (.iconst 1, 1) := by decide +kernel
theorem dX12_areAlike_23 : decode cX12_areAlike 23 = .ok (.iadd, 1) := by decide +kernel
theorem dX12_areAlike_24 : decode cX12_areAlike 24 = .ok (.iaload, 1) := by decide +kernel
theorem dX12_areAlike_25 : decode cX12_areAlike 25 = .ok (.aload_n 0, 1) := by decide +kernel
theorem dX12_areAlike_26 : decode cX12_areAlike 26 = .ok (.getfield 119, 3) := by decide +kernel
theorem dX12_areAlike_29 : decode cX12_areAlike 29 = .ok (.iload_n 2, 1) := by decide +kernel
theorem dX12_areAlike_30 : decode cX12_areAlike 30 = .ok (.iaload, 1) := by decide +kernel
theorem dX12_areAlike_31 : decode cX12_areAlike 31 = .ok (.isub, 1) := by decide +kernel
theorem dX12_areAlike_32 : decode cX12_areAlike 32 = .ok (.if_icmp .ne 7, 3) := by decide +kernel
theorem dX12_areAlike_35 : decode cX12_areAlike 35 = .ok (.iconst 1, 1) := by decide +kernel
theorem dX12_areAlike_36 : decode cX12_areAlike 36 = .ok (.goto 4, 3) := by decide +kernel
theorem dX12_areAlike_39 : decode cX12_areAlike 39 = .ok (.iconst 0, 1) := by decide +kernel
theorem dX12_areAlike_40 : decode cX12_areAlike 40 = .ok (.istore 4, 2) := by decide +kernel
theorem dX12_areAlike_42 : decode cX12_areAlike 42 = .ok (.iconst 0, 1) := by decide +kernel
theorem dX12_areAlike_43 : decode cX12_areAlike 43 = .ok (.istore 5, 2) := by decide +kernel
theorem dX12_areAlike_45 : decode cX12_areAlike 45 = .ok (.iload 5, 2) := by decide +kernel
theorem dX12_areAlike_47 : decode cX12_areAlike 47 = .ok (.iconst 1, 1) := by decide +kernel
theorem dX12_areAlike_48 : decode cX12_areAlike 48 = .ok (.iadd, 1) := by decide +kernel
theorem dX12_areAlike_49 : decode cX12_areAlike 49 = .ok (.iload_n 3, 1) := by decide +kernel
theorem dX12_areAlike_50 : decode cX12_areAlike 50 = .ok (.if_icmp .ge 52, 3) := by decide +kernel
theorem dX12_areAlike_53 : decode cX12_areAlike 53 = .ok (.iload 4, 2) := by decide +kernel
theorem dX12_areAlike_55 : decode cX12_areAlike 55 = .ok (.ifCond .eq 47, 3) := by decide +kernel
theorem dX12_areAlike_58 : decode cX12_areAlike 58 = .ok (.aload_n 0, 1) := by decide +kernel
theorem dX12_areAlike_59 : decode cX12_areAlike 59 = .ok (.getfield 7, 3) := by decide +kernel
theorem dX12_areAlike_62 : decode cX12_areAlike 62 = .ok (.aload_n 0, 1) := by decide +kernel
theorem dX12_areAlike_63 : decode cX12_areAlike 63 = .ok (.getfield 122, 3) := by decide +kernel
theorem dX12_areAlike_66 : decode cX12_areAlike 66 = .ok (.iload_n 1, 1) := by decide +kernel
theorem dX12_areAlike_67 : decode cX12_areAlike 67 = .ok (.iaload, 1) := by decide +kernel
theorem dX12_areAlike_68 : decode cX12_areAlike 68 = .ok (.iload 5, 2) := by decide +kernel
theorem dX12_areAlike_70 : decode cX12_areAlike 70 = .ok (.iadd, 1) := by decide +kernel
theorem dX12_areAlike_71 : decode cX12_areAlike 71 = .ok (.iaload, 1) := by decide +kernel
theorem dX12_areAlike_72 : decode cX12_areAlike 72 = .ok (.aload_n 0, 1) := by decide +kernel
theorem dX12_areAlike_73 : decode cX12_areAlike 73 = .ok (.getfield 39, 3) := by decide +kernel
theorem dX12_areAlike_76 : decode cX12_areAlike 76 = .ok (.aload_n 0, 1) := by decide +kernel
theorem dX12_areAlike_77 : decode cX12_areAlike 77 = .ok (.getfield 119, 3) := by decide +kernel
theorem dX12_areAlike_80 : decode cX12_areAlike 80 = .ok (.iload_n 2, 1) := by decide +kernel
theorem dX12_areAlike_81 : decode cX12_areAlike 81 = .ok (.iaload, 1) := by decide +kernel
theorem dX12_areAlike_82 : decode cX12_areAlike 82 = .ok (.iload 5, 2) := by decide +kernel
theorem dX12_areAlike_84 : decode cX12_areAlike 84 = .ok (.iadd, 1) := by decide +kernel
theorem dX12_areAlike_85 : decode cX12_areAlike 85 = .ok (.iaload, 1) := by decide +kernel
theorem dX12_areAlike_86 : decode cX12_areAlike 86 = .ok (.if_icmp .ne 7, 3) := by decide +kernel
theorem dX12_areAlike_89 : decode cX12_areAlike 89 = .ok (.iconst 1, 1) := by decide +kernel
theorem dX12_areAlike_90 : decode cX12_areAlike 90 = .ok (.goto 4, 3) := by decide +kernel
theorem dX12_areAlike_93 : decode cX12_areAlike 93 = .ok (.iconst 0, 1) := by decide +kernel
theorem dX12_areAlike_94 : decode cX12_areAlike 94 = .ok (.istore 4, 2) := by decide +kernel
theorem dX12_areAlike_96 : decode cX12_areAlike 96 = .ok (.iinc 5 1, 3) := by decide +kernel
theorem dX12_areAlike_99 : decode cX12_areAlike 99 = .ok (.goto (-54), 3) := by decide +kernel
theorem dX12_areAlike_102 : decode cX12_areAlike 102 = .ok (.iload 4, 2) := by decide +kernel
theorem dX12_areAlike_104 : decode cX12_areAlike 104 = .ok (.ireturn, 1) := by decide +kernel
theorem dX12_staying_0 : decode cX12_staying 0 = .ok (.aload_n 0, 1) := by decide +kernel
theorem dX12_staying_1 : decode cX12_staying 1 = .ok (.getfield 7, 3) := by decide +kernel
theorem dX12_staying_4 : decode cX12_staying 4 = .ok (.aload_n 0, 1) := by decide +kernel
theorem dX12_staying_5 : decode cX12_staying 5 = .ok (.getfield 138, 3) := by decide +kernel
theorem dX12_staying_8 : decode cX12_staying 8 = .ok (.aload_n 0, 1) := by decide +kernel
theorem dX12_staying_9 : decode cX12_staying 9 = .ok (.getfield 122, 3) := by decide +kernel
theorem dX12_staying_12 : decode cX12_staying 12 = .ok (.invokestatic 372, 3) := by decide +kernel
theorem dX12_staying_15 : decode cX12_staying 15 = .ok (.istore_n 1, 1) := by decide +kernel
theorem dX12_staying_16 : decode cX12_staying 16 = .ok (.aload_n 0, 1) := by decide +kernel
theorem dX12_staying_17 : decode cX12_staying 17 = .ok (.getfield 39, 3) := by decide +kernel
theorem dX12_staying_20 : decode cX12_staying 20 = .ok (.aload_n 0, 1) := by decide +kernel
theorem dX12_staying_21 : decode cX12_staying 21 = .ok (.getfield 369, 3) := by decide +kernel
theorem dX12_staying_24 : decode cX12_staying 24 = .ok (.aload_n 0, 1) := by decide +kernel
theorem dX12_staying_25 : decode cX12_staying 25 = .ok (.getfield 119, 3) := by decide +kernel
theorem dX12_staying_28 : decode cX12_staying 28 = .ok (.invokestatic 372, 3) := by decide +kernel
theorem dX12_staying_31 : decode cX12_staying 31 = .ok (.istore_n 2, 1) := by decide +kernel
theorem dX12_staying_32 : decode cX12_staying 32 = .ok (.iconst 0, 1) := by decide +kernel
theorem dX12_staying_33 : decode cX12_staying 33 = .ok (.istore_n 3, 1) := by decide +kernel
theorem dX12_staying_34 : decode cX12_staying 34 = .ok (.iload_n 3, 1) := by decide +kernel
theorem dX12_staying_35 : decode cX12_staying 35 = .ok (.iload_n 2, 1) := by decide +kernel
theorem dX12_staying_36 : decode cX12_staying 36 = .ok (.if_icmp .gt 16, 3) := by decide +kernel
theorem dX12_staying_39 : decode cX12_staying 39 = .ok (.aload_n 0, 1) := by decide +kernel
theorem dX12_staying_40 : decode cX12_staying 40 = .ok (.getfield 128, 3) := by decide +kernel
theorem dX12_staying_43 : decode cX12_staying 43 = .ok (.iload_n 3, 1) := by decide +kernel
theorem dX12_staying_44 : decode cX12_staying 44 = .ok (.iconst 0, 1) := by decide +kernel
theorem dX12_staying_45 : decode cX12_staying 45 = .ok (.iastore, 1) := by decide +kernel
theorem dX12_staying_46 : decode cX12_staying 46 = .ok (.iinc 3 1, 3) := by decide +kernel
theorem dX12_staying_49 : decode cX12_staying 49 = .ok (.goto (-15), 3) := by decide +kernel
theorem dX12_staying_52 : decode cX12_staying 52 = .ok (.iconst 0, 1) := by decide +kernel
theorem dX12_staying_53 : decode cX12_staying 53 = .ok (.istore_n 3, 1) := by decide +kernel
theorem dX12_staying_54 : decode cX12_staying 54 = .ok (.iload_n 3, 1) := by decide +kernel
theorem dX12_staying_55 : decode cX12_staying 55 = .ok (.iload_n 1, 1) := by decide +kernel
theorem dX12_staying_56 : decode cX12_staying 56 = .ok (.if_icmp .ge 110, 3) := by decide +kernel
theorem dX12_staying_59 : decode cX12_staying 59 = .ok (.aload_n 0, 1) := by decide +kernel
theorem dX12_staying_60 : decode cX12_staying 60 = .ok (.getfield 125, 3) := by decide +kernel
theorem dX12_staying_63 : decode cX12_staying 63 = .ok (.iconst 0, 1) := by decide +kernel
theorem dX12_staying_64 : decode cX12_staying 64 = .ok (.iconst 0, 1) := by decide +kernel
theorem dX12_staying_65 : decode cX12_staying 65 = .ok (.iastore, 1) := by decide +kernel
theorem dX12_staying_66 : decode cX12_staying 66 = .ok (.iconst 0, 1) := by decide +kernel
theorem dX12_staying_67 : decode cX12_staying 67 = .ok (.istore 4, 2) := by decide +kernel
theorem dX12_staying_69 : decode cX12_staying 69 = .ok (.iload 4, 2) := by decide +kernel
theorem dX12_staying_71 : decode cX12_staying 71 = .ok (.iload_n 2, 1) := by decide +kernel
theorem dX12_staying_72 : decode cX12_staying 72 = .ok (.if_icmp .ge 59, 3) := by decide +kernel
theorem dX12_staying_75 : decode cX12_staying 75 = .ok (.aload_n 0, 1) := by decide +kernel
theorem dX12_staying_76 : decode cX12_staying 76 = .ok (.getfield 125, 3) := by decide +kernel
theorem dX12_staying_79 : decode cX12_staying 79 = .ok (.iload 4, 2) := by decide +kernel
theorem dX12_staying_81 : decode cX12_staying 81 = .ok (.iconst 1, 1) := by decide +kernel
theorem dX12_staying_82 : decode cX12_staying 82 = .ok (.iadd, 1) := by decide +kernel
theorem dX12_staying_83 : decode cX12_staying 83 = .ok (.aload_n 0, 1) := by decide +kernel
theorem dX12_staying_84 : decode cX12_staying 84 = .ok (.iload_n 3, 1) := by decide +kernel
theorem dX12_staying_85 : decode cX12_staying 85 = .ok (.iload 4, 2) := by decide +kernel
theorem dX12_staying_87 : decode cX12_staying 87 = .ok (.invokevirtual 376, 3) := by decide +kernel
theorem dX12_staying_90 : decode cX12_staying 90 = .ok (.ifCond .eq 15, 3) := by decide +kernel
theorem dX12_staying_93 : decode cX12_staying 93 = .ok (.aload_n 0, 1) := by decide +kernel
theorem dX12_staying_94 : decode cX12_staying 94 = .ok (.getfield 128, 3) := by decide +kernel
theorem dX12_staying_97 : decode cX12_staying 97 = .ok (.iload 4, 2) := by decide +kernel
theorem dX12_staying_99 : decode cX12_staying 99 = .ok (.iaload, 1) := by decide +kernel
theorem dX12_staying_100 : decode cX12_staying 100 = .ok (.iconst 1, 1) := by decide +kernel
theorem dX12_staying_101 : decode cX12_staying 101 = .ok (.iadd, 1) := by decide +kernel
theorem dX12_staying_102 : decode cX12_staying 102 = .ok (.goto 22, 3) := by decide +kernel
theorem dX12_staying_105 : decode cX12_staying 105 = .ok (.aload_n 0, 1) := by decide +kernel
theorem dX12_staying_106 : decode cX12_staying 106 = .ok (.getfield 128, 3) := by decide +kernel
theorem dX12_staying_109 : decode cX12_staying 109 = .ok (.iload 4, 2) := by decide +kernel
theorem dX12_staying_111 : decode cX12_staying 111 = .ok (.iconst 1, 1) := by decide +kernel
theorem dX12_staying_112 : decode cX12_staying 112 = .ok (.iadd, 1) := by decide +kernel
theorem dX12_staying_113 : decode cX12_staying 113 = .ok (.iaload, 1) := by decide +kernel
theorem dX12_staying_114 : decode cX12_staying 114 = .ok (.aload_n 0, 1) := by decide +kernel
theorem dX12_staying_115 : decode cX12_staying 115 = .ok (.getfield 125, 3) := by decide +kernel
theorem dX12_staying_118 : decode cX12_staying 118 = .ok (.iload 4, 2) := by decide +kernel
theorem dX12_staying_120 : decode cX12_staying 120 = .ok (.iaload, 1) := by decide +kernel
theorem dX12_staying_121 : decode cX12_staying 121 = .ok (.invokestatic 257, 3) := by decide +kernel
theorem dX12_staying_124 : decode cX12_staying 124 = .ok (.iastore, 1) := by decide +kernel
theorem dX12_staying_125 : decode cX12_staying 125 = .ok (.iinc 4 1, 3) := by decide +kernel
theorem dX12_staying_128 : decode cX12_staying 128 = .ok (.goto (-59), 3) := by decide +kernel
theorem dX12_staying_131 : decode cX12_staying 131 = .ok (.iconst 0, 1) := by decide +kernel
theorem dX12_staying_132 : decode cX12_staying 132 = .ok (.istore 4, 2) := by decide +kernel
theorem dX12_staying_134 : decode cX12_staying 134 = .ok (.iload 4, 2) := by decide +kernel
theorem dX12_staying_136 : decode cX12_staying 136 = .ok (.iload_n 2, 1) := by decide +kernel
theorem dX12_staying_137 : decode cX12_staying 137 = .ok (.if_icmp .gt 23, 3) := by decide +kernel
theorem dX12_staying_140 : decode cX12_staying 140 = .ok (.aload_n 0, 1) := by decide +kernel
theorem dX12_staying_141 : decode cX12_staying 141 = .ok (.getfield 128, 3) := by decide +kernel
theorem dX12_staying_144 : decode cX12_staying 144 = .ok (.iload 4, 2) := by decide +kernel
theorem dX12_staying_146 : decode cX12_staying 146 = .ok (.aload_n 0, 1) := by decide +kernel
theorem dX12_staying_147 : decode cX12_staying 147 = .ok (.getfield 125, 3) := by decide +kernel
theorem dX12_staying_150 : decode cX12_staying 150 = .ok (.iload 4, 2) := by decide +kernel
theorem dX12_staying_152 : decode cX12_staying 152 = .ok (.iaload, 1) := by decide +kernel
theorem dX12_staying_153 : decode cX12_staying 153 = .ok (.iastore, 1) := by decide +kernel
theorem dX12_staying_154 : decode cX12_staying 154 = .ok (.iinc 4 1, 3) := by decide +kernel
theorem dX12_staying_157 : decode cX12_staying 157 = .ok (.goto (-23), 3) := by decide +kernel
theorem dX12_staying_160 : decode cX12_staying 160 = .ok (.iinc 3 1, 3) := by decide +kernel
theorem dX12_staying_163 : decode cX12_staying 163 = .ok (.goto (-109), 3) := by decide +kernel
theorem dX12_staying_166 : decode cX12_staying 166 = .ok (.aload_n 0, 1) := by decide +kernel
theorem dX12_staying_167 : decode cX12_staying 167 = .ok (.getfield 128, 3) := by decide +kernel
theorem dX12_staying_170 : decode cX12_staying 170 = .ok (.iload_n 2, 1) := by decide +kernel
theorem dX12_staying_171 : decode cX12_staying 171 = .ok (.iaload, 1) := by decide +kernel
theorem dX12_staying_172 : decode cX12_staying 172 = .ok (.ireturn, 1) := by decide +kernel
theorem dX12_keptLines_0 : decode cX12_keptLines 0 = .ok (.iconst 1, 1) := by decide +kernel
theorem dX12_keptLines_1 : decode cX12_keptLines 1 = .ok (.istore_n 1, 1) := by decide +kernel
theorem dX12_keptLines_2 : decode cX12_keptLines 2 = .ok (.iconst 0, 1) := by decide +kernel
theorem dX12_keptLines_3 : decode cX12_keptLines 3 = .ok (.istore_n 2, 1) := by decide +kernel
theorem dX12_keptLines_4 : decode cX12_keptLines 4 = .ok (.iload_n 2, 1) := by decide +kernel
theorem dX12_keptLines_5 : decode cX12_keptLines 5 = .ok (.aload_n 0, 1) := by decide +kernel
theorem dX12_keptLines_6 : decode cX12_keptLines 6 = .ok (.getfield 369, 3) := by decide +kernel
theorem dX12_keptLines_9 : decode cX12_keptLines 9 = .ok (.if_icmp .ge 28, 3) := by decide +kernel
theorem dX12_keptLines_12 : decode cX12_keptLines 12 = .ok (.iload_n 1, 1) := by decide +kernel
theorem dX12_keptLines_13 : decode cX12_keptLines 13 = .ok (.aload_n 0, 1) := by decide +kernel
theorem dX12_keptLines_14 : decode cX12_keptLines 14 = .ok (.getfield 39, 3) := by decide +kernel
theorem dX12_keptLines_17 : decode cX12_keptLines 17 = .ok (.iload_n 2, 1) := by decide +kernel
theorem dX12_keptLines_18 : decode cX12_keptLines 18 = .ok (.iaload, 1) := by decide +kernel
theorem dX12_keptLines_19 : decode cX12_keptLines 19 = .ok (.bipush 10, 2) := by decide +kernel
theorem dX12_keptLines_21 : decode cX12_keptLines 21 = .ok (.if_icmp .ne 7, 3) := by decide +kernel
theorem dX12_keptLines_24 : decode cX12_keptLines 24 = .ok (.iconst 1, 1) := by decide +kernel
theorem dX12_keptLines_25 : decode cX12_keptLines 25 = .ok (.goto 4, 3) := by decide +kernel
theorem dX12_keptLines_28 : decode cX12_keptLines 28 = .ok (.iconst 0, 1) := by decide +kernel
theorem dX12_keptLines_29 : decode cX12_keptLines 29 = .ok (.iadd, 1) := by decide +kernel
theorem dX12_keptLines_30 : decode cX12_keptLines 30 = .ok (.istore_n 1, 1) := by decide +kernel
theorem dX12_keptLines_31 : decode cX12_keptLines 31 = .ok (.iinc 2 1, 3) := by decide +kernel
theorem dX12_keptLines_34 : decode cX12_keptLines 34 = .ok (.goto (-30), 3) := by decide +kernel
theorem dX12_keptLines_37 : decode cX12_keptLines 37 = .ok (.iload_n 1, 1) := by decide +kernel
theorem dX12_keptLines_38 : decode cX12_keptLines 38 = .ok (.ireturn, 1) := by decide +kernel
theorem dX12_differences_0 : decode cX12_differences 0 = .ok (.aload_n 0, 1) := by decide +kernel
theorem dX12_differences_1 : decode cX12_differences 1 = .ok (.aload_n 0, 1) := by decide +kernel
theorem dX12_differences_2 : decode cX12_differences 2 = .ok (.invokevirtual 141, 3) := by decide +kernel
theorem dX12_differences_5 : decode cX12_differences 5 = .ok (.aload_n 0, 1) := by decide +kernel
theorem dX12_differences_6 : decode cX12_differences 6 = .ok (.invokevirtual 380, 3) := by decide +kernel
theorem dX12_differences_9 : decode cX12_differences 9 = .ok (.iadd, 1) := by decide +kernel
theorem dX12_differences_10 : decode cX12_differences 10 = .ok (.iconst 2, 1) := by decide +kernel
theorem dX12_differences_11 : decode cX12_differences 11 = .ok (.aload_n 0, 1) := by decide +kernel
theorem dX12_differences_12 : decode cX12_differences 12 = .ok (.invokevirtual 383, 3) := by decide +kernel
theorem dX12_differences_15 : decode cX12_differences 15 = .ok (.imul, 1) := by decide +kernel
theorem dX12_differences_16 : decode cX12_differences 16 = .ok (.isub, 1) := by decide +kernel
theorem dX12_differences_17 : decode cX12_differences 17 = .ok (.invokevirtual 209, 3) := by decide +kernel
theorem dX12_differences_20 : decode cX12_differences 20 = .ok (.ireturn, 1) := by decide +kernel
theorem dX12_sameShare_0 : decode cX12_sameShare 0 = .ok (.aload_n 0, 1) := by decide +kernel
theorem dX12_sameShare_1 : decode cX12_sameShare 1 = .ok (.iconst 0, 1) := by decide +kernel
theorem dX12_sameShare_2 : decode cX12_sameShare 2 = .ok (.putfield 131, 3) := by decide +kernel
theorem dX12_sameShare_5 : decode cX12_sameShare 5 = .ok (.aload_n 0, 1) := by decide +kernel
theorem dX12_sameShare_6 : decode cX12_sameShare 6 = .ok (.invokevirtual 383, 3) := by decide +kernel
theorem dX12_sameShare_9 : decode cX12_sameShare 9 = .ok (.i2f, 1) := by decide +kernel
theorem dX12_sameShare_10 : decode cX12_sameShare 10 = .ok (.aload_n 0, 1) := by decide +kernel
theorem dX12_sameShare_11 : decode cX12_sameShare 11 = .ok (.invokevirtual 141, 3) := by decide +kernel
theorem dX12_sameShare_14 : decode cX12_sameShare 14 = .ok (.i2f, 1) := by decide +kernel
theorem dX12_sameShare_15 : decode cX12_sameShare 15 = .ok (.fdiv, 1) := by decide +kernel
theorem dX12_sameShare_16 : decode cX12_sameShare 16 = .ok (.freturn, 1) := by decide +kernel
theorem dX12_isState_0 : decode cX12_isState 0 = .ok (.aload_n 0, 1) := by decide +kernel
theorem dX12_isState_1 : decode cX12_isState 1 = .ok (.getfield 79, 3) := by decide +kernel
theorem dX12_isState_4 : decode cX12_isState 4 = .ok (.iload_n 1, 1) := by decide +kernel
theorem dX12_isState_5 : decode cX12_isState 5 = .ok (.iaload, 1) := by decide +kernel
theorem dX12_isState_6 : decode cX12_isState 6 = .ok (.aload_n 0, 1) := by decide +kernel
theorem dX12_isState_7 : decode cX12_isState 7 = .ok (.getfield 138, 3) := by decide +kernel
theorem dX12_isState_10 : decode cX12_isState 10 = .ok (.if_icmp .ne 20, 3) := by decide +kernel
theorem dX12_isState_13 : decode cX12_isState 13 = .ok (.aload_n 0, 1) := by decide +kernel
theorem dX12_isState_14 : decode cX12_isState 14 = .ok (.getfield 85, 3) := by decide +kernel
theorem dX12_isState_17 : decode cX12_isState 17 = .ok (.iload_n 1, 1) := by decide +kernel
theorem dX12_isState_18 : decode cX12_isState 18 = .ok (.iaload, 1) := by decide +kernel
theorem dX12_isState_19 : decode cX12_isState 19 = .ok (.aload_n 0, 1) := by decide +kernel
theorem dX12_isState_20 : decode cX12_isState 20 = .ok (.getfield 26, 3) := by decide +kernel
theorem dX12_isState_23 : decode cX12_isState 23 = .ok (.if_icmp .ne 7, 3) := by decide +kernel
theorem dX12_isState_26 : decode cX12_isState 26 = .ok (.iconst 1, 1) := by decide +kernel
theorem dX12_isState_27 : decode cX12_isState 27 = .ok (.goto 4, 3) := by decide +kernel
theorem dX12_isState_30 : decode cX12_isState 30 = .ok (.iconst 0, 1) := by decide +kernel
theorem dX12_isState_31 : decode cX12_isState 31 = .ok (.istore_n 2, 1) := by decide +kernel
theorem dX12_isState_32 : decode cX12_isState 32 = .ok (.iconst 0, 1) := by decide +kernel
theorem dX12_isState_33 : decode cX12_isState 33 = .ok (.istore_n 3, 1) := by decide +kernel
theorem dX12_isState_34 : decode cX12_isState 34 = .ok (.iload_n 3, 1) := by decide +kernel
theorem dX12_isState_35 : decode cX12_isState 35 = .ok (.aload_n 0, 1) := by decide +kernel
theorem dX12_isState_36 : decode cX12_isState 36 = .ok (.getfield 138, 3) := by decide +kernel
theorem dX12_isState_39 : decode cX12_isState 39 = .ok (.if_icmp .ge 40, 3) := by decide +kernel
theorem dX12_isState_42 : decode cX12_isState 42 = .ok (.iload_n 2, 1) := by decide +kernel
theorem dX12_isState_43 : decode cX12_isState 43 = .ok (.ifCond .eq 36, 3) := by decide +kernel
theorem dX12_isState_46 : decode cX12_isState 46 = .ok (.aload_n 0, 1) := by decide +kernel
theorem dX12_isState_47 : decode cX12_isState 47 = .ok (.getfield 76, 3) := by decide +kernel
theorem dX12_isState_50 : decode cX12_isState 50 = .ok (.sipush 3000, 3) := by decide +kernel
theorem dX12_isState_53 : decode cX12_isState 53 = .ok (.iload_n 1, 1) := by decide +kernel
theorem dX12_isState_54 : decode cX12_isState 54 = .ok (.imul, 1) := by decide +kernel
theorem dX12_isState_55 : decode cX12_isState 55 = .ok (.iload_n 3, 1) := by decide +kernel
theorem dX12_isState_56 : decode cX12_isState 56 = .ok (.iadd, 1) := by decide +kernel
theorem dX12_isState_57 : decode cX12_isState 57 = .ok (.iaload, 1) := by decide +kernel
theorem dX12_isState_58 : decode cX12_isState 58 = .ok (.aload_n 0, 1) := by decide +kernel
theorem dX12_isState_59 : decode cX12_isState 59 = .ok (.getfield 7, 3) := by decide +kernel
theorem dX12_isState_62 : decode cX12_isState 62 = .ok (.iload_n 3, 1) := by decide +kernel
theorem dX12_isState_63 : decode cX12_isState 63 = .ok (.iaload, 1) := by decide +kernel
theorem dX12_isState_64 : decode cX12_isState 64 = .ok (.if_icmp .ne 7, 3) := by decide +kernel
theorem dX12_isState_67 : decode cX12_isState 67 = .ok (.iconst 1, 1) := by decide +kernel
theorem dX12_isState_68 : decode cX12_isState 68 = .ok (.goto 4, 3) := by decide +kernel
theorem dX12_isState_71 : decode cX12_isState 71 = .ok (.iconst 0, 1) := by decide +kernel
theorem dX12_isState_72 : decode cX12_isState 72 = .ok (.istore_n 2, 1) := by decide +kernel
theorem dX12_isState_73 : decode cX12_isState 73 = .ok (.iinc 3 1, 3) := by decide +kernel
theorem dX12_isState_76 : decode cX12_isState 76 = .ok (.goto (-42), 3) := by decide +kernel
theorem dX12_isState_79 : decode cX12_isState 79 = .ok (.iconst 0, 1) := by decide +kernel
theorem dX12_isState_80 : decode cX12_isState 80 = .ok (.istore_n 3, 1) := by decide +kernel
theorem dX12_isState_81 : decode cX12_isState 81 = .ok (.iload_n 3, 1) := by decide +kernel
theorem dX12_isState_82 : decode cX12_isState 82 = .ok (.aload_n 0, 1) := by decide +kernel
theorem dX12_isState_83 : decode cX12_isState 83 = .ok (.getfield 26, 3) := by decide +kernel
theorem dX12_isState_86 : decode cX12_isState 86 = .ok (.if_icmp .ge 39, 3) := by decide +kernel
theorem dX12_isState_89 : decode cX12_isState 89 = .ok (.iload_n 2, 1) := by decide +kernel
theorem dX12_isState_90 : decode cX12_isState 90 = .ok (.ifCond .eq 35, 3) := by decide +kernel
theorem dX12_isState_93 : decode cX12_isState 93 = .ok (.aload_n 0, 1) := by decide +kernel
theorem dX12_isState_94 : decode cX12_isState 94 = .ok (.getfield 82, 3) := by decide +kernel
theorem dX12_isState_97 : decode cX12_isState 97 = .ok (.bipush 8, 2) := by decide +kernel
theorem dX12_isState_99 : decode cX12_isState 99 = .ok (.iload_n 1, 1) := by decide +kernel
theorem dX12_isState_100 : decode cX12_isState 100 = .ok (.imul, 1) := by decide +kernel
theorem dX12_isState_101 : decode cX12_isState 101 = .ok (.iload_n 3, 1) := by decide +kernel
theorem dX12_isState_102 : decode cX12_isState 102 = .ok (.iadd, 1) := by decide +kernel
theorem dX12_isState_103 : decode cX12_isState 103 = .ok (.iaload, 1) := by decide +kernel
theorem dX12_isState_104 : decode cX12_isState 104 = .ok (.aload_n 0, 1) := by decide +kernel
theorem dX12_isState_105 : decode cX12_isState 105 = .ok (.getfield 13, 3) := by decide +kernel
theorem dX12_isState_108 : decode cX12_isState 108 = .ok (.iload_n 3, 1) := by decide +kernel
theorem dX12_isState_109 : decode cX12_isState 109 = .ok (.iaload, 1) := by decide +kernel
theorem dX12_isState_110 : decode cX12_isState 110 = .ok (.if_icmp .ne 7, 3) := by decide +kernel
theorem dX12_isState_113 : decode cX12_isState 113 = .ok (.iconst 1, 1) := by decide +kernel
theorem dX12_isState_114 : decode cX12_isState 114 = .ok (.goto 4, 3) := by decide +kernel
theorem dX12_isState_117 : decode cX12_isState 117 = .ok (.iconst 0, 1) := by decide +kernel
theorem dX12_isState_118 : decode cX12_isState 118 = .ok (.istore_n 2, 1) := by decide +kernel
theorem dX12_isState_119 : decode cX12_isState 119 = .ok (.iinc 3 1, 3) := by decide +kernel
theorem dX12_isState_122 : decode cX12_isState 122 = .ok (.goto (-41), 3) := by decide +kernel
theorem dX12_isState_125 : decode cX12_isState 125 = .ok (.iconst 0, 1) := by decide +kernel
theorem dX12_isState_126 : decode cX12_isState 126 = .ok (.istore_n 3, 1) := by decide +kernel
theorem dX12_isState_127 : decode cX12_isState 127 = .ok (.iload_n 3, 1) := by decide +kernel
theorem dX12_isState_128 : decode cX12_isState 128 = .ok (.bipush 16, 2) := by decide +kernel
theorem dX12_isState_130 : decode cX12_isState 130 = .ok (.if_icmp .ge 59, 3) := by decide +kernel
theorem dX12_isState_133 : decode cX12_isState 133 = .ok (.iload_n 2, 1) := by decide +kernel
theorem dX12_isState_134 : decode cX12_isState 134 = .ok (.ifCond .eq 55, 3) := by decide +kernel
theorem dX12_isState_137 : decode cX12_isState 137 = .ok (.aload_n 0, 1) := by decide +kernel
theorem dX12_isState_138 : decode cX12_isState 138 = .ok (.getfield 88, 3) := by decide +kernel
theorem dX12_isState_141 : decode cX12_isState 141 = .ok (.bipush 16, 2) := by decide +kernel
theorem dX12_isState_143 : decode cX12_isState 143 = .ok (.iload_n 1, 1) := by decide +kernel
theorem dX12_isState_144 : decode cX12_isState 144 = .ok (.imul, 1) := by decide +kernel
theorem dX12_isState_145 : decode cX12_isState 145 = .ok (.iload_n 3, 1) := by decide +kernel
theorem dX12_isState_146 : decode cX12_isState 146 = .ok (.iadd, 1) := by decide +kernel
theorem dX12_isState_147 : decode cX12_isState 147 = .ok (.iaload, 1) := by decide +kernel
theorem dX12_isState_148 : decode cX12_isState 148 = .ok (.aload_n 0, 1) := by decide +kernel
theorem dX12_isState_149 : decode cX12_isState 149 = .ok (.getfield 16, 3) := by decide +kernel
theorem dX12_isState_152 : decode cX12_isState 152 = .ok (.iload_n 3, 1) := by decide +kernel
theorem dX12_isState_153 : decode cX12_isState 153 = .ok (.iaload, 1) := by decide +kernel
theorem dX12_isState_154 : decode cX12_isState 154 = .ok (.if_icmp .ne 27, 3) := by decide +kernel
theorem dX12_isState_157 : decode cX12_isState 157 = .ok (.aload_n 0, 1) := by decide +kernel
theorem dX12_isState_158 : decode cX12_isState 158 = .ok (.getfield 91, 3) := by decide +kernel
theorem dX12_isState_161 : decode cX12_isState 161 = .ok (.bipush 16, 2) := by decide +kernel
theorem dX12_isState_163 : decode cX12_isState 163 = .ok (.iload_n 1, 1) := by decide +kernel
theorem dX12_isState_164 : decode cX12_isState 164 = .ok (.imul, 1) := by decide +kernel
theorem dX12_isState_165 : decode cX12_isState 165 = .ok (.iload_n 3, 1) := by decide +kernel
theorem dX12_isState_166 : decode cX12_isState 166 = .ok (.iadd, 1) := by decide +kernel
theorem dX12_isState_167 : decode cX12_isState 167 = .ok (.baload, 1) := by decide +kernel
theorem dX12_isState_168 : decode cX12_isState 168 = .ok (.aload_n 0, 1) := by decide +kernel
theorem dX12_isState_169 : decode cX12_isState 169 = .ok (.getfield 19, 3) := by decide +kernel
theorem dX12_isState_172 : decode cX12_isState 172 = .ok (.iload_n 3, 1) := by decide +kernel
theorem dX12_isState_173 : decode cX12_isState 173 = .ok (.baload, 1) := by decide +kernel
theorem dX12_isState_174 : decode cX12_isState 174 = .ok (.if_icmp .ne 7, 3) := by decide +kernel
theorem dX12_isState_177 : decode cX12_isState 177 = .ok (.iconst 1, 1) := by decide +kernel
theorem dX12_isState_178 : decode cX12_isState 178 = .ok (.goto 4, 3) := by decide +kernel
theorem dX12_isState_181 : decode cX12_isState 181 = .ok (.iconst 0, 1) := by decide +kernel
theorem dX12_isState_182 : decode cX12_isState 182 = .ok (.istore_n 2, 1) := by decide +kernel
theorem dX12_isState_183 : decode cX12_isState 183 = .ok (.iinc 3 1, 3) := by decide +kernel
theorem dX12_isState_186 : decode cX12_isState 186 = .ok (.goto (-59), 3) := by decide +kernel
theorem dX12_isState_189 : decode cX12_isState 189 = .ok (.iconst 0, 1) := by decide +kernel
theorem dX12_isState_190 : decode cX12_isState 190 = .ok (.istore_n 3, 1) := by decide +kernel
theorem dX12_isState_191 : decode cX12_isState 191 = .ok (.iload_n 3, 1) := by decide +kernel
theorem dX12_isState_192 : decode cX12_isState 192 = .ok (.sipush 300, 3) := by decide +kernel
theorem dX12_isState_195 : decode cX12_isState 195 = .ok (.if_icmp .ge 40, 3) := by decide +kernel
theorem dX12_isState_198 : decode cX12_isState 198 = .ok (.iload_n 2, 1) := by decide +kernel
theorem dX12_isState_199 : decode cX12_isState 199 = .ok (.ifCond .eq 36, 3) := by decide +kernel
theorem dX12_isState_202 : decode cX12_isState 202 = .ok (.aload_n 0, 1) := by decide +kernel
theorem dX12_isState_203 : decode cX12_isState 203 = .ok (.getfield 95, 3) := by decide +kernel
theorem dX12_isState_206 : decode cX12_isState 206 = .ok (.sipush 300, 3) := by decide +kernel
theorem dX12_isState_209 : decode cX12_isState 209 = .ok (.iload_n 1, 1) := by decide +kernel
theorem dX12_isState_210 : decode cX12_isState 210 = .ok (.imul, 1) := by decide +kernel
theorem dX12_isState_211 : decode cX12_isState 211 = .ok (.iload_n 3, 1) := by decide +kernel
theorem dX12_isState_212 : decode cX12_isState 212 = .ok (.iadd, 1) := by decide +kernel
theorem dX12_isState_213 : decode cX12_isState 213 = .ok (.baload, 1) := by decide +kernel
theorem dX12_isState_214 : decode cX12_isState 214 = .ok (.aload_n 0, 1) := by decide +kernel
theorem dX12_isState_215 : decode cX12_isState 215 = .ok (.getfield 23, 3) := by decide +kernel
theorem dX12_isState_218 : decode cX12_isState 218 = .ok (.iload_n 3, 1) := by decide +kernel
theorem dX12_isState_219 : decode cX12_isState 219 = .ok (.baload, 1) := by decide +kernel
theorem dX12_isState_220 : decode cX12_isState 220 = .ok (.if_icmp .ne 7, 3) := by decide +kernel
theorem dX12_isState_223 : decode cX12_isState 223 = .ok (.iconst 1, 1) := by decide +kernel
theorem dX12_isState_224 : decode cX12_isState 224 = .ok (.goto 4, 3) := by decide +kernel
theorem dX12_isState_227 : decode cX12_isState 227 = .ok (.iconst 0, 1) := by decide +kernel
theorem dX12_isState_228 : decode cX12_isState 228 = .ok (.istore_n 2, 1) := by decide +kernel
theorem dX12_isState_229 : decode cX12_isState 229 = .ok (.iinc 3 1, 3) := by decide +kernel
theorem dX12_isState_232 : decode cX12_isState 232 = .ok (.goto (-41), 3) := by decide +kernel
theorem dX12_isState_235 : decode cX12_isState 235 = .ok (.iload_n 2, 1) := by decide +kernel
theorem dX12_isState_236 : decode cX12_isState 236 = .ok (.ireturn, 1) := by decide +kernel
theorem dX12_errors_0 : decode cX12_errors 0 = .ok (.aload_n 0, 1) := by decide +kernel
theorem dX12_errors_1 : decode cX12_errors 1 = .ok (.invokevirtual 297, 3) := by decide +kernel
theorem dX12_errors_4 : decode cX12_errors 4 = .ok (.aload_n 0, 1) := by decide +kernel
theorem dX12_errors_5 : decode cX12_errors 5 = .ok (.sipush 300, 3) := by decide +kernel
theorem dX12_errors_8 : decode cX12_errors 8 = .ok (.invokevirtual 191, 3) := by decide +kernel
theorem dX12_errors_11 : decode cX12_errors 11 = .ok (.iconst 0, 1) := by decide +kernel
theorem dX12_errors_12 : decode cX12_errors 12 = .ok (.istore_n 1, 1) := by decide +kernel
theorem dX12_errors_13 : decode cX12_errors 13 = .ok (.aload_n 0, 1) := by decide +kernel
theorem dX12_errors_14 : decode cX12_errors 14 = .ok (.invokevirtual 141, 3) := by decide +kernel
theorem dX12_errors_17 : decode cX12_errors 17 = .ok (.istore_n 2, 1) := by decide +kernel
theorem dX12_errors_18 : decode cX12_errors 18 = .ok (.iconst 0, 1) := by decide +kernel
theorem dX12_errors_19 : decode cX12_errors 19 = .ok (.istore_n 3, 1) := by decide +kernel
theorem dX12_errors_20 : decode cX12_errors 20 = .ok (.iload_n 3, 1) := by decide +kernel
theorem dX12_errors_21 : decode cX12_errors 21 = .ok (.iload_n 2, 1) := by decide +kernel
theorem dX12_errors_22 : decode cX12_errors 22 = .ok (.if_icmp .ge 43, 3) := by decide +kernel
theorem dX12_errors_25 : decode cX12_errors 25 = .ok (.aload_n 0, 1) := by decide +kernel
theorem dX12_errors_26 : decode cX12_errors 26 = .ok (.iload_n 3, 1) := by decide +kernel
theorem dX12_errors_27 : decode cX12_errors 27 = .ok (.invokevirtual 145, 3) := by decide +kernel
theorem dX12_errors_30 : decode cX12_errors 30 = .ok (.istore 4, 2) := by decide +kernel
theorem dX12_errors_32 : decode cX12_errors 32 = .ok (.iload_n 1, 1) := by decide +kernel
theorem dX12_errors_33 : decode cX12_errors 33 = .ok (.iload 4, 2) := by decide +kernel
theorem dX12_errors_35 : decode cX12_errors 35 = .ok (.ifCond .eq 17, 3) := by decide +kernel
theorem dX12_errors_38 : decode cX12_errors 38 = .ok (.aload_n 0, 1) := by decide +kernel
theorem dX12_errors_39 : decode cX12_errors 39 = .ok (.getfield 7, 3) := by decide +kernel
theorem dX12_errors_42 : decode cX12_errors 42 = .ok (.iload 4, 2) := by decide +kernel
theorem dX12_errors_44 : decode cX12_errors 44 = .ok (.iconst 1, 1) := by decide +kernel
theorem dX12_errors_45 : decode cX12_errors 45 = .ok (.isub, 1) := by decide +kernel
theorem dX12_errors_46 : decode cX12_errors 46 = .ok (.iaload, 1) := by decide +kernel
theorem dX12_errors_47 : decode cX12_errors 47 = .ok (.bipush 10, 2) := by decide +kernel
theorem dX12_errors_49 : decode cX12_errors 49 = .ok (.if_icmp .ne 7, 3) := by decide +kernel
theorem dX12_errors_52 : decode cX12_errors 52 = .ok (.iconst 0, 1) := by decide +kernel
theorem dX12_errors_53 : decode cX12_errors 53 = .ok (.goto 4, 3) := by decide +kernel
theorem dX12_errors_56 : decode cX12_errors 56 = .ok (.iconst 1, 1) := by decide +kernel
theorem dX12_errors_57 : decode cX12_errors 57 = .ok (.iadd, 1) := by decide +kernel
theorem dX12_errors_58 : decode cX12_errors 58 = .ok (.istore_n 1, 1) := by decide +kernel
theorem dX12_errors_59 : decode cX12_errors 59 = .ok (.iinc 3 1, 3) := by decide +kernel
theorem dX12_errors_62 : decode cX12_errors 62 = .ok (.goto (-42), 3) := by decide +kernel
theorem dX12_errors_65 : decode cX12_errors 65 = .ok (.aload_n 0, 1) := by decide +kernel
theorem dX12_errors_66 : decode cX12_errors 66 = .ok (.invokevirtual 313, 3) := by decide +kernel
theorem dX12_errors_69 : decode cX12_errors 69 = .ok (.istore_n 3, 1) := by decide +kernel
theorem dX12_errors_70 : decode cX12_errors 70 = .ok (.iconst 0, 1) := by decide +kernel
theorem dX12_errors_71 : decode cX12_errors 71 = .ok (.istore 4, 2) := by decide +kernel
theorem dX12_errors_73 : decode cX12_errors 73 = .ok (.iload 4, 2) := by decide +kernel
theorem dX12_errors_75 : decode cX12_errors 75 = .ok (.iload_n 3, 1) := by decide +kernel
theorem dX12_errors_76 : decode cX12_errors 76 = .ok (.if_icmp .ge 16, 3) := by decide +kernel
theorem dX12_errors_79 : decode cX12_errors 79 = .ok (.aload_n 0, 1) := by decide +kernel
theorem dX12_errors_80 : decode cX12_errors 80 = .ok (.iconst 1, 1) := by decide +kernel
theorem dX12_errors_81 : decode cX12_errors 81 = .ok (.invokevirtual 386, 3) := by decide +kernel
theorem dX12_errors_84 : decode cX12_errors 84 = .ok (.istore 5, 2) := by decide +kernel
theorem dX12_errors_86 : decode cX12_errors 86 = .ok (.iinc 4 1, 3) := by decide +kernel
theorem dX12_errors_89 : decode cX12_errors 89 = .ok (.goto (-16), 3) := by decide +kernel
theorem dX12_errors_92 : decode cX12_errors 92 = .ok (.iconst 0, 1) := by decide +kernel
theorem dX12_errors_93 : decode cX12_errors 93 = .ok (.istore 4, 2) := by decide +kernel
theorem dX12_errors_95 : decode cX12_errors 95 = .ok (.iload 4, 2) := by decide +kernel
theorem dX12_errors_97 : decode cX12_errors 97 = .ok (.iload_n 3, 1) := by decide +kernel
theorem dX12_errors_98 : decode cX12_errors 98 = .ok (.if_icmp .ge 16, 3) := by decide +kernel
theorem dX12_errors_101 : decode cX12_errors 101 = .ok (.aload_n 0, 1) := by decide +kernel
theorem dX12_errors_102 : decode cX12_errors 102 = .ok (.iconst 1, 1) := by decide +kernel
theorem dX12_errors_103 : decode cX12_errors 103 = .ok (.invokevirtual 389, 3) := by decide +kernel
theorem dX12_errors_106 : decode cX12_errors 106 = .ok (.istore 5, 2) := by decide +kernel
theorem dX12_errors_108 : decode cX12_errors 108 = .ok (.iinc 4 1, 3) := by decide +kernel
theorem dX12_errors_111 : decode cX12_errors 111 = .ok (.goto (-16), 3) := by decide +kernel
theorem dX12_errors_114 : decode cX12_errors 114 = .ok (.aload_n 0, 1) := by decide +kernel
theorem dX12_errors_115 : decode cX12_errors 115 = .ok (.iload_n 1, 1) := by decide +kernel
theorem dX12_errors_116 : decode cX12_errors 116 = .ok (.aload_n 0, 1) := by decide +kernel
theorem dX12_errors_117 : decode cX12_errors 117 = .ok (.sipush 300, 3) := by decide +kernel
theorem dX12_errors_120 : decode cX12_errors 120 = .ok (.invokevirtual 392, 3) := by decide +kernel
theorem dX12_errors_123 : decode cX12_errors 123 = .ok (.ifCond .eq 7, 3) := by decide +kernel
theorem dX12_errors_126 : decode cX12_errors 126 = .ok (.iconst 0, 1) := by decide +kernel
theorem dX12_errors_127 : decode cX12_errors 127 = .ok (.goto 4, 3) := by decide +kernel
theorem dX12_errors_130 : decode cX12_errors 130 = .ok (.iconst 1, 1) := by decide +kernel
theorem dX12_errors_131 : decode cX12_errors 131 = .ok (.iadd, 1) := by decide +kernel
theorem dX12_errors_132 : decode cX12_errors 132 = .ok (.invokevirtual 209, 3) := by decide +kernel
theorem dX12_errors_135 : decode cX12_errors 135 = .ok (.ireturn, 1) := by decide +kernel
theorem dJ9_abs_0f7a4_0 : decode cJ9_abs_0f7a4 0 = .ok (.iload_n 0, 1) := by decide +kernel
theorem dJ9_abs_0f7a4_1 : decode cJ9_abs_0f7a4 1 = .ok (.ifCond .ge 8, 3) := by decide +kernel
theorem dJ9_abs_0f7a4_4 : decode cJ9_abs_0f7a4 4 = .ok (.iload_n 0, 1) := by decide +kernel
theorem dJ9_abs_0f7a4_5 : decode cJ9_abs_0f7a4 5 = .ok (.ineg, 1) := by decide +kernel
theorem dJ9_abs_0f7a4_6 : decode cJ9_abs_0f7a4 6 = .ok (.goto 4, 3) := by decide +kernel
theorem dJ9_abs_0f7a4_9 : decode cJ9_abs_0f7a4 9 = .ok (.iload_n 0, 1) := by decide +kernel
theorem dJ9_abs_0f7a4_10 : decode cJ9_abs_0f7a4 10 = .ok (.ireturn, 1) := by decide +kernel
theorem dJ9_max_7cf53_0 : decode cJ9_max_7cf53 0 = .ok (.iload_n 0, 1) := by decide +kernel
theorem dJ9_max_7cf53_1 : decode cJ9_max_7cf53 1 = .ok (.iload_n 1, 1) := by decide +kernel
theorem dJ9_max_7cf53_2 : decode cJ9_max_7cf53 2 = .ok (.if_icmp .lt 7, 3) := by decide +kernel
theorem dJ9_max_7cf53_5 : decode cJ9_max_7cf53 5 = .ok (.iload_n 0, 1) := by decide +kernel
theorem dJ9_max_7cf53_6 : decode cJ9_max_7cf53 6 = .ok (.goto 4, 3) := by decide +kernel
theorem dJ9_max_7cf53_9 : decode cJ9_max_7cf53 9 = .ok (.iload_n 1, 1) := by decide +kernel
theorem dJ9_max_7cf53_10 : decode cJ9_max_7cf53 10 = .ok (.ireturn, 1) := by decide +kernel
theorem dJ9_min_7cf53_0 : decode cJ9_min_7cf53 0 = .ok (.iload_n 0, 1) := by decide +kernel
theorem dJ9_min_7cf53_1 : decode cJ9_min_7cf53 1 = .ok (.iload_n 1, 1) := by decide +kernel
theorem dJ9_min_7cf53_2 : decode cJ9_min_7cf53 2 = .ok (.if_icmp .gt 7, 3) := by decide +kernel
theorem dJ9_min_7cf53_5 : decode cJ9_min_7cf53 5 = .ok (.iload_n 0, 1) := by decide +kernel
theorem dJ9_min_7cf53_6 : decode cJ9_min_7cf53 6 = .ok (.goto 4, 3) := by decide +kernel
theorem dJ9_min_7cf53_9 : decode cJ9_min_7cf53 9 = .ok (.iload_n 1, 1) := by decide +kernel
theorem dJ9_min_7cf53_10 : decode cJ9_min_7cf53 10 = .ok (.ireturn, 1) := by decide +kernel

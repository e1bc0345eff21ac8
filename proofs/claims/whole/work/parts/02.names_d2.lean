theorem dX8_readWord_45 : decode cX8_readWord 45 = .ok (.iconst 4, 1) := by decide +kernel
theorem dX8_readWord_46 : decode cX8_readWord 46 = .ok (.putfield 29, 3) := by decide +kernel
theorem dX8_readWord_49 : decode cX8_readWord 49 = .ok (.goto 75, 3) := by decide +kernel
theorem dX8_readWord_52 : decode cX8_readWord 52 = .ok (.aload_n 0, 1) := by decide +kernel
theorem dX8_readWord_53 : decode cX8_readWord 53 = .ok (.ldc 50, 2) := by decide +kernel
theorem dX8_readWord_55 : decode cX8_readWord 55 = .ok (.invokevirtual 46, 3) := by decide +kernel
theorem dX8_readWord_58 : decode cX8_readWord 58 = .ok (.ifCond .eq 11, 3) := by decide +kernel
theorem dX8_readWord_61 : decode cX8_readWord 61 = .ok (.aload_n 0, 1) := by decide +kernel
theorem dX8_readWord_62 : decode cX8_readWord 62 = .ok (.iconst 5, 1) := by decide +kernel
theorem dX8_readWord_63 : decode cX8_readWord 63 = .ok (.putfield 29, 3) := by decide +kernel
theorem dX8_readWord_66 : decode cX8_readWord 66 = .ok (.goto 58, 3) := by decide +kernel
theorem dX8_readWord_69 : decode cX8_readWord 69 = .ok (.aload_n 0, 1) := by decide +kernel
theorem dX8_readWord_70 : decode cX8_readWord 70 = .ok (.ldc 52, 2) := by decide +kernel
theorem dX8_readWord_72 : decode cX8_readWord 72 = .ok (.invokevirtual 46, 3) := by decide +kernel
theorem dX8_readWord_75 : decode cX8_readWord 75 = .ok (.ifCond .eq 12, 3) := by decide +kernel
theorem dX8_readWord_78 : decode cX8_readWord 78 = .ok (.aload_n 0, 1) := by decide +kernel
theorem dX8_readWord_79 : decode cX8_readWord 79 = .ok (.bipush 6, 2) := by decide +kernel
theorem dX8_readWord_81 : decode cX8_readWord 81 = .ok (.putfield 29, 3) := by decide +kernel
theorem dX8_readWord_84 : decode cX8_readWord 84 = .ok (.goto 40, 3) := by decide +kernel
theorem dX8_readWord_87 : decode cX8_readWord 87 = .ok (.aload_n 0, 1) := by decide +kernel
theorem dX8_readWord_88 : decode cX8_readWord 88 = .ok (.ldc 54, 2) := by decide +kernel
theorem dX8_readWord_90 : decode cX8_readWord 90 = .ok (.invokevirtual 46, 3) := by decide +kernel
theorem dX8_readWord_93 : decode cX8_readWord 93 = .ok (.ifCond .eq 12, 3) := by decide +kernel
theorem dX8_readWord_96 : decode cX8_readWord 96 = .ok (.aload_n 0, 1) := by decide +kernel
theorem dX8_readWord_97 : decode cX8_readWord 97 = .ok (.bipush 7, 2) := by decide +kernel
theorem dX8_readWord_99 : decode cX8_readWord 99 = .ok (.putfield 29, 3) := by decide +kernel
theorem dX8_readWord_102 : decode cX8_readWord 102 = .ok (.goto 22, 3) := by decide +kernel
theorem dX8_readWord_105 : decode cX8_readWord 105 = .ok (.aload_n 0, 1) := by decide +kernel
theorem dX8_readWord_106 : decode cX8_readWord 106 = .ok (.aload_n 0, 1) := by decide +kernel
theorem dX8_readWord_107 : decode cX8_readWord 107 = .ok (.ldc 56, 2) := by decide +kernel
theorem dX8_readWord_109 : decode cX8_readWord 109 = .ok (.invokevirtual 46, 3) := by decide +kernel
theorem dX8_readWord_112 : decode cX8_readWord 112 = .ok (.ifCond .eq 8, 3) := by decide +kernel
theorem dX8_readWord_115 : decode cX8_readWord 115 = .ok (.bipush 8, 2) := by decide +kernel
theorem dX8_readWord_117 : decode cX8_readWord 117 = .ok (.goto 4, 3) := by decide +kernel
theorem dX8_readWord_120 : decode cX8_readWord 120 = .ok (.iconst 0, 1) := by decide +kernel
theorem dX8_readWord_121 : decode cX8_readWord 121 = .ok (.putfield 29, 3) := by decide +kernel
theorem dX8_readWord_124 : decode cX8_readWord 124 = .ok (.return_, 1) := by decide +kernel
theorem dX8_isWord_0 : decode cX8_isWord 0 = .ok (.aload_n 0, 1) := by decide +kernel
theorem dX8_isWord_1 : decode cX8_isWord 1 = .ok (.getfield 19, 3) := by decide +kernel
theorem dX8_isWord_4 : decode cX8_isWord 4 = .ok (.aload_n 0, 1) := by decide +kernel
theorem dX8_isWord_5 : decode cX8_isWord 5 = .ok (.getfield 26, 3) := by decide +kernel
theorem dX8_isWord_8 : decode cX8_isWord 8 = .ok (.isub, 1) := by decide +kernel
theorem dX8_isWord_9 : decode cX8_isWord 9 = .ok (.aload_n 1, 1) := by decide +kernel
theorem dX8_isWord_10 : decode cX8_isWord 10 = .ok (.invokevirtual 58, 3) := by decide +kernel
theorem dX8_isWord_13 : decode cX8_isWord 13 = .ok (.if_icmp .eq 5, 3) := by decide +kernel
theorem dX8_isWord_16 : decode cX8_isWord 16 = .ok (.iconst 0, 1) := by decide +kernel
theorem dX8_isWord_17 : decode cX8_isWord 17 = .ok (.ireturn, 1) := by decide +kernel
theorem dX8_isWord_18 : decode cX8_isWord 18 = .ok (.iconst 0, 1) := by decide +kernel
theorem dX8_isWord_19 : decode cX8_isWord 19 = .ok (.istore_n 2, 1) := by decide +kernel
theorem dX8_isWord_20 : decode cX8_isWord 20 = .ok (.iload_n 2, 1) := by decide +kernel
theorem dX8_isWord_21 : decode cX8_isWord 21 = .ok (.aload_n 1, 1) := by decide +kernel
theorem dX8_isWord_22 : decode cX8_isWord 22 = .ok (.invokevirtual 58, 3) := by decide +kernel
theorem dX8_isWord_25 : decode cX8_isWord 25 = .ok (.if_icmp .ge 43, 3) := by decide +kernel
theorem dX8_isWord_28 : decode cX8_isWord 28 = .ok (.aload_n 0, 1) := by decide +kernel
theorem dX8_isWord_29 : decode cX8_isWord 29 = .ok (.getfield 26, 3) := by decide +kernel
theorem dX8_isWord_32 : decode cX8_isWord 32 = .ok (.iload_n 2, 1) := by decide +kernel
theorem dX8_isWord_33 : decode cX8_isWord 33 = .ok (.iadd, 1) := by decide +kernel
theorem dX8_isWord_34 : decode cX8_isWord 34 = .ok (.istore_n 3, 1) := by decide +kernel
theorem dX8_isWord_35 : decode cX8_isWord 35 = .ok (.iload_n 3, 1) := by decide +kernel
theorem dX8_isWord_36 : decode cX8_isWord 36 = .ok (.ifCond .lt 24, 3) := by decide +kernel
theorem dX8_isWord_39 : decode cX8_isWord 39 = .ok (.iload_n 3, 1) := by decide +kernel
theorem dX8_isWord_40 : decode cX8_isWord 40 = .ok (.sipush 150, 3) := by decide +kernel
theorem dX8_isWord_43 : decode cX8_isWord 43 = .ok (.if_icmp .ge 17, 3) := by decide +kernel
theorem dX8_isWord_46 : decode cX8_isWord 46 = .ok (.aload_n 0, 1) := by decide +kernel
theorem dX8_isWord_47 : decode cX8_isWord 47 = .ok (.getfield 9, 3) := by decide +kernel
theorem dX8_isWord_50 : decode cX8_isWord 50 = .ok (.iload_n 3, 1) := by decide +kernel
theorem dX8_isWord_51 : decode cX8_isWord 51 = .ok (.caload, 1) := by decide +kernel
theorem dX8_isWord_52 : decode cX8_isWord 52 = .ok (.aload_n 1, 1) := by decide +kernel
theorem dX8_isWord_53 : decode cX8_isWord 53 = .ok (.iload_n 2, 1) := by decide +kernel
theorem dX8_isWord_54 : decode cX8_isWord 54 = .ok (.invokevirtual 64, 3) := by decide +kernel
theorem dX8_isWord_57 : decode cX8_isWord 57 = .ok (.if_icmp .eq 5, 3) := by decide +kernel
theorem dX8_isWord_60 : decode cX8_isWord 60 = .ok (.iconst 0, 1) := by decide +kernel
theorem dX8_isWord_61 : decode cX8_isWord 61 = .ok (.ireturn, 1) := by decide +kernel
theorem dX8_isWord_62 : decode cX8_isWord 62 = .ok (.iinc 2 1, 3) := by decide +kernel
theorem dX8_isWord_65 : decode cX8_isWord 65 = .ok (.goto (-45), 3) := by decide +kernel
theorem dX8_isWord_68 : decode cX8_isWord 68 = .ok (.iconst 1, 1) := by decide +kernel
theorem dX8_isWord_69 : decode cX8_isWord 69 = .ok (.ireturn, 1) := by decide +kernel
theorem dX8_readNumber_0 : decode cX8_readNumber 0 = .ok (.aload_n 0, 1) := by decide +kernel
theorem dX8_readNumber_1 : decode cX8_readNumber 1 = .ok (.iconst 0, 1) := by decide +kernel
theorem dX8_readNumber_2 : decode cX8_readNumber 2 = .ok (.putfield 68, 3) := by decide +kernel
theorem dX8_readNumber_5 : decode cX8_readNumber 5 = .ok (.aload_n 0, 1) := by decide +kernel
theorem dX8_readNumber_6 : decode cX8_readNumber 6 = .ok (.getfield 19, 3) := by decide +kernel
theorem dX8_readNumber_9 : decode cX8_readNumber 9 = .ok (.aload_n 0, 1) := by decide +kernel
theorem dX8_readNumber_10 : decode cX8_readNumber 10 = .ok (.getfield 15, 3) := by decide +kernel
theorem dX8_readNumber_13 : decode cX8_readNumber 13 = .ok (.if_icmp .ge 51, 3) := by decide +kernel
theorem dX8_readNumber_16 : decode cX8_readNumber 16 = .ok (.aload_n 0, 1) := by decide +kernel
theorem dX8_readNumber_17 : decode cX8_readNumber 17 = .ok (.aload_n 0, 1) := by decide +kernel
theorem dX8_readNumber_18 : decode cX8_readNumber 18 = .ok (.getfield 19, 3) := by decide +kernel
theorem dX8_readNumber_21 : decode cX8_readNumber 21 = .ok (.invokevirtual 38, 3) := by decide +kernel
theorem dX8_readNumber_24 : decode cX8_readNumber 24 = .ok (.ifCond .eq 40, 3) := by decide +kernel
theorem dX8_readNumber_27 : decode cX8_readNumber 27 = .ok (.aload_n 0, 1) := by decide +kernel
theorem dX8_readNumber_28 : decode cX8_readNumber 28 = .ok (.aload_n 0, 1) := by decide +kernel
theorem dX8_readNumber_29 : decode cX8_readNumber 29 = .ok (.getfield 68, 3) := by decide +kernel
theorem dX8_readNumber_32 : decode cX8_readNumber 32 = .ok (.bipush 10, 2) := by decide +kernel
theorem dX8_readNumber_34 : decode cX8_readNumber 34 = .ok (.imul, 1) := by decide +kernel
theorem dX8_readNumber_35 : decode cX8_readNumber 35 = .ok (.aload_n 0, 1) := by decide +kernel
theorem dX8_readNumber_36 : decode cX8_readNumber 36 = .ok (.getfield 9, 3) := by decide +kernel
theorem dX8_readNumber_39 : decode cX8_readNumber 39 = .ok (.aload_n 0, 1) := by decide +kernel
theorem dX8_readNumber_40 : decode cX8_readNumber 40 = .ok (.getfield 19, 3) := by decide +kernel
theorem dX8_readNumber_43 : decode cX8_readNumber 43 = .ok (.caload, 1) := by decide +kernel
theorem dX8_readNumber_44 : decode cX8_readNumber 44 = .ok (.bipush 48, 2) := by decide +kernel
theorem dX8_readNumber_46 : decode cX8_readNumber 46 = .ok (.isub, 1) := by decide +kernel
theorem dX8_readNumber_47 : decode cX8_readNumber 47 = .ok (.iadd, 1) := by decide +kernel
theorem dX8_readNumber_48 : decode cX8_readNumber 48 = .ok (.putfield 68, 3) := by decide +kernel
theorem dX8_readNumber_51 : decode cX8_readNumber 51 = .ok (.aload_n 0, 1) := by decide +kernel
theorem dX8_readNumber_52 : decode cX8_readNumber 52 = .ok (.dup, 1) := by decide +kernel
theorem dX8_readNumber_53 : decode cX8_readNumber 53 = .ok (.getfield 19, 3) := by decide +kernel
theorem dX8_readNumber_56 : decode cX8_readNumber 56 = .ok (.iconst 1, 1) := by decide +kernel
theorem dX8_readNumber_57 : decode cX8_readNumber 57 = .ok (.iadd, 1) := by decide +kernel
theorem dX8_readNumber_58 : decode cX8_readNumber 58 = .ok (.putfield 19, 3) := by decide +kernel
theorem dX8_readNumber_61 : decode cX8_readNumber 61 = .ok (.goto (-56), 3) := by decide +kernel
theorem dX8_readNumber_64 : decode cX8_readNumber 64 = .ok (.aload_n 0, 1) := by decide +kernel
theorem dX8_readNumber_65 : decode cX8_readNumber 65 = .ok (.getfield 19, 3) := by decide +kernel
theorem dX8_readNumber_68 : decode cX8_readNumber 68 = .ok (.aload_n 0, 1) := by decide +kernel
theorem dX8_readNumber_69 : decode cX8_readNumber 69 = .ok (.getfield 26, 3) := by decide +kernel
theorem dX8_readNumber_72 : decode cX8_readNumber 72 = .ok (.isub, 1) := by decide +kernel
theorem dX8_readNumber_73 : decode cX8_readNumber 73 = .ok (.istore_n 1, 1) := by decide +kernel
theorem dX8_readNumber_74 : decode cX8_readNumber 74 = .ok (.iload_n 1, 1) := by decide +kernel
theorem dX8_readNumber_75 : decode cX8_readNumber 75 = .ok (.iconst 1, 1) := by decide +kernel
theorem dX8_readNumber_76 : decode cX8_readNumber 76 = .ok (.if_icmp .le 21, 3) := by decide +kernel
theorem dX8_readNumber_79 : decode cX8_readNumber 79 = .ok (.aload_n 0, 1) := by decide +kernel
theorem dX8_readNumber_80 : decode cX8_readNumber 80 = .ok (.getfield 9, 3) := by decide +kernel
theorem dX8_readNumber_83 : decode cX8_readNumber 83 = .ok (.aload_n 0, 1) := by decide +kernel
theorem dX8_readNumber_84 : decode cX8_readNumber 84 = .ok (.getfield 26, 3) := by decide +kernel
theorem dX8_readNumber_87 : decode cX8_readNumber 87 = .ok (.caload, 1) := by decide +kernel
theorem dX8_readNumber_88 : decode cX8_readNumber 88 = .ok (.bipush 48, 2) := by decide +kernel
theorem dX8_readNumber_90 : decode cX8_readNumber 90 = .ok (.if_icmp .ne 7, 3) := by decide +kernel
theorem dX8_readNumber_93 : decode cX8_readNumber 93 = .ok (.iconst 1, 1) := by decide +kernel
theorem dX8_readNumber_94 : decode cX8_readNumber 94 = .ok (.goto 4, 3) := by decide +kernel
theorem dX8_readNumber_97 : decode cX8_readNumber 97 = .ok (.iconst 0, 1) := by decide +kernel
theorem dX8_readNumber_98 : decode cX8_readNumber 98 = .ok (.istore_n 2, 1) := by decide +kernel
theorem dX8_readNumber_99 : decode cX8_readNumber 99 = .ok (.aload_n 0, 1) := by decide +kernel
theorem dX8_readNumber_100 : decode cX8_readNumber 100 = .ok (.iload_n 1, 1) := by decide +kernel
theorem dX8_readNumber_101 : decode cX8_readNumber 101 = .ok (.iconst 5, 1) := by decide +kernel
theorem dX8_readNumber_102 : decode cX8_readNumber 102 = .ok (.if_icmp .gt 7, 3) := by decide +kernel
theorem dX8_readNumber_105 : decode cX8_readNumber 105 = .ok (.iload_n 2, 1) := by decide +kernel
theorem dX8_readNumber_106 : decode cX8_readNumber 106 = .ok (.ifCond .eq 7, 3) := by decide +kernel
theorem dX8_readNumber_109 : decode cX8_readNumber 109 = .ok (.iconst 0, 1) := by decide +kernel
theorem dX8_readNumber_110 : decode cX8_readNumber 110 = .ok (.goto 4, 3) := by decide +kernel
theorem dX8_readNumber_113 : decode cX8_readNumber 113 = .ok (.iconst 3, 1) := by decide +kernel
theorem dX8_readNumber_114 : decode cX8_readNumber 114 = .ok (.putfield 29, 3) := by decide +kernel
theorem dX8_readNumber_117 : decode cX8_readNumber 117 = .ok (.return_, 1) := by decide +kernel
theorem dX9_init_0 : decode cX9_init 0 = .ok (.aload_n 0, 1) := by decide +kernel
theorem dX9_init_1 : decode cX9_init 1 = .ok (.invokespecial 3, 3) := by decide +kernel
theorem dX9_init_4 : decode cX9_init 4 = .ok (.aload_n 0, 1) := by decide +kernel
theorem dX9_init_5 : decode cX9_init 5 = .ok (.new 9, 3) := by decide +kernel
theorem dX9_init_8 : decode cX9_init 8 = .ok (.dup, 1) := by decide +kernel
theorem dX9_init_9 : decode cX9_init 9 = .ok (.invokespecial 11, 3) := by decide +kernel
theorem dX9_init_12 : decode cX9_init 12 = .ok (.putfield 12, 3) := by decide +kernel
theorem dX9_init_15 : decode cX9_init 15 = .ok (.aload_n 0, 1) := by decide +kernel
theorem dX9_init_16 : decode cX9_init 16 = .ok (.new 16, 3) := by decide +kernel
theorem dX9_init_19 : decode cX9_init 19 = .ok (.dup, 1) := by decide +kernel
theorem dX9_init_20 : decode cX9_init 20 = .ok (.invokespecial 18, 3) := by decide +kernel
theorem dX9_init_23 : decode cX9_init 23 = .ok (.putfield 19, 3) := by decide +kernel
theorem dX9_init_26 : decode cX9_init 26 = .ok (.aload_n 0, 1) := by decide +kernel
theorem dX9_init_27 : decode cX9_init 27 = .ok (.new 16, 3) := by decide +kernel
theorem dX9_init_30 : decode cX9_init 30 = .ok (.dup, 1) := by decide +kernel
theorem dX9_init_31 : decode cX9_init 31 = .ok (.invokespecial 18, 3) := by decide +kernel
theorem dX9_init_34 : decode cX9_init 34 = .ok (.putfield 23, 3) := by decide +kernel
theorem dX9_init_37 : decode cX9_init 37 = .ok (.aload_n 0, 1) := by decide +kernel
theorem dX9_init_38 : decode cX9_init 38 = .ok (.new 26, 3) := by decide +kernel
theorem dX9_init_41 : decode cX9_init 41 = .ok (.dup, 1) := by decide +kernel
theorem dX9_init_42 : decode cX9_init 42 = .ok (.invokespecial 28, 3) := by decide +kernel
theorem dX9_init_45 : decode cX9_init 45 = .ok (.putfield 29, 3) := by decide +kernel
theorem dX9_init_48 : decode cX9_init 48 = .ok (.aload_n 0, 1) := by decide +kernel
theorem dX9_init_49 : decode cX9_init 49 = .ok (.new 33, 3) := by decide +kernel
theorem dX9_init_52 : decode cX9_init 52 = .ok (.dup, 1) := by decide +kernel
theorem dX9_init_53 : decode cX9_init 53 = .ok (.invokespecial 35, 3) := by decide +kernel
theorem dX9_init_56 : decode cX9_init 56 = .ok (.putfield 36, 3) := by decide +kernel
theorem dX9_init_59 : decode cX9_init 59 = .ok (.aload_n 0, 1) := by decide +kernel
theorem dX9_init_60 : decode cX9_init 60 = .ok (.new 40, 3) := by decide +kernel
theorem dX9_init_63 : decode cX9_init 63 = .ok (.dup, 1) := by decide +kernel
theorem dX9_init_64 : decode cX9_init 64 = .ok (.invokespecial 42, 3) := by decide +kernel
theorem dX9_init_67 : decode cX9_init 67 = .ok (.putfield 43, 3) := by decide +kernel
theorem dX9_init_70 : decode cX9_init 70 = .ok (.aload_n 0, 1) := by decide +kernel
theorem dX9_init_71 : decode cX9_init 71 = .ok (.new 47, 3) := by decide +kernel
theorem dX9_init_74 : decode cX9_init 74 = .ok (.dup, 1) := by decide +kernel
theorem dX9_init_75 : decode cX9_init 75 = .ok (.aload_n 0, 1) := by decide +kernel
theorem dX9_init_76 : decode cX9_init 76 = .ok (.getfield 12, 3) := by decide +kernel
theorem dX9_init_79 : decode cX9_init 79 = .ok (.aload_n 0, 1) := by decide +kernel
theorem dX9_init_80 : decode cX9_init 80 = .ok (.getfield 23, 3) := by decide +kernel
theorem dX9_init_83 : decode cX9_init 83 = .ok (.aload_n 0, 1) := by decide +kernel
theorem dX9_init_84 : decode cX9_init 84 = .ok (.getfield 36, 3) := by decide +kernel
theorem dX9_init_87 : decode cX9_init 87 = .ok (.invokespecial 49, 3) := by decide +kernel
theorem dX9_init_90 : decode cX9_init 90 = .ok (.putfield 52, 3) := by decide +kernel
theorem dX9_init_93 : decode cX9_init 93 = .ok (.aload_n 0, 1) := by decide +kernel
theorem dX9_init_94 : decode cX9_init 94 = .ok (.new 56, 3) := by decide +kernel
theorem dX9_init_97 : decode cX9_init 97 = .ok (.dup, 1) := by decide +kernel
theorem dX9_init_98 : decode cX9_init 98 = .ok (.invokespecial 58, 3) := by decide +kernel
theorem dX9_init_101 : decode cX9_init 101 = .ok (.putfield 59, 3) := by decide +kernel
theorem dX9_init_104 : decode cX9_init 104 = .ok (.return_, 1) := by decide +kernel
theorem dX9_appendCharacter_0 : decode cX9_appendCharacter 0 = .ok (.iload_n 1, 1) := by decide +kernel
theorem dX9_appendCharacter_1 : decode cX9_appendCharacter 1 = .ok (.iconst 0, 1) := by decide +kernel
theorem dX9_appendCharacter_2 : decode cX9_appendCharacter 2 = .ok (.sipush 255, 3) := by decide +kernel
theorem dX9_appendCharacter_5 : decode cX9_appendCharacter 5 = .ok (.invokestatic 63, 3) := by decide +kernel
theorem dX9_appendCharacter_8 : decode cX9_appendCharacter 8 = .ok (.ifCond .ne 5, 3) := by decide +kernel
theorem dX9_appendCharacter_11 : decode cX9_appendCharacter 11 = .ok (.iconst (-1), 1) := by decide +kernel
theorem dX9_appendCharacter_12 : decode cX9_appendCharacter 12 = .ok (.ireturn, 1) := by decide +kernel
theorem dX9_appendCharacter_13 : decode cX9_appendCharacter 13 = .ok (.aload_n 0, 1) := by decide +kernel
theorem dX9_appendCharacter_14 : decode cX9_appendCharacter 14 = .ok (.getfield 12, 3) := by decide +kernel
theorem dX9_appendCharacter_17 : decode cX9_appendCharacter 17 = .ok (.iload_n 1, 1) := by decide +kernel
theorem dX9_appendCharacter_18 : decode cX9_appendCharacter 18 = .ok (.i2c, 1) := by decide +kernel
theorem dX9_appendCharacter_19 : decode cX9_appendCharacter 19 = .ok (.invokevirtual 67, 3) := by decide +kernel
theorem dX9_appendCharacter_22 : decode cX9_appendCharacter 22 = .ok (.ifCond .eq 13, 3) := by decide +kernel
theorem dX9_appendCharacter_25 : decode cX9_appendCharacter 25 = .ok (.aload_n 0, 1) := by decide +kernel
theorem dX9_appendCharacter_26 : decode cX9_appendCharacter 26 = .ok (.getfield 12, 3) := by decide +kernel
theorem dX9_appendCharacter_29 : decode cX9_appendCharacter 29 = .ok (.getfield 71, 3) := by decide +kernel
theorem dX9_appendCharacter_32 : decode cX9_appendCharacter 32 = .ok (.goto 5, 3) := by decide +kernel
theorem dX9_appendCharacter_35 : decode cX9_appendCharacter 35 = .ok (.bipush (-3), 2) := by decide +kernel
theorem dX9_appendCharacter_37 : decode cX9_appendCharacter 37 = .ok (.ireturn, 1) := by decide +kernel
theorem dX9_clearText_0 : decode cX9_clearText 0 = .ok (.aload_n 0, 1) := by decide +kernel
theorem dX9_clearText_1 : decode cX9_clearText 1 = .ok (.getfield 12, 3) := by decide +kernel
theorem dX9_clearText_4 : decode cX9_clearText 4 = .ok (.getfield 71, 3) := by decide +kernel
theorem dX9_clearText_7 : decode cX9_clearText 7 = .ok (.istore_n 1, 1) := by decide +kernel
theorem dX9_clearText_8 : decode cX9_clearText 8 = .ok (.aload_n 0, 1) := by decide +kernel
theorem dX9_clearText_9 : decode cX9_clearText 9 = .ok (.getfield 12, 3) := by decide +kernel
theorem dX9_clearText_12 : decode cX9_clearText 12 = .ok (.iconst 0, 1) := by decide +kernel
theorem dX9_clearText_13 : decode cX9_clearText 13 = .ok (.putfield 71, 3) := by decide +kernel
theorem dX9_clearText_16 : decode cX9_clearText 16 = .ok (.iload_n 1, 1) := by decide +kernel
theorem dX9_clearText_17 : decode cX9_clearText 17 = .ok (.ireturn, 1) := by decide +kernel
theorem dX9_load_0 : decode cX9_load 0 = .ok (.aload_n 0, 1) := by decide +kernel
theorem dX9_load_1 : decode cX9_load 1 = .ok (.getfield 52, 3) := by decide +kernel
theorem dX9_load_4 : decode cX9_load 4 = .ok (.invokevirtual 75, 3) := by decide +kernel
theorem dX9_load_7 : decode cX9_load 7 = .ok (.istore_n 1, 1) := by decide +kernel
theorem dX9_load_8 : decode cX9_load 8 = .ok (.iload_n 1, 1) := by decide +kernel
theorem dX9_load_9 : decode cX9_load 9 = .ok (.ifCond .lt 15, 3) := by decide +kernel
theorem dX9_load_12 : decode cX9_load 12 = .ok (.aload_n 0, 1) := by decide +kernel
theorem dX9_load_13 : decode cX9_load 13 = .ok (.invokevirtual 79, 3) := by decide +kernel
theorem dX9_load_16 : decode cX9_load 16 = .ok (.aload_n 0, 1) := by decide +kernel
theorem dX9_load_17 : decode cX9_load 17 = .ok (.getfield 12, 3) := by decide +kernel
theorem dX9_load_20 : decode cX9_load 20 = .ok (.iconst 0, 1) := by decide +kernel
theorem dX9_load_21 : decode cX9_load 21 = .ok (.putfield 71, 3) := by decide +kernel
theorem dX9_load_24 : decode cX9_load 24 = .ok (.iload_n 1, 1) := by decide +kernel
theorem dX9_load_25 : decode cX9_load 25 = .ok (.ireturn, 1) := by decide +kernel
theorem dX9_addPool_0 : decode cX9_addPool 0 = .ok (.iload_n 1, 1) := by decide +kernel
theorem dX9_addPool_1 : decode cX9_addPool 1 = .ok (.iconst 0, 1) := by decide +kernel
theorem dX9_addPool_2 : decode cX9_addPool 2 = .ok (.ldc 82, 2) := by decide +kernel
theorem dX9_addPool_4 : decode cX9_addPool 4 = .ok (.invokestatic 63, 3) := by decide +kernel
theorem dX9_addPool_7 : decode cX9_addPool 7 = .ok (.ifCond .eq 21, 3) := by decide +kernel
theorem dX9_addPool_10 : decode cX9_addPool 10 = .ok (.iload_n 2, 1) := by decide +kernel
theorem dX9_addPool_11 : decode cX9_addPool 11 = .ok (.iconst 4, 1) := by decide +kernel
theorem dX9_addPool_12 : decode cX9_addPool 12 = .ok (.bipush 14, 2) := by decide +kernel
theorem dX9_addPool_14 : decode cX9_addPool 14 = .ok (.invokestatic 63, 3) := by decide +kernel
theorem dX9_addPool_17 : decode cX9_addPool 17 = .ok (.ifCond .eq 11, 3) := by decide +kernel
theorem dX9_addPool_20 : decode cX9_addPool 20 = .ok (.iload_n 1, 1) := by decide +kernel
theorem dX9_addPool_21 : decode cX9_addPool 21 = .ok (.iload_n 2, 1) := by decide +kernel
theorem dX9_addPool_22 : decode cX9_addPool 22 = .ok (.invokestatic 83, 3) := by decide +kernel
theorem dX9_addPool_25 : decode cX9_addPool 25 = .ok (.ifCond .ne 5, 3) := by decide +kernel
theorem dX9_addPool_28 : decode cX9_addPool 28 = .ok (.iconst (-1), 1) := by decide +kernel
theorem dX9_addPool_29 : decode cX9_addPool 29 = .ok (.ireturn, 1) := by decide +kernel
theorem dX9_addPool_30 : decode cX9_addPool 30 = .ok (.aload_n 0, 1) := by decide +kernel
theorem dX9_addPool_31 : decode cX9_addPool 31 = .ok (.getfield 19, 3) := by decide +kernel
theorem dX9_addPool_34 : decode cX9_addPool 34 = .ok (.getfield 87, 3) := by decide +kernel
theorem dX9_addPool_37 : decode cX9_addPool 37 = .ok (.iload_n 1, 1) := by decide +kernel
theorem dX9_addPool_38 : decode cX9_addPool 38 = .ok (.iload_n 2, 1) := by decide +kernel
theorem dX9_addPool_39 : decode cX9_addPool 39 = .ok (.invokevirtual 91, 3) := by decide +kernel
theorem dX9_addPool_42 : decode cX9_addPool 42 = .ok (.ifCond .eq 6, 3) := by decide +kernel
theorem dX9_addPool_45 : decode cX9_addPool 45 = .ok (.bipush (-2), 2) := by decide +kernel
theorem dX9_addPool_47 : decode cX9_addPool 47 = .ok (.ireturn, 1) := by decide +kernel
theorem dX9_addPool_48 : decode cX9_addPool 48 = .ok (.aload_n 0, 1) := by decide +kernel
theorem dX9_addPool_49 : decode cX9_addPool 49 = .ok (.getfield 19, 3) := by decide +kernel
theorem dX9_addPool_52 : decode cX9_addPool 52 = .ok (.getfield 87, 3) := by decide +kernel
theorem dX9_addPool_55 : decode cX9_addPool 55 = .ok (.getfield 96, 3) := by decide +kernel
theorem dX9_addPool_58 : decode cX9_addPool 58 = .ok (.iconst 4, 1) := by decide +kernel
theorem dX9_addPool_59 : decode cX9_addPool 59 = .ok (.if_icmp .lt 6, 3) := by decide +kernel
theorem dX9_addPool_62 : decode cX9_addPool 62 = .ok (.bipush (-3), 2) := by decide +kernel
theorem dX9_addPool_64 : decode cX9_addPool 64 = .ok (.ireturn, 1) := by decide +kernel
theorem dX9_addPool_65 : decode cX9_addPool 65 = .ok (.aload_n 0, 1) := by decide +kernel
theorem dX9_addPool_66 : decode cX9_addPool 66 = .ok (.getfield 29, 3) := by decide +kernel
theorem dX9_addPool_69 : decode cX9_addPool 69 = .ok (.aload_n 0, 1) := by decide +kernel
theorem dX9_addPool_70 : decode cX9_addPool 70 = .ok (.getfield 19, 3) := by decide +kernel
theorem dX9_addPool_73 : decode cX9_addPool 73 = .ok (.invokevirtual 99, 3) := by decide +kernel
theorem dX9_addPool_76 : decode cX9_addPool 76 = .ok (.aload_n 0, 1) := by decide +kernel
theorem dX9_addPool_77 : decode cX9_addPool 77 = .ok (.getfield 19, 3) := by decide +kernel
theorem dX9_addPool_80 : decode cX9_addPool 80 = .ok (.getfield 87, 3) := by decide +kernel
theorem dX9_addPool_83 : decode cX9_addPool 83 = .ok (.iload_n 1, 1) := by decide +kernel
theorem dX9_addPool_84 : decode cX9_addPool 84 = .ok (.iload_n 2, 1) := by decide +kernel
theorem dX9_addPool_85 : decode cX9_addPool 85 = .ok (.invokevirtual 103, 3) := by decide +kernel
theorem dX9_addPool_88 : decode cX9_addPool 88 = .ok (.aload_n 0, 1) := by decide +kernel
theorem dX9_addPool_89 : decode cX9_addPool 89 = .ok (.getfield 19, 3) := by decide +kernel
theorem dX9_addPool_92 : decode cX9_addPool 92 = .ok (.getfield 87, 3) := by decide +kernel
theorem dX9_addPool_95 : decode cX9_addPool 95 = .ok (.getfield 96, 3) := by decide +kernel
theorem dX9_addPool_98 : decode cX9_addPool 98 = .ok (.iconst 1, 1) := by decide +kernel
theorem dX9_addPool_99 : decode cX9_addPool 99 = .ok (.isub, 1) := by decide +kernel
theorem dX9_addPool_100 : decode cX9_addPool 100 = .ok (.ireturn, 1) := by decide +kernel
theorem dX9_removePool_0 : decode cX9_removePool 0 = .ok (.aload_n 0, 1) := by decide +kernel
theorem dX9_removePool_1 : decode cX9_removePool 1 = .ok (.getfield 19, 3) := by decide +kernel
theorem dX9_removePool_4 : decode cX9_removePool 4 = .ok (.getfield 87, 3) := by decide +kernel
theorem dX9_removePool_7 : decode cX9_removePool 7 = .ok (.iload_n 1, 1) := by decide +kernel
theorem dX9_removePool_8 : decode cX9_removePool 8 = .ok (.invokevirtual 107, 3) := by decide +kernel
theorem dX9_removePool_11 : decode cX9_removePool 11 = .ok (.ifCond .ne 5, 3) := by decide +kernel
theorem dX9_removePool_14 : decode cX9_removePool 14 = .ok (.iconst (-1), 1) := by decide +kernel
theorem dX9_removePool_15 : decode cX9_removePool 15 = .ok (.ireturn, 1) := by decide +kernel
theorem dX9_removePool_16 : decode cX9_removePool 16 = .ok (.aload_n 0, 1) := by decide +kernel
theorem dX9_removePool_17 : decode cX9_removePool 17 = .ok (.getfield 19, 3) := by decide +kernel
theorem dX9_removePool_20 : decode cX9_removePool 20 = .ok (.getfield 87, 3) := by decide +kernel
theorem dX9_removePool_23 : decode cX9_removePool 23 = .ok (.getfield 111, 3) := by decide +kernel
theorem dX9_removePool_26 : decode cX9_removePool 26 = .ok (.iload_n 1, 1) := by decide +kernel
theorem dX9_removePool_27 : decode cX9_removePool 27 = .ok (.iaload, 1) := by decide +kernel
theorem dX9_removePool_28 : decode cX9_removePool 28 = .ok (.istore_n 2, 1) := by decide +kernel
theorem dX9_removePool_29 : decode cX9_removePool 29 = .ok (.aload_n 0, 1) := by decide +kernel
theorem dX9_removePool_30 : decode cX9_removePool 30 = .ok (.getfield 19, 3) := by decide +kernel
theorem dX9_removePool_33 : decode cX9_removePool 33 = .ok (.getfield 87, 3) := by decide +kernel
theorem dX9_removePool_36 : decode cX9_removePool 36 = .ok (.getfield 115, 3) := by decide +kernel
theorem dX9_removePool_39 : decode cX9_removePool 39 = .ok (.iload_n 1, 1) := by decide +kernel
theorem dX9_removePool_40 : decode cX9_removePool 40 = .ok (.iaload, 1) := by decide +kernel
theorem dX9_removePool_41 : decode cX9_removePool 41 = .ok (.istore_n 3, 1) := by decide +kernel
theorem dX9_removePool_42 : decode cX9_removePool 42 = .ok (.aload_n 0, 1) := by decide +kernel
theorem dX9_removePool_43 : decode cX9_removePool 43 = .ok (.getfield 36, 3) := by decide +kernel
theorem dX9_removePool_46 : decode cX9_removePool 46 = .ok (.aload_n 0, 1) := by decide +kernel
theorem dX9_removePool_47 : decode cX9_removePool 47 = .ok (.getfield 19, 3) := by decide +kernel
theorem dX9_removePool_50 : decode cX9_removePool 50 = .ok (.getfield 87, 3) := by decide +kernel
theorem dX9_removePool_53 : decode cX9_removePool 53 = .ok (.invokevirtual 118, 3) := by decide +kernel
theorem dX9_removePool_56 : decode cX9_removePool 56 = .ok (.aload_n 0, 1) := by decide +kernel
theorem dX9_removePool_57 : decode cX9_removePool 57 = .ok (.getfield 36, 3) := by decide +kernel
theorem dX9_removePool_60 : decode cX9_removePool 60 = .ok (.getfield 122, 3) := by decide +kernel
theorem dX9_removePool_63 : decode cX9_removePool 63 = .ok (.iload_n 2, 1) := by decide +kernel
theorem dX9_removePool_64 : decode cX9_removePool 64 = .ok (.iload_n 3, 1) := by decide +kernel
theorem dX9_removePool_65 : decode cX9_removePool 65 = .ok (.invokevirtual 125, 3) := by decide +kernel
theorem dX9_removePool_68 : decode cX9_removePool 68 = .ok (.iload_n 3, 1) := by decide +kernel
theorem dX9_removePool_69 : decode cX9_removePool 69 = .ok (.invokestatic 129, 3) := by decide +kernel
theorem dX9_removePool_72 : decode cX9_removePool 72 = .ok (.if_icmp .eq 6, 3) := by decide +kernel
theorem dX9_removePool_75 : decode cX9_removePool 75 = .ok (.bipush (-2), 2) := by decide +kernel
theorem dX9_removePool_77 : decode cX9_removePool 77 = .ok (.ireturn, 1) := by decide +kernel
theorem dX9_removePool_78 : decode cX9_removePool 78 = .ok (.aload_n 0, 1) := by decide +kernel
theorem dX9_removePool_79 : decode cX9_removePool 79 = .ok (.getfield 29, 3) := by decide +kernel
theorem dX9_removePool_82 : decode cX9_removePool 82 = .ok (.aload_n 0, 1) := by decide +kernel
theorem dX9_removePool_83 : decode cX9_removePool 83 = .ok (.getfield 19, 3) := by decide +kernel
theorem dX9_removePool_86 : decode cX9_removePool 86 = .ok (.invokevirtual 99, 3) := by decide +kernel
theorem dX9_removePool_89 : decode cX9_removePool 89 = .ok (.aload_n 0, 1) := by decide +kernel
theorem dX9_removePool_90 : decode cX9_removePool 90 = .ok (.getfield 19, 3) := by decide +kernel
theorem dX9_removePool_93 : decode cX9_removePool 93 = .ok (.getfield 87, 3) := by decide +kernel
theorem dX9_removePool_96 : decode cX9_removePool 96 = .ok (.iload_n 1, 1) := by decide +kernel
theorem dX9_removePool_97 : decode cX9_removePool 97 = .ok (.invokevirtual 133, 3) := by decide +kernel
theorem dX9_removePool_100 : decode cX9_removePool 100 = .ok (.aload_n 0, 1) := by decide +kernel
theorem dX9_removePool_101 : decode cX9_removePool 101 = .ok (.getfield 19, 3) := by decide +kernel
theorem dX9_removePool_104 : decode cX9_removePool 104 = .ok (.getfield 87, 3) := by decide +kernel
theorem dX9_removePool_107 : decode cX9_removePool 107 = .ok (.getfield 96, 3) := by decide +kernel
theorem dX9_removePool_110 : decode cX9_removePool 110 = .ok (.ireturn, 1) := by decide +kernel
theorem dX9_setPolicy_0 : decode cX9_setPolicy 0 = .ok (.iload_n 1, 1) := by decide +kernel
theorem dX9_setPolicy_1 : decode cX9_setPolicy 1 = .ok (.iconst 0, 1) := by decide +kernel
theorem dX9_setPolicy_2 : decode cX9_setPolicy 2 = .ok (.iconst 3, 1) := by decide +kernel
theorem dX9_setPolicy_3 : decode cX9_setPolicy 3 = .ok (.invokestatic 63, 3) := by decide +kernel
theorem dX9_setPolicy_6 : decode cX9_setPolicy 6 = .ok (.ifCond .ne 5, 3) := by decide +kernel
theorem dX9_setPolicy_9 : decode cX9_setPolicy 9 = .ok (.iconst (-1), 1) := by decide +kernel
theorem dX9_setPolicy_10 : decode cX9_setPolicy 10 = .ok (.ireturn, 1) := by decide +kernel
theorem dX9_setPolicy_11 : decode cX9_setPolicy 11 = .ok (.aload_n 0, 1) := by decide +kernel
theorem dX9_setPolicy_12 : decode cX9_setPolicy 12 = .ok (.getfield 29, 3) := by decide +kernel
theorem dX9_setPolicy_15 : decode cX9_setPolicy 15 = .ok (.aload_n 0, 1) := by decide +kernel
theorem dX9_setPolicy_16 : decode cX9_setPolicy 16 = .ok (.getfield 19, 3) := by decide +kernel
theorem dX9_setPolicy_19 : decode cX9_setPolicy 19 = .ok (.invokevirtual 99, 3) := by decide +kernel
theorem dX9_setPolicy_22 : decode cX9_setPolicy 22 = .ok (.aload_n 0, 1) := by decide +kernel
theorem dX9_setPolicy_23 : decode cX9_setPolicy 23 = .ok (.getfield 19, 3) := by decide +kernel
theorem dX9_setPolicy_26 : decode cX9_setPolicy 26 = .ok (.getfield 87, 3) := by decide +kernel
theorem dX9_setPolicy_29 : decode cX9_setPolicy 29 = .ok (.getfield 137, 3) := by decide +kernel
theorem dX9_setPolicy_32 : decode cX9_setPolicy 32 = .ok (.istore_n 2, 1) := by decide +kernel
theorem dX9_setPolicy_33 : decode cX9_setPolicy 33 = .ok (.aload_n 0, 1) := by decide +kernel
theorem dX9_setPolicy_34 : decode cX9_setPolicy 34 = .ok (.getfield 19, 3) := by decide +kernel
theorem dX9_setPolicy_37 : decode cX9_setPolicy 37 = .ok (.getfield 87, 3) := by decide +kernel
theorem dX9_setPolicy_40 : decode cX9_setPolicy 40 = .ok (.iload_n 1, 1) := by decide +kernel
theorem dX9_setPolicy_41 : decode cX9_setPolicy 41 = .ok (.putfield 137, 3) := by decide +kernel
theorem dX9_setPolicy_44 : decode cX9_setPolicy 44 = .ok (.iload_n 2, 1) := by decide +kernel
theorem dX9_setPolicy_45 : decode cX9_setPolicy 45 = .ok (.ireturn, 1) := by decide +kernel
theorem dX9_pool_0 : decode cX9_pool 0 = .ok (.aload_n 0, 1) := by decide +kernel
theorem dX9_pool_1 : decode cX9_pool 1 = .ok (.getfield 19, 3) := by decide +kernel
theorem dX9_pool_4 : decode cX9_pool 4 = .ok (.getfield 87, 3) := by decide +kernel
theorem dX9_pool_7 : decode cX9_pool 7 = .ok (.iload_n 1, 1) := by decide +kernel
theorem dX9_pool_8 : decode cX9_pool 8 = .ok (.invokevirtual 107, 3) := by decide +kernel
theorem dX9_pool_11 : decode cX9_pool 11 = .ok (.ifCond .eq 12, 3) := by decide +kernel
theorem dX9_pool_14 : decode cX9_pool 14 = .ok (.iload_n 2, 1) := by decide +kernel
theorem dX9_pool_15 : decode cX9_pool 15 = .ok (.iconst 0, 1) := by decide +kernel
theorem dX9_pool_16 : decode cX9_pool 16 = .ok (.iconst 3, 1) := by decide +kernel
theorem dX9_pool_17 : decode cX9_pool 17 = .ok (.invokestatic 63, 3) := by decide +kernel
theorem dX9_pool_20 : decode cX9_pool 20 = .ok (.ifCond .ne 5, 3) := by decide +kernel
theorem dX9_pool_23 : decode cX9_pool 23 = .ok (.iconst (-1), 1) := by decide +kernel
theorem dX9_pool_24 : decode cX9_pool 24 = .ok (.ireturn, 1) := by decide +kernel
theorem dX9_pool_25 : decode cX9_pool 25 = .ok (.aload_n 0, 1) := by decide +kernel
theorem dX9_pool_26 : decode cX9_pool 26 = .ok (.getfield 19, 3) := by decide +kernel
theorem dX9_pool_29 : decode cX9_pool 29 = .ok (.getfield 87, 3) := by decide +kernel
theorem dX9_pool_32 : decode cX9_pool 32 = .ok (.getfield 111, 3) := by decide +kernel
theorem dX9_pool_35 : decode cX9_pool 35 = .ok (.iload_n 1, 1) := by decide +kernel
theorem dX9_pool_36 : decode cX9_pool 36 = .ok (.iaload, 1) := by decide +kernel
theorem dX9_pool_37 : decode cX9_pool 37 = .ok (.istore_n 3, 1) := by decide +kernel
theorem dX9_pool_38 : decode cX9_pool 38 = .ok (.aload_n 0, 1) := by decide +kernel
theorem dX9_pool_39 : decode cX9_pool 39 = .ok (.getfield 19, 3) := by decide +kernel
theorem dX9_pool_42 : decode cX9_pool 42 = .ok (.getfield 87, 3) := by decide +kernel
theorem dX9_pool_45 : decode cX9_pool 45 = .ok (.getfield 115, 3) := by decide +kernel
theorem dX9_pool_48 : decode cX9_pool 48 = .ok (.iload_n 1, 1) := by decide +kernel
theorem dX9_pool_49 : decode cX9_pool 49 = .ok (.iaload, 1) := by decide +kernel
theorem dX9_pool_50 : decode cX9_pool 50 = .ok (.istore 4, 2) := by decide +kernel
theorem dX9_pool_52 : decode cX9_pool 52 = .ok (.iload_n 2, 1) := by decide +kernel
theorem dX9_pool_53 : decode cX9_pool 53 = .ok (.ifCond .ne 5, 3) := by decide +kernel
theorem dX9_pool_56 : decode cX9_pool 56 = .ok (.iload_n 3, 1) := by decide +kernel
theorem dX9_pool_57 : decode cX9_pool 57 = .ok (.ireturn, 1) := by decide +kernel
theorem dX9_pool_58 : decode cX9_pool 58 = .ok (.iload_n 2, 1) := by decide +kernel
theorem dX9_pool_59 : decode cX9_pool 59 = .ok (.iconst 1, 1) := by decide +kernel
theorem dX9_pool_60 : decode cX9_pool 60 = .ok (.if_icmp .ne 6, 3) := by decide +kernel
theorem dX9_pool_63 : decode cX9_pool 63 = .ok (.iload 4, 2) := by decide +kernel
theorem dX9_pool_65 : decode cX9_pool 65 = .ok (.ireturn, 1) := by decide +kernel
theorem dX9_pool_66 : decode cX9_pool 66 = .ok (.aload_n 0, 1) := by decide +kernel
theorem dX9_pool_67 : decode cX9_pool 67 = .ok (.getfield 36, 3) := by decide +kernel
theorem dX9_pool_70 : decode cX9_pool 70 = .ok (.aload_n 0, 1) := by decide +kernel
theorem dX9_pool_71 : decode cX9_pool 71 = .ok (.getfield 19, 3) := by decide +kernel
theorem dX9_pool_74 : decode cX9_pool 74 = .ok (.getfield 87, 3) := by decide +kernel
theorem dX9_pool_77 : decode cX9_pool 77 = .ok (.invokevirtual 118, 3) := by decide +kernel
theorem dX9_pool_80 : decode cX9_pool 80 = .ok (.iload_n 2, 1) := by decide +kernel
theorem dX9_pool_81 : decode cX9_pool 81 = .ok (.iconst 2, 1) := by decide +kernel
theorem dX9_pool_82 : decode cX9_pool 82 = .ok (.if_icmp .ne 19, 3) := by decide +kernel
theorem dX9_pool_85 : decode cX9_pool 85 = .ok (.aload_n 0, 1) := by decide +kernel
theorem dX9_pool_86 : decode cX9_pool 86 = .ok (.getfield 36, 3) := by decide +kernel
theorem dX9_pool_89 : decode cX9_pool 89 = .ok (.getfield 122, 3) := by decide +kernel
theorem dX9_pool_92 : decode cX9_pool 92 = .ok (.iload_n 3, 1) := by decide +kernel
theorem dX9_pool_93 : decode cX9_pool 93 = .ok (.iload 4, 2) := by decide +kernel
theorem dX9_pool_95 : decode cX9_pool 95 = .ok (.invokevirtual 125, 3) := by decide +kernel
theorem dX9_pool_98 : decode cX9_pool 98 = .ok (.goto 16, 3) := by decide +kernel
theorem dX9_pool_101 : decode cX9_pool 101 = .ok (.aload_n 0, 1) := by decide +kernel
theorem dX9_pool_102 : decode cX9_pool 102 = .ok (.getfield 36, 3) := by decide +kernel
theorem dX9_pool_105 : decode cX9_pool 105 = .ok (.getfield 122, 3) := by decide +kernel
theorem dX9_pool_108 : decode cX9_pool 108 = .ok (.iload_n 3, 1) := by decide +kernel
theorem dX9_pool_109 : decode cX9_pool 109 = .ok (.iload 4, 2) := by decide +kernel
theorem dX9_pool_111 : decode cX9_pool 111 = .ok (.invokevirtual 140, 3) := by decide +kernel
theorem dX9_pool_114 : decode cX9_pool 114 = .ok (.ireturn, 1) := by decide +kernel
theorem dX9_freeBlocks_0 : decode cX9_freeBlocks 0 = .ok (.iload_n 1, 1) := by decide +kernel
theorem dX9_freeBlocks_1 : decode cX9_freeBlocks 1 = .ok (.iconst 0, 1) := by decide +kernel
theorem dX9_freeBlocks_2 : decode cX9_freeBlocks 2 = .ok (.bipush 16, 2) := by decide +kernel
theorem dX9_freeBlocks_4 : decode cX9_freeBlocks 4 = .ok (.invokestatic 63, 3) := by decide +kernel
theorem dX9_freeBlocks_7 : decode cX9_freeBlocks 7 = .ok (.ifCond .ne 5, 3) := by decide +kernel
theorem dX9_freeBlocks_10 : decode cX9_freeBlocks 10 = .ok (.iconst (-1), 1) := by decide +kernel
theorem dX9_freeBlocks_11 : decode cX9_freeBlocks 11 = .ok (.ireturn, 1) := by decide +kernel
theorem dX9_freeBlocks_12 : decode cX9_freeBlocks 12 = .ok (.aload_n 0, 1) := by decide +kernel
theorem dX9_freeBlocks_13 : decode cX9_freeBlocks 13 = .ok (.getfield 36, 3) := by decide +kernel
theorem dX9_freeBlocks_16 : decode cX9_freeBlocks 16 = .ok (.aload_n 0, 1) := by decide +kernel
theorem dX9_freeBlocks_17 : decode cX9_freeBlocks 17 = .ok (.getfield 19, 3) := by decide +kernel
theorem dX9_freeBlocks_20 : decode cX9_freeBlocks 20 = .ok (.getfield 87, 3) := by decide +kernel
theorem dX9_freeBlocks_23 : decode cX9_freeBlocks 23 = .ok (.invokevirtual 118, 3) := by decide +kernel
theorem dX9_freeBlocks_26 : decode cX9_freeBlocks 26 = .ok (.aload_n 0, 1) := by decide +kernel
theorem dX9_freeBlocks_27 : decode cX9_freeBlocks 27 = .ok (.getfield 36, 3) := by decide +kernel
theorem dX9_freeBlocks_30 : decode cX9_freeBlocks 30 = .ok (.getfield 122, 3) := by decide +kernel
theorem dX9_freeBlocks_33 : decode cX9_freeBlocks 33 = .ok (.iload_n 1, 1) := by decide +kernel
theorem dX9_freeBlocks_34 : decode cX9_freeBlocks 34 = .ok (.invokevirtual 143, 3) := by decide +kernel
theorem dX9_freeBlocks_37 : decode cX9_freeBlocks 37 = .ok (.ireturn, 1) := by decide +kernel
theorem dX9_largestFree_0 : decode cX9_largestFree 0 = .ok (.aload_n 0, 1) := by decide +kernel
theorem dX9_largestFree_1 : decode cX9_largestFree 1 = .ok (.getfield 36, 3) := by decide +kernel
theorem dX9_largestFree_4 : decode cX9_largestFree 4 = .ok (.aload_n 0, 1) := by decide +kernel
theorem dX9_largestFree_5 : decode cX9_largestFree 5 = .ok (.getfield 19, 3) := by decide +kernel
theorem dX9_largestFree_8 : decode cX9_largestFree 8 = .ok (.getfield 87, 3) := by decide +kernel
theorem dX9_largestFree_11 : decode cX9_largestFree 11 = .ok (.invokevirtual 118, 3) := by decide +kernel
theorem dX9_largestFree_14 : decode cX9_largestFree 14 = .ok (.aload_n 0, 1) := by decide +kernel
theorem dX9_largestFree_15 : decode cX9_largestFree 15 = .ok (.getfield 36, 3) := by decide +kernel
theorem dX9_largestFree_18 : decode cX9_largestFree 18 = .ok (.getfield 122, 3) := by decide +kernel
theorem dX9_largestFree_21 : decode cX9_largestFree 21 = .ok (.invokevirtual 146, 3) := by decide +kernel
theorem dX9_largestFree_24 : decode cX9_largestFree 24 = .ok (.istore_n 1, 1) := by decide +kernel
theorem dX9_largestFree_25 : decode cX9_largestFree 25 = .ok (.iload_n 1, 1) := by decide +kernel
theorem dX9_largestFree_26 : decode cX9_largestFree 26 = .ok (.iconst (-1), 1) := by decide +kernel
theorem dX9_largestFree_27 : decode cX9_largestFree 27 = .ok (.if_icmp .ne 8, 3) := by decide +kernel
theorem dX9_largestFree_30 : decode cX9_largestFree 30 = .ok (.bipush (-9), 2) := by decide +kernel
theorem dX9_largestFree_32 : decode cX9_largestFree 32 = .ok (.goto 4, 3) := by decide +kernel
theorem dX9_largestFree_35 : decode cX9_largestFree 35 = .ok (.iload_n 1, 1) := by decide +kernel
theorem dX9_largestFree_36 : decode cX9_largestFree 36 = .ok (.ireturn, 1) := by decide +kernel
theorem dX9_capacity_0 : decode cX9_capacity 0 = .ok (.iload_n 1, 1) := by decide +kernel
theorem dX9_capacity_1 : decode cX9_capacity 1 = .ok (.iconst 0, 1) := by decide +kernel
theorem dX9_capacity_2 : decode cX9_capacity 2 = .ok (.bipush 16, 2) := by decide +kernel
theorem dX9_capacity_4 : decode cX9_capacity 4 = .ok (.invokestatic 63, 3) := by decide +kernel
theorem dX9_capacity_7 : decode cX9_capacity 7 = .ok (.ifCond .ne 5, 3) := by decide +kernel
theorem dX9_capacity_10 : decode cX9_capacity 10 = .ok (.iconst (-1), 1) := by decide +kernel
theorem dX9_capacity_11 : decode cX9_capacity 11 = .ok (.ireturn, 1) := by decide +kernel
theorem dX9_capacity_12 : decode cX9_capacity 12 = .ok (.aload_n 0, 1) := by decide +kernel
theorem dX9_capacity_13 : decode cX9_capacity 13 = .ok (.getfield 36, 3) := by decide +kernel
theorem dX9_capacity_16 : decode cX9_capacity 16 = .ok (.aload_n 0, 1) := by decide +kernel
theorem dX9_capacity_17 : decode cX9_capacity 17 = .ok (.getfield 19, 3) := by decide +kernel
theorem dX9_capacity_20 : decode cX9_capacity 20 = .ok (.getfield 87, 3) := by decide +kernel
theorem dX9_capacity_23 : decode cX9_capacity 23 = .ok (.invokevirtual 118, 3) := by decide +kernel
theorem dX9_capacity_26 : decode cX9_capacity 26 = .ok (.aload_n 0, 1) := by decide +kernel
theorem dX9_capacity_27 : decode cX9_capacity 27 = .ok (.getfield 36, 3) := by decide +kernel
theorem dX9_capacity_30 : decode cX9_capacity 30 = .ok (.getfield 122, 3) := by decide +kernel
theorem dX9_capacity_33 : decode cX9_capacity 33 = .ok (.iload_n 1, 1) := by decide +kernel
theorem dX9_capacity_34 : decode cX9_capacity 34 = .ok (.invokevirtual 149, 3) := by decide +kernel
theorem dX9_capacity_37 : decode cX9_capacity 37 = .ok (.ireturn, 1) := by decide +kernel
theorem dX9_fragmentation_0 : decode cX9_fragmentation 0 = .ok (.aload_n 0, 1) := by decide +kernel
theorem dX9_fragmentation_1 : decode cX9_fragmentation 1 = .ok (.getfield 36, 3) := by decide +kernel
theorem dX9_fragmentation_4 : decode cX9_fragmentation 4 = .ok (.aload_n 0, 1) := by decide +kernel
theorem dX9_fragmentation_5 : decode cX9_fragmentation 5 = .ok (.getfield 19, 3) := by decide +kernel
theorem dX9_fragmentation_8 : decode cX9_fragmentation 8 = .ok (.getfield 87, 3) := by decide +kernel
theorem dX9_fragmentation_11 : decode cX9_fragmentation 11 = .ok (.invokevirtual 118, 3) := by decide +kernel
theorem dX9_fragmentation_14 : decode cX9_fragmentation 14 = .ok (.aload_n 0, 1) := by decide +kernel
theorem dX9_fragmentation_15 : decode cX9_fragmentation 15 = .ok (.getfield 36, 3) := by decide +kernel
theorem dX9_fragmentation_18 : decode cX9_fragmentation 18 = .ok (.getfield 122, 3) := by decide +kernel
theorem dX9_fragmentation_21 : decode cX9_fragmentation 21 = .ok (.invokevirtual 152, 3) := by decide +kernel
theorem dX9_fragmentation_24 : decode cX9_fragmentation 24 = .ok (.ireturn, 1) := by decide +kernel
theorem dX9_assign_0 : decode cX9_assign 0 = .ok (.iload_n 1, 1) := by decide +kernel
theorem dX9_assign_1 : decode cX9_assign 1 = .ok (.invokestatic 155, 3) := by decide +kernel
theorem dX9_assign_4 : decode cX9_assign 4 = .ok (.ifCond .eq 13, 3) := by decide +kernel
theorem dX9_assign_7 : decode cX9_assign 7 = .ok (.iload_n 2, 1) := by decide +kernel
theorem dX9_assign_8 : decode cX9_assign 8 = .ok (.iconst 5, 1) := by decide +kernel
theorem dX9_assign_9 : decode cX9_assign 9 = .ok (.bipush 16, 2) := by decide +kernel
theorem dX9_assign_11 : decode cX9_assign 11 = .ok (.invokestatic 63, 3) := by decide +kernel
theorem dX9_assign_14 : decode cX9_assign 14 = .ok (.ifCond .ne 5, 3) := by decide +kernel
theorem dX9_assign_17 : decode cX9_assign 17 = .ok (.iconst (-1), 1) := by decide +kernel
theorem dX9_assign_18 : decode cX9_assign 18 = .ok (.ireturn, 1) := by decide +kernel
theorem dX9_assign_19 : decode cX9_assign 19 = .ok (.aload_n 0, 1) := by decide +kernel
theorem dX9_assign_20 : decode cX9_assign 20 = .ok (.getfield 19, 3) := by decide +kernel
theorem dX9_assign_23 : decode cX9_assign 23 = .ok (.getfield 87, 3) := by decide +kernel
theorem dX9_assign_26 : decode cX9_assign 26 = .ok (.iload_n 1, 1) := by decide +kernel
theorem dX9_assign_27 : decode cX9_assign 27 = .ok (.invokevirtual 158, 3) := by decide +kernel
theorem dX9_assign_30 : decode cX9_assign 30 = .ok (.ifCond .eq 6, 3) := by decide +kernel
theorem dX9_assign_33 : decode cX9_assign 33 = .ok (.bipush (-2), 2) := by decide +kernel
theorem dX9_assign_35 : decode cX9_assign 35 = .ok (.ireturn, 1) := by decide +kernel
theorem dX9_assign_36 : decode cX9_assign 36 = .ok (.aload_n 0, 1) := by decide +kernel
theorem dX9_assign_37 : decode cX9_assign 37 = .ok (.getfield 36, 3) := by decide +kernel
theorem dX9_assign_40 : decode cX9_assign 40 = .ok (.aload_n 0, 1) := by decide +kernel
theorem dX9_assign_41 : decode cX9_assign 41 = .ok (.getfield 19, 3) := by decide +kernel
theorem dX9_assign_44 : decode cX9_assign 44 = .ok (.getfield 87, 3) := by decide +kernel
theorem dX9_assign_47 : decode cX9_assign 47 = .ok (.iload_n 2, 1) := by decide +kernel
theorem dX9_assign_48 : decode cX9_assign 48 = .ok (.invokevirtual 161, 3) := by decide +kernel
theorem dX9_assign_51 : decode cX9_assign 51 = .ok (.istore_n 3, 1) := by decide +kernel
theorem dX9_assign_52 : decode cX9_assign 52 = .ok (.iload_n 3, 1) := by decide +kernel
theorem dX9_assign_53 : decode cX9_assign 53 = .ok (.iconst (-1), 1) := by decide +kernel
theorem dX9_assign_54 : decode cX9_assign 54 = .ok (.if_icmp .ne 6, 3) := by decide +kernel
theorem dX9_assign_57 : decode cX9_assign 57 = .ok (.bipush (-3), 2) := by decide +kernel
theorem dX9_assign_59 : decode cX9_assign 59 = .ok (.ireturn, 1) := by decide +kernel
theorem dX9_assign_60 : decode cX9_assign 60 = .ok (.aload_n 0, 1) := by decide +kernel
theorem dX9_assign_61 : decode cX9_assign 61 = .ok (.getfield 29, 3) := by decide +kernel
theorem dX9_assign_64 : decode cX9_assign 64 = .ok (.aload_n 0, 1) := by decide +kernel
theorem dX9_assign_65 : decode cX9_assign 65 = .ok (.getfield 19, 3) := by decide +kernel
theorem dX9_assign_68 : decode cX9_assign 68 = .ok (.invokevirtual 99, 3) := by decide +kernel
theorem dX9_assign_71 : decode cX9_assign 71 = .ok (.aload_n 0, 1) := by decide +kernel
theorem dX9_assign_72 : decode cX9_assign 72 = .ok (.getfield 19, 3) := by decide +kernel
theorem dX9_assign_75 : decode cX9_assign 75 = .ok (.getfield 87, 3) := by decide +kernel
theorem dX9_assign_78 : decode cX9_assign 78 = .ok (.iload_n 1, 1) := by decide +kernel
theorem dX9_assign_79 : decode cX9_assign 79 = .ok (.iload_n 3, 1) := by decide +kernel
theorem dX9_assign_80 : decode cX9_assign 80 = .ok (.iload_n 2, 1) := by decide +kernel
theorem dX9_assign_81 : decode cX9_assign 81 = .ok (.invokevirtual 165, 3) := by decide +kernel
theorem dX9_assign_84 : decode cX9_assign 84 = .ok (.iload_n 3, 1) := by decide +kernel
theorem dX9_assign_85 : decode cX9_assign 85 = .ok (.ireturn, 1) := by decide +kernel
theorem dX9_release_0 : decode cX9_release 0 = .ok (.iload_n 1, 1) := by decide +kernel
theorem dX9_release_1 : decode cX9_release 1 = .ok (.invokestatic 155, 3) := by decide +kernel
theorem dX9_release_4 : decode cX9_release 4 = .ok (.ifCond .ne 5, 3) := by decide +kernel
theorem dX9_release_7 : decode cX9_release 7 = .ok (.iconst (-1), 1) := by decide +kernel
theorem dX9_release_8 : decode cX9_release 8 = .ok (.ireturn, 1) := by decide +kernel
theorem dX9_release_9 : decode cX9_release 9 = .ok (.aload_n 0, 1) := by decide +kernel
theorem dX9_release_10 : decode cX9_release 10 = .ok (.getfield 19, 3) := by decide +kernel
theorem dX9_release_13 : decode cX9_release 13 = .ok (.getfield 87, 3) := by decide +kernel
theorem dX9_release_16 : decode cX9_release 16 = .ok (.iload_n 1, 1) := by decide +kernel
theorem dX9_release_17 : decode cX9_release 17 = .ok (.invokevirtual 158, 3) := by decide +kernel
theorem dX9_release_20 : decode cX9_release 20 = .ok (.ifCond .eq 17, 3) := by decide +kernel
theorem dX9_release_23 : decode cX9_release 23 = .ok (.aload_n 0, 1) := by decide +kernel
theorem dX9_release_24 : decode cX9_release 24 = .ok (.getfield 19, 3) := by decide +kernel
theorem dX9_release_27 : decode cX9_release 27 = .ok (.getfield 169, 3) := by decide +kernel
theorem dX9_release_30 : decode cX9_release 30 = .ok (.iload_n 1, 1) := by decide +kernel
theorem dX9_release_31 : decode cX9_release 31 = .ok (.invokevirtual 173, 3) := by decide +kernel
theorem dX9_release_34 : decode cX9_release 34 = .ok (.ifCond .le 6, 3) := by decide +kernel
theorem dX9_release_37 : decode cX9_release 37 = .ok (.bipush (-2), 2) := by decide +kernel
theorem dX9_release_39 : decode cX9_release 39 = .ok (.ireturn, 1) := by decide +kernel
theorem dX9_release_40 : decode cX9_release 40 = .ok (.aload_n 0, 1) := by decide +kernel
theorem dX9_release_41 : decode cX9_release 41 = .ok (.getfield 29, 3) := by decide +kernel
theorem dX9_release_44 : decode cX9_release 44 = .ok (.aload_n 0, 1) := by decide +kernel
theorem dX9_release_45 : decode cX9_release 45 = .ok (.getfield 19, 3) := by decide +kernel
theorem dX9_release_48 : decode cX9_release 48 = .ok (.invokevirtual 99, 3) := by decide +kernel
theorem dX9_release_51 : decode cX9_release 51 = .ok (.aload_n 0, 1) := by decide +kernel
theorem dX9_release_52 : decode cX9_release 52 = .ok (.getfield 19, 3) := by decide +kernel
theorem dX9_release_55 : decode cX9_release 55 = .ok (.getfield 87, 3) := by decide +kernel
theorem dX9_release_58 : decode cX9_release 58 = .ok (.iload_n 1, 1) := by decide +kernel
theorem dX9_release_59 : decode cX9_release 59 = .ok (.invokevirtual 178, 3) := by decide +kernel
theorem dX9_release_62 : decode cX9_release 62 = .ok (.aload_n 0, 1) := by decide +kernel
theorem dX9_release_63 : decode cX9_release 63 = .ok (.getfield 19, 3) := by decide +kernel
theorem dX9_release_66 : decode cX9_release 66 = .ok (.getfield 87, 3) := by decide +kernel
theorem dX9_release_69 : decode cX9_release 69 = .ok (.iload_n 1, 1) := by decide +kernel
theorem dX9_release_70 : decode cX9_release 70 = .ok (.invokevirtual 181, 3) := by decide +kernel
theorem dX9_release_73 : decode cX9_release 73 = .ok (.aload_n 0, 1) := by decide +kernel
theorem dX9_release_74 : decode cX9_release 74 = .ok (.getfield 19, 3) := by decide +kernel
theorem dX9_release_77 : decode cX9_release 77 = .ok (.getfield 169, 3) := by decide +kernel
theorem dX9_release_80 : decode cX9_release 80 = .ok (.iload_n 1, 1) := by decide +kernel
theorem dX9_release_81 : decode cX9_release 81 = .ok (.invokevirtual 184, 3) := by decide +kernel
theorem dX9_release_84 : decode cX9_release 84 = .ok (.ireturn, 1) := by decide +kernel
theorem dX9_resize_0 : decode cX9_resize 0 = .ok (.iload_n 1, 1) := by decide +kernel
theorem dX9_resize_1 : decode cX9_resize 1 = .ok (.invokestatic 155, 3) := by decide +kernel
theorem dX9_resize_4 : decode cX9_resize 4 = .ok (.ifCond .eq 13, 3) := by decide +kernel
theorem dX9_resize_7 : decode cX9_resize 7 = .ok (.iload_n 2, 1) := by decide +kernel
theorem dX9_resize_8 : decode cX9_resize 8 = .ok (.iconst 5, 1) := by decide +kernel
theorem dX9_resize_9 : decode cX9_resize 9 = .ok (.bipush 16, 2) := by decide +kernel
theorem dX9_resize_11 : decode cX9_resize 11 = .ok (.invokestatic 63, 3) := by decide +kernel
theorem dX9_resize_14 : decode cX9_resize 14 = .ok (.ifCond .ne 5, 3) := by decide +kernel
theorem dX9_resize_17 : decode cX9_resize 17 = .ok (.iconst (-1), 1) := by decide +kernel
theorem dX9_resize_18 : decode cX9_resize 18 = .ok (.ireturn, 1) := by decide +kernel
theorem dX9_resize_19 : decode cX9_resize 19 = .ok (.aload_n 0, 1) := by decide +kernel
theorem dX9_resize_20 : decode cX9_resize 20 = .ok (.getfield 19, 3) := by decide +kernel
theorem dX9_resize_23 : decode cX9_resize 23 = .ok (.getfield 87, 3) := by decide +kernel
theorem dX9_resize_26 : decode cX9_resize 26 = .ok (.iload_n 1, 1) := by decide +kernel
theorem dX9_resize_27 : decode cX9_resize 27 = .ok (.invokevirtual 158, 3) := by decide +kernel
theorem dX9_resize_30 : decode cX9_resize 30 = .ok (.ifCond .eq 19, 3) := by decide +kernel
theorem dX9_resize_33 : decode cX9_resize 33 = .ok (.aload_n 0, 1) := by decide +kernel
theorem dX9_resize_34 : decode cX9_resize 34 = .ok (.getfield 19, 3) := by decide +kernel
theorem dX9_resize_37 : decode cX9_resize 37 = .ok (.getfield 87, 3) := by decide +kernel
theorem dX9_resize_40 : decode cX9_resize 40 = .ok (.getfield 187, 3) := by decide +kernel
theorem dX9_resize_43 : decode cX9_resize 43 = .ok (.iload_n 1, 1) := by decide +kernel
theorem dX9_resize_44 : decode cX9_resize 44 = .ok (.iaload, 1) := by decide +kernel
theorem dX9_resize_45 : decode cX9_resize 45 = .ok (.iload_n 2, 1) := by decide +kernel
theorem dX9_resize_46 : decode cX9_resize 46 = .ok (.if_icmp .ne 6, 3) := by decide +kernel
theorem dX9_resize_49 : decode cX9_resize 49 = .ok (.bipush (-2), 2) := by decide +kernel
theorem dX9_resize_51 : decode cX9_resize 51 = .ok (.ireturn, 1) := by decide +kernel
theorem dX9_resize_52 : decode cX9_resize 52 = .ok (.aload_n 0, 1) := by decide +kernel
theorem dX9_resize_53 : decode cX9_resize 53 = .ok (.getfield 19, 3) := by decide +kernel
theorem dX9_resize_56 : decode cX9_resize 56 = .ok (.getfield 87, 3) := by decide +kernel
theorem dX9_resize_59 : decode cX9_resize 59 = .ok (.getfield 190, 3) := by decide +kernel
theorem dX9_resize_62 : decode cX9_resize 62 = .ok (.iload_n 1, 1) := by decide +kernel
theorem dX9_resize_63 : decode cX9_resize 63 = .ok (.iaload, 1) := by decide +kernel
theorem dX9_resize_64 : decode cX9_resize 64 = .ok (.istore_n 3, 1) := by decide +kernel
theorem dX9_resize_65 : decode cX9_resize 65 = .ok (.iload_n 3, 1) := by decide +kernel
theorem dX9_resize_66 : decode cX9_resize 66 = .ok (.iload_n 2, 1) := by decide +kernel
theorem dX9_resize_67 : decode cX9_resize 67 = .ok (.invokestatic 129, 3) := by decide +kernel
theorem dX9_resize_70 : decode cX9_resize 70 = .ok (.ineg, 1) := by decide +kernel
theorem dX9_resize_71 : decode cX9_resize 71 = .ok (.iand, 1) := by decide +kernel
theorem dX9_resize_72 : decode cX9_resize 72 = .ok (.istore 4, 2) := by decide +kernel
theorem dX9_resize_74 : decode cX9_resize 74 = .ok (.iload_n 2, 1) := by decide +kernel
theorem dX9_resize_75 : decode cX9_resize 75 = .ok (.aload_n 0, 1) := by decide +kernel
theorem dX9_resize_76 : decode cX9_resize 76 = .ok (.getfield 19, 3) := by decide +kernel
theorem dX9_resize_79 : decode cX9_resize 79 = .ok (.getfield 87, 3) := by decide +kernel
theorem dX9_resize_82 : decode cX9_resize 82 = .ok (.getfield 187, 3) := by decide +kernel
theorem dX9_resize_85 : decode cX9_resize 85 = .ok (.iload_n 1, 1) := by decide +kernel
theorem dX9_resize_86 : decode cX9_resize 86 = .ok (.iaload, 1) := by decide +kernel
theorem dX9_resize_87 : decode cX9_resize 87 = .ok (.if_icmp .ge 7, 3) := by decide +kernel
theorem dX9_resize_90 : decode cX9_resize 90 = .ok (.iconst 1, 1) := by decide +kernel
theorem dX9_resize_91 : decode cX9_resize 91 = .ok (.goto 4, 3) := by decide +kernel
theorem dX9_resize_94 : decode cX9_resize 94 = .ok (.iconst 0, 1) := by decide +kernel
theorem dX9_resize_95 : decode cX9_resize 95 = .ok (.istore 5, 2) := by decide +kernel
theorem dX9_resize_97 : decode cX9_resize 97 = .ok (.iload 5, 2) := by decide +kernel
theorem dX9_resize_99 : decode cX9_resize 99 = .ok (.ifCond .eq 23, 3) := by decide +kernel
theorem dX9_resize_102 : decode cX9_resize 102 = .ok (.aload_n 0, 1) := by decide +kernel
theorem dX9_resize_103 : decode cX9_resize 103 = .ok (.getfield 19, 3) := by decide +kernel
theorem dX9_resize_106 : decode cX9_resize 106 = .ok (.getfield 87, 3) := by decide +kernel
theorem dX9_resize_109 : decode cX9_resize 109 = .ok (.iload_n 1, 1) := by decide +kernel
theorem dX9_resize_110 : decode cX9_resize 110 = .ok (.iload 4, 2) := by decide +kernel
theorem dX9_resize_112 : decode cX9_resize 112 = .ok (.iload_n 2, 1) := by decide +kernel
theorem dX9_resize_113 : decode cX9_resize 113 = .ok (.invokevirtual 193, 3) := by decide +kernel
theorem dX9_resize_116 : decode cX9_resize 116 = .ok (.ifCond .ne 6, 3) := by decide +kernel
theorem dX9_resize_119 : decode cX9_resize 119 = .ok (.bipush (-2), 2) := by decide +kernel
theorem dX9_resize_121 : decode cX9_resize 121 = .ok (.ireturn, 1) := by decide +kernel
theorem dX9_resize_122 : decode cX9_resize 122 = .ok (.aload_n 0, 1) := by decide +kernel
theorem dX9_resize_123 : decode cX9_resize 123 = .ok (.getfield 19, 3) := by decide +kernel
theorem dX9_resize_126 : decode cX9_resize 126 = .ok (.getfield 169, 3) := by decide +kernel
theorem dX9_resize_129 : decode cX9_resize 129 = .ok (.iload_n 1, 1) := by decide +kernel
theorem dX9_resize_130 : decode cX9_resize 130 = .ok (.iload 4, 2) := by decide +kernel
theorem dX9_resize_132 : decode cX9_resize 132 = .ok (.iload_n 2, 1) := by decide +kernel
theorem dX9_resize_133 : decode cX9_resize 133 = .ok (.invokevirtual 196, 3) := by decide +kernel
theorem dX9_resize_136 : decode cX9_resize 136 = .ok (.ifCond .ne 6, 3) := by decide +kernel
theorem dX9_resize_139 : decode cX9_resize 139 = .ok (.bipush (-2), 2) := by decide +kernel
theorem dX9_resize_141 : decode cX9_resize 141 = .ok (.ireturn, 1) := by decide +kernel
theorem dX9_resize_142 : decode cX9_resize 142 = .ok (.aload_n 0, 1) := by decide +kernel
theorem dX9_resize_143 : decode cX9_resize 143 = .ok (.getfield 29, 3) := by decide +kernel
theorem dX9_resize_146 : decode cX9_resize 146 = .ok (.aload_n 0, 1) := by decide +kernel
theorem dX9_resize_147 : decode cX9_resize 147 = .ok (.getfield 19, 3) := by decide +kernel
theorem dX9_resize_150 : decode cX9_resize 150 = .ok (.invokevirtual 99, 3) := by decide +kernel
theorem dX9_resize_153 : decode cX9_resize 153 = .ok (.aload_n 0, 1) := by decide +kernel
theorem dX9_resize_154 : decode cX9_resize 154 = .ok (.getfield 19, 3) := by decide +kernel
theorem dX9_resize_157 : decode cX9_resize 157 = .ok (.getfield 87, 3) := by decide +kernel
theorem dX9_resize_160 : decode cX9_resize 160 = .ok (.iload_n 1, 1) := by decide +kernel
theorem dX9_resize_161 : decode cX9_resize 161 = .ok (.iload 4, 2) := by decide +kernel
theorem dX9_resize_163 : decode cX9_resize 163 = .ok (.iload_n 2, 1) := by decide +kernel
theorem dX9_resize_164 : decode cX9_resize 164 = .ok (.invokevirtual 165, 3) := by decide +kernel
theorem dX9_resize_167 : decode cX9_resize 167 = .ok (.iload 4, 2) := by decide +kernel
theorem dX9_resize_169 : decode cX9_resize 169 = .ok (.ireturn, 1) := by decide +kernel
theorem dX9_renumber_0 : decode cX9_renumber 0 = .ok (.iload_n 1, 1) := by decide +kernel
theorem dX9_renumber_1 : decode cX9_renumber 1 = .ok (.invokestatic 155, 3) := by decide +kernel
theorem dX9_renumber_4 : decode cX9_renumber 4 = .ok (.ifCond .eq 13, 3) := by decide +kernel
theorem dX9_renumber_7 : decode cX9_renumber 7 = .ok (.iload_n 2, 1) := by decide +kernel
theorem dX9_renumber_8 : decode cX9_renumber 8 = .ok (.iconst 5, 1) := by decide +kernel
theorem dX9_renumber_9 : decode cX9_renumber 9 = .ok (.bipush 16, 2) := by decide +kernel
theorem dX9_renumber_11 : decode cX9_renumber 11 = .ok (.invokestatic 63, 3) := by decide +kernel
theorem dX9_renumber_14 : decode cX9_renumber 14 = .ok (.ifCond .ne 5, 3) := by decide +kernel
theorem dX9_renumber_17 : decode cX9_renumber 17 = .ok (.iconst (-1), 1) := by decide +kernel
theorem dX9_renumber_18 : decode cX9_renumber 18 = .ok (.ireturn, 1) := by decide +kernel
theorem dX9_renumber_19 : decode cX9_renumber 19 = .ok (.aload_n 0, 1) := by decide +kernel
theorem dX9_renumber_20 : decode cX9_renumber 20 = .ok (.getfield 19, 3) := by decide +kernel
theorem dX9_renumber_23 : decode cX9_renumber 23 = .ok (.getfield 87, 3) := by decide +kernel
theorem dX9_renumber_26 : decode cX9_renumber 26 = .ok (.iload_n 1, 1) := by decide +kernel
theorem dX9_renumber_27 : decode cX9_renumber 27 = .ok (.invokevirtual 199, 3) := by decide +kernel
theorem dX9_renumber_30 : decode cX9_renumber 30 = .ok (.ifCond .ne 6, 3) := by decide +kernel
theorem dX9_renumber_33 : decode cX9_renumber 33 = .ok (.bipush (-2), 2) := by decide +kernel
theorem dX9_renumber_35 : decode cX9_renumber 35 = .ok (.ireturn, 1) := by decide +kernel
theorem dX9_renumber_36 : decode cX9_renumber 36 = .ok (.aload_n 0, 1) := by decide +kernel
theorem dX9_renumber_37 : decode cX9_renumber 37 = .ok (.getfield 36, 3) := by decide +kernel
theorem dX9_renumber_40 : decode cX9_renumber 40 = .ok (.aload_n 0, 1) := by decide +kernel
theorem dX9_renumber_41 : decode cX9_renumber 41 = .ok (.getfield 19, 3) := by decide +kernel
theorem dX9_renumber_44 : decode cX9_renumber 44 = .ok (.getfield 87, 3) := by decide +kernel
theorem dX9_renumber_47 : decode cX9_renumber 47 = .ok (.iload_n 2, 1) := by decide +kernel
theorem dX9_renumber_48 : decode cX9_renumber 48 = .ok (.invokevirtual 161, 3) := by decide +kernel
theorem dX9_renumber_51 : decode cX9_renumber 51 = .ok (.istore_n 3, 1) := by decide +kernel
theorem dX9_renumber_52 : decode cX9_renumber 52 = .ok (.iload_n 3, 1) := by decide +kernel
theorem dX9_renumber_53 : decode cX9_renumber 53 = .ok (.iconst (-1), 1) := by decide +kernel
theorem dX9_renumber_54 : decode cX9_renumber 54 = .ok (.if_icmp .ne 6, 3) := by decide +kernel
theorem dX9_renumber_57 : decode cX9_renumber 57 = .ok (.bipush (-3), 2) := by decide +kernel
theorem dX9_renumber_59 : decode cX9_renumber 59 = .ok (.ireturn, 1) := by decide +kernel
theorem dX9_renumber_60 : decode cX9_renumber 60 = .ok (.aload_n 0, 1) := by decide +kernel
theorem dX9_renumber_61 : decode cX9_renumber 61 = .ok (.getfield 29, 3) := by decide +kernel
theorem dX9_renumber_64 : decode cX9_renumber 64 = .ok (.aload_n 0, 1) := by decide +kernel
theorem dX9_renumber_65 : decode cX9_renumber 65 = .ok (.getfield 19, 3) := by decide +kernel
theorem dX9_renumber_68 : decode cX9_renumber 68 = .ok (.invokevirtual 99, 3) := by decide +kernel
theorem dX9_renumber_71 : decode cX9_renumber 71 = .ok (.aload_n 0, 1) := by decide +kernel
theorem dX9_renumber_72 : decode cX9_renumber 72 = .ok (.getfield 19, 3) := by decide +kernel
theorem dX9_renumber_75 : decode cX9_renumber 75 = .ok (.iload_n 1, 1) := by decide +kernel
theorem dX9_renumber_76 : decode cX9_renumber 76 = .ok (.iload_n 3, 1) := by decide +kernel
theorem dX9_renumber_77 : decode cX9_renumber 77 = .ok (.iload_n 2, 1) := by decide +kernel
theorem dX9_renumber_78 : decode cX9_renumber 78 = .ok (.invokevirtual 202, 3) := by decide +kernel
theorem dX9_renumber_81 : decode cX9_renumber 81 = .ok (.iload_n 3, 1) := by decide +kernel
theorem dX9_renumber_82 : decode cX9_renumber 82 = .ok (.ireturn, 1) := by decide +kernel
theorem dX9_wave_0 : decode cX9_wave 0 = .ok (.iload_n 1, 1) := by decide +kernel
theorem dX9_wave_1 : decode cX9_wave 1 = .ok (.iconst 1, 1) := by decide +kernel
theorem dX9_wave_2 : decode cX9_wave 2 = .ok (.bipush 12, 2) := by decide +kernel
theorem dX9_wave_4 : decode cX9_wave 4 = .ok (.invokestatic 63, 3) := by decide +kernel
theorem dX9_wave_7 : decode cX9_wave 7 = .ok (.ifCond .ne 5, 3) := by decide +kernel
theorem dX9_wave_10 : decode cX9_wave 10 = .ok (.iconst (-1), 1) := by decide +kernel
theorem dX9_wave_11 : decode cX9_wave 11 = .ok (.ireturn, 1) := by decide +kernel
theorem dX9_wave_12 : decode cX9_wave 12 = .ok (.aload_n 0, 1) := by decide +kernel
theorem dX9_wave_13 : decode cX9_wave 13 = .ok (.getfield 23, 3) := by decide +kernel
theorem dX9_wave_16 : decode cX9_wave 16 = .ok (.aload_n 0, 1) := by decide +kernel
theorem dX9_wave_17 : decode cX9_wave 17 = .ok (.getfield 19, 3) := by decide +kernel
theorem dX9_wave_20 : decode cX9_wave 20 = .ok (.invokevirtual 205, 3) := by decide +kernel
theorem dX9_wave_23 : decode cX9_wave 23 = .ok (.iconst 0, 1) := by decide +kernel
theorem dX9_wave_24 : decode cX9_wave 24 = .ok (.istore_n 2, 1) := by decide +kernel
theorem dX9_wave_25 : decode cX9_wave 25 = .ok (.ldc 208, 2) := by decide +kernel
theorem dX9_wave_27 : decode cX9_wave 27 = .ok (.istore_n 3, 1) := by decide +kernel
theorem dX9_wave_28 : decode cX9_wave 28 = .ok (.iconst 0, 1) := by decide +kernel
theorem dX9_wave_29 : decode cX9_wave 29 = .ok (.istore 4, 2) := by decide +kernel
theorem dX9_wave_31 : decode cX9_wave 31 = .ok (.iload 4, 2) := by decide +kernel
theorem dX9_wave_33 : decode cX9_wave 33 = .ok (.bipush 12, 2) := by decide +kernel
theorem dX9_wave_35 : decode cX9_wave 35 = .ok (.if_icmp .ge 113, 3) := by decide +kernel
theorem dX9_wave_38 : decode cX9_wave 38 = .ok (.iload_n 2, 1) := by decide +kernel
theorem dX9_wave_39 : decode cX9_wave 39 = .ok (.iload_n 1, 1) := by decide +kernel
theorem dX9_wave_40 : decode cX9_wave 40 = .ok (.if_icmp .ge 108, 3) := by decide +kernel
theorem dX9_wave_43 : decode cX9_wave 43 = .ok (.aload_n 0, 1) := by decide +kernel
theorem dX9_wave_44 : decode cX9_wave 44 = .ok (.getfield 19, 3) := by decide +kernel
theorem dX9_wave_47 : decode cX9_wave 47 = .ok (.getfield 87, 3) := by decide +kernel
theorem dX9_wave_50 : decode cX9_wave 50 = .ok (.iload_n 3, 1) := by decide +kernel
theorem dX9_wave_51 : decode cX9_wave 51 = .ok (.invokevirtual 209, 3) := by decide +kernel
theorem dX9_wave_54 : decode cX9_wave 54 = .ok (.istore 5, 2) := by decide +kernel
theorem dX9_wave_56 : decode cX9_wave 56 = .ok (.iload 5, 2) := by decide +kernel
theorem dX9_wave_58 : decode cX9_wave 58 = .ok (.invokestatic 155, 3) := by decide +kernel
theorem dX9_wave_61 : decode cX9_wave 61 = .ok (.ifCond .ne 6, 3) := by decide +kernel
theorem dX9_wave_64 : decode cX9_wave 64 = .ok (.goto 84, 3) := by decide +kernel
theorem dX9_wave_67 : decode cX9_wave 67 = .ok (.aload_n 0, 1) := by decide +kernel
theorem dX9_wave_68 : decode cX9_wave 68 = .ok (.getfield 19, 3) := by decide +kernel
theorem dX9_wave_71 : decode cX9_wave 71 = .ok (.getfield 87, 3) := by decide +kernel
theorem dX9_wave_74 : decode cX9_wave 74 = .ok (.getfield 190, 3) := by decide +kernel
theorem dX9_wave_77 : decode cX9_wave 77 = .ok (.iload 5, 2) := by decide +kernel
theorem dX9_wave_79 : decode cX9_wave 79 = .ok (.iaload, 1) := by decide +kernel
theorem dX9_wave_80 : decode cX9_wave 80 = .ok (.istore_n 3, 1) := by decide +kernel
theorem dX9_wave_81 : decode cX9_wave 81 = .ok (.aload_n 0, 1) := by decide +kernel
theorem dX9_wave_82 : decode cX9_wave 82 = .ok (.getfield 19, 3) := by decide +kernel
theorem dX9_wave_85 : decode cX9_wave 85 = .ok (.getfield 87, 3) := by decide +kernel
theorem dX9_wave_88 : decode cX9_wave 88 = .ok (.getfield 187, 3) := by decide +kernel
theorem dX9_wave_91 : decode cX9_wave 91 = .ok (.iload 5, 2) := by decide +kernel
theorem dX9_wave_93 : decode cX9_wave 93 = .ok (.iaload, 1) := by decide +kernel
theorem dX9_wave_94 : decode cX9_wave 94 = .ok (.istore 6, 2) := by decide +kernel
theorem dX9_wave_96 : decode cX9_wave 96 = .ok (.aload_n 0, 1) := by decide +kernel
theorem dX9_wave_97 : decode cX9_wave 97 = .ok (.getfield 36, 3) := by decide +kernel
theorem dX9_wave_100 : decode cX9_wave 100 = .ok (.aload_n 0, 1) := by decide +kernel
theorem dX9_wave_101 : decode cX9_wave 101 = .ok (.getfield 23, 3) := by decide +kernel
theorem dX9_wave_104 : decode cX9_wave 104 = .ok (.getfield 87, 3) := by decide +kernel
theorem dX9_wave_107 : decode cX9_wave 107 = .ok (.iload 6, 2) := by decide +kernel
theorem dX9_wave_109 : decode cX9_wave 109 = .ok (.invokevirtual 161, 3) := by decide +kernel
theorem dX9_wave_112 : decode cX9_wave 112 = .ok (.istore 7, 2) := by decide +kernel
theorem dX9_wave_114 : decode cX9_wave 114 = .ok (.iload 7, 2) := by decide +kernel
theorem dX9_wave_116 : decode cX9_wave 116 = .ok (.iconst (-1), 1) := by decide +kernel
theorem dX9_wave_117 : decode cX9_wave 117 = .ok (.if_icmp .eq 25, 3) := by decide +kernel
theorem dX9_wave_120 : decode cX9_wave 120 = .ok (.iload 7, 2) := by decide +kernel
theorem dX9_wave_122 : decode cX9_wave 122 = .ok (.iload_n 3, 1) := by decide +kernel
theorem dX9_wave_123 : decode cX9_wave 123 = .ok (.if_icmp .ge 19, 3) := by decide +kernel
theorem dX9_wave_126 : decode cX9_wave 126 = .ok (.aload_n 0, 1) := by decide +kernel
theorem dX9_wave_127 : decode cX9_wave 127 = .ok (.getfield 23, 3) := by decide +kernel
theorem dX9_wave_130 : decode cX9_wave 130 = .ok (.iload 5, 2) := by decide +kernel
theorem dX9_wave_132 : decode cX9_wave 132 = .ok (.iload 7, 2) := by decide +kernel
theorem dX9_wave_134 : decode cX9_wave 134 = .ok (.iload 6, 2) := by decide +kernel
theorem dX9_wave_136 : decode cX9_wave 136 = .ok (.invokevirtual 202, 3) := by decide +kernel
theorem dX9_wave_139 : decode cX9_wave 139 = .ok (.iinc 2 1, 3) := by decide +kernel
theorem dX9_wave_142 : decode cX9_wave 142 = .ok (.iinc 4 1, 3) := by decide +kernel
theorem dX9_wave_145 : decode cX9_wave 145 = .ok (.goto (-114), 3) := by decide +kernel
theorem dX9_wave_148 : decode cX9_wave 148 = .ok (.iload_n 2, 1) := by decide +kernel
theorem dX9_wave_149 : decode cX9_wave 149 = .ok (.ifCond .ne 6, 3) := by decide +kernel
theorem dX9_wave_152 : decode cX9_wave 152 = .ok (.bipush (-2), 2) := by decide +kernel
theorem dX9_wave_154 : decode cX9_wave 154 = .ok (.ireturn, 1) := by decide +kernel
theorem dX9_wave_155 : decode cX9_wave 155 = .ok (.aload_n 0, 1) := by decide +kernel
theorem dX9_wave_156 : decode cX9_wave 156 = .ok (.invokevirtual 79, 3) := by decide +kernel
theorem dX9_wave_159 : decode cX9_wave 159 = .ok (.iload_n 2, 1) := by decide +kernel
theorem dX9_wave_160 : decode cX9_wave 160 = .ok (.ireturn, 1) := by decide +kernel
theorem dX9_network_0 : decode cX9_network 0 = .ok (.iload_n 1, 1) := by decide +kernel
theorem dX9_network_1 : decode cX9_network 1 = .ok (.invokestatic 155, 3) := by decide +kernel
theorem dX9_network_4 : decode cX9_network 4 = .ok (.ifCond .eq 12, 3) := by decide +kernel
theorem dX9_network_7 : decode cX9_network 7 = .ok (.iload_n 2, 1) := by decide +kernel
theorem dX9_network_8 : decode cX9_network 8 = .ok (.iconst 0, 1) := by decide +kernel
theorem dX9_network_9 : decode cX9_network 9 = .ok (.iconst 5, 1) := by decide +kernel
theorem dX9_network_10 : decode cX9_network 10 = .ok (.invokestatic 63, 3) := by decide +kernel
theorem dX9_network_13 : decode cX9_network 13 = .ok (.ifCond .ne 5, 3) := by decide +kernel
theorem dX9_network_16 : decode cX9_network 16 = .ok (.iconst (-1), 1) := by decide +kernel
theorem dX9_network_17 : decode cX9_network 17 = .ok (.ireturn, 1) := by decide +kernel
theorem dX9_network_18 : decode cX9_network 18 = .ok (.iload_n 2, 1) := by decide +kernel
theorem dX9_network_19 : decode cX9_network 19 = .ok (.iconst 5, 1) := by decide +kernel
theorem dX9_network_20 : decode cX9_network 20 = .ok (.if_icmp .ne 15, 3) := by decide +kernel
theorem dX9_network_23 : decode cX9_network 23 = .ok (.aload_n 0, 1) := by decide +kernel
theorem dX9_network_24 : decode cX9_network 24 = .ok (.getfield 19, 3) := by decide +kernel
theorem dX9_network_27 : decode cX9_network 27 = .ok (.getfield 169, 3) := by decide +kernel
theorem dX9_network_30 : decode cX9_network 30 = .ok (.iload_n 1, 1) := by decide +kernel
theorem dX9_network_31 : decode cX9_network 31 = .ok (.invokevirtual 212, 3) := by decide +kernel
theorem dX9_network_34 : decode cX9_network 34 = .ok (.ireturn, 1) := by decide +kernel
theorem dX9_network_35 : decode cX9_network 35 = .ok (.iload_n 2, 1) := by decide +kernel
theorem dX9_network_36 : decode cX9_network 36 = .ok (.iconst 2, 1) := by decide +kernel
theorem dX9_network_37 : decode cX9_network 37 = .ok (.if_icmp .ge 17, 3) := by decide +kernel
theorem dX9_network_40 : decode cX9_network 40 = .ok (.aload_n 0, 1) := by decide +kernel
theorem dX9_network_41 : decode cX9_network 41 = .ok (.getfield 19, 3) := by decide +kernel
theorem dX9_network_44 : decode cX9_network 44 = .ok (.getfield 87, 3) := by decide +kernel
theorem dX9_network_47 : decode cX9_network 47 = .ok (.iload_n 1, 1) := by decide +kernel
theorem dX9_network_48 : decode cX9_network 48 = .ok (.invokevirtual 158, 3) := by decide +kernel
theorem dX9_network_51 : decode cX9_network 51 = .ok (.goto 14, 3) := by decide +kernel
theorem dX9_network_54 : decode cX9_network 54 = .ok (.aload_n 0, 1) := by decide +kernel
theorem dX9_network_55 : decode cX9_network 55 = .ok (.getfield 19, 3) := by decide +kernel
theorem dX9_network_58 : decode cX9_network 58 = .ok (.getfield 87, 3) := by decide +kernel
theorem dX9_network_61 : decode cX9_network 61 = .ok (.iload_n 1, 1) := by decide +kernel
theorem dX9_network_62 : decode cX9_network 62 = .ok (.invokevirtual 215, 3) := by decide +kernel
theorem dX9_network_65 : decode cX9_network 65 = .ok (.istore_n 3, 1) := by decide +kernel
theorem dX9_network_66 : decode cX9_network 66 = .ok (.iload_n 3, 1) := by decide +kernel
theorem dX9_network_67 : decode cX9_network 67 = .ok (.ifCond .eq 18, 3) := by decide +kernel
theorem dX9_network_70 : decode cX9_network 70 = .ok (.aload_n 0, 1) := by decide +kernel
theorem dX9_network_71 : decode cX9_network 71 = .ok (.getfield 19, 3) := by decide +kernel
theorem dX9_network_74 : decode cX9_network 74 = .ok (.getfield 87, 3) := by decide +kernel
theorem dX9_network_77 : decode cX9_network 77 = .ok (.iload_n 1, 1) := by decide +kernel
theorem dX9_network_78 : decode cX9_network 78 = .ok (.iload_n 2, 1) := by decide +kernel
theorem dX9_network_79 : decode cX9_network 79 = .ok (.invokevirtual 218, 3) := by decide +kernel
theorem dX9_network_82 : decode cX9_network 82 = .ok (.goto 5, 3) := by decide +kernel
theorem dX9_network_85 : decode cX9_network 85 = .ok (.bipush (-9), 2) := by decide +kernel
theorem dX9_network_87 : decode cX9_network 87 = .ok (.ireturn, 1) := by decide +kernel
theorem dX9_owner_0 : decode cX9_owner 0 = .ok (.iload_n 1, 1) := by decide +kernel
theorem dX9_owner_1 : decode cX9_owner 1 = .ok (.iconst 0, 1) := by decide +kernel
theorem dX9_owner_2 : decode cX9_owner 2 = .ok (.ldc 82, 2) := by decide +kernel
theorem dX9_owner_4 : decode cX9_owner 4 = .ok (.invokestatic 63, 3) := by decide +kernel
theorem dX9_owner_7 : decode cX9_owner 7 = .ok (.ifCond .ne 5, 3) := by decide +kernel
theorem dX9_owner_10 : decode cX9_owner 10 = .ok (.iconst (-1), 1) := by decide +kernel
theorem dX9_owner_11 : decode cX9_owner 11 = .ok (.ireturn, 1) := by decide +kernel
theorem dX9_owner_12 : decode cX9_owner 12 = .ok (.aload_n 0, 1) := by decide +kernel
theorem dX9_owner_13 : decode cX9_owner 13 = .ok (.getfield 19, 3) := by decide +kernel
theorem dX9_owner_16 : decode cX9_owner 16 = .ok (.getfield 87, 3) := by decide +kernel
theorem dX9_owner_19 : decode cX9_owner 19 = .ok (.iload_n 1, 1) := by decide +kernel
theorem dX9_owner_20 : decode cX9_owner 20 = .ok (.invokevirtual 221, 3) := by decide +kernel
theorem dX9_owner_23 : decode cX9_owner 23 = .ok (.istore_n 2, 1) := by decide +kernel
theorem dX9_owner_24 : decode cX9_owner 24 = .ok (.iload_n 2, 1) := by decide +kernel
theorem dX9_owner_25 : decode cX9_owner 25 = .ok (.iconst (-1), 1) := by decide +kernel
theorem dX9_owner_26 : decode cX9_owner 26 = .ok (.if_icmp .ne 8, 3) := by decide +kernel
theorem dX9_owner_29 : decode cX9_owner 29 = .ok (.bipush (-9), 2) := by decide +kernel
theorem dX9_owner_31 : decode cX9_owner 31 = .ok (.goto 4, 3) := by decide +kernel
theorem dX9_owner_34 : decode cX9_owner 34 = .ok (.iload_n 2, 1) := by decide +kernel
theorem dX9_owner_35 : decode cX9_owner 35 = .ok (.ireturn, 1) := by decide +kernel
theorem dX9_addHost_0 : decode cX9_addHost 0 = .ok (.iload_n 1, 1) := by decide +kernel
theorem dX9_addHost_1 : decode cX9_addHost 1 = .ok (.invokestatic 224, 3) := by decide +kernel
theorem dX9_addHost_4 : decode cX9_addHost 4 = .ok (.ifCond .eq 19, 3) := by decide +kernel
theorem dX9_addHost_7 : decode cX9_addHost 7 = .ok (.iload_n 2, 1) := by decide +kernel
theorem dX9_addHost_8 : decode cX9_addHost 8 = .ok (.invokestatic 155, 3) := by decide +kernel
theorem dX9_addHost_11 : decode cX9_addHost 11 = .ok (.ifCond .eq 12, 3) := by decide +kernel
theorem dX9_addHost_14 : decode cX9_addHost 14 = .ok (.iload_n 3, 1) := by decide +kernel
theorem dX9_addHost_15 : decode cX9_addHost 15 = .ok (.iconst 0, 1) := by decide +kernel
theorem dX9_addHost_16 : decode cX9_addHost 16 = .ok (.iconst 1, 1) := by decide +kernel
theorem dX9_addHost_17 : decode cX9_addHost 17 = .ok (.invokestatic 63, 3) := by decide +kernel
theorem dX9_addHost_20 : decode cX9_addHost 20 = .ok (.ifCond .ne 5, 3) := by decide +kernel
theorem dX9_addHost_23 : decode cX9_addHost 23 = .ok (.iconst (-1), 1) := by decide +kernel
theorem dX9_addHost_24 : decode cX9_addHost 24 = .ok (.ireturn, 1) := by decide +kernel
theorem dX9_addHost_25 : decode cX9_addHost 25 = .ok (.aload_n 0, 1) := by decide +kernel
theorem dX9_addHost_26 : decode cX9_addHost 26 = .ok (.getfield 19, 3) := by decide +kernel
theorem dX9_addHost_29 : decode cX9_addHost 29 = .ok (.getfield 169, 3) := by decide +kernel
theorem dX9_addHost_32 : decode cX9_addHost 32 = .ok (.iload_n 1, 1) := by decide +kernel
theorem dX9_addHost_33 : decode cX9_addHost 33 = .ok (.invokevirtual 227, 3) := by decide +kernel
theorem dX9_addHost_36 : decode cX9_addHost 36 = .ok (.ifCond .ne 17, 3) := by decide +kernel
theorem dX9_addHost_39 : decode cX9_addHost 39 = .ok (.aload_n 0, 1) := by decide +kernel
theorem dX9_addHost_40 : decode cX9_addHost 40 = .ok (.getfield 19, 3) := by decide +kernel
theorem dX9_addHost_43 : decode cX9_addHost 43 = .ok (.getfield 87, 3) := by decide +kernel
theorem dX9_addHost_46 : decode cX9_addHost 46 = .ok (.iload_n 2, 1) := by decide +kernel
theorem dX9_addHost_47 : decode cX9_addHost 47 = .ok (.invokevirtual 158, 3) := by decide +kernel
theorem dX9_addHost_50 : decode cX9_addHost 50 = .ok (.ifCond .ne 6, 3) := by decide +kernel
theorem dX9_addHost_53 : decode cX9_addHost 53 = .ok (.bipush (-2), 2) := by decide +kernel
theorem dX9_addHost_55 : decode cX9_addHost 55 = .ok (.ireturn, 1) := by decide +kernel
theorem dX9_addHost_56 : decode cX9_addHost 56 = .ok (.aload_n 0, 1) := by decide +kernel
theorem dX9_addHost_57 : decode cX9_addHost 57 = .ok (.getfield 29, 3) := by decide +kernel
theorem dX9_addHost_60 : decode cX9_addHost 60 = .ok (.aload_n 0, 1) := by decide +kernel
theorem dX9_addHost_61 : decode cX9_addHost 61 = .ok (.getfield 19, 3) := by decide +kernel
theorem dX9_addHost_64 : decode cX9_addHost 64 = .ok (.invokevirtual 99, 3) := by decide +kernel
theorem dX9_addHost_67 : decode cX9_addHost 67 = .ok (.aload_n 0, 1) := by decide +kernel
theorem dX9_addHost_68 : decode cX9_addHost 68 = .ok (.getfield 19, 3) := by decide +kernel
theorem dX9_addHost_71 : decode cX9_addHost 71 = .ok (.getfield 169, 3) := by decide +kernel
theorem dX9_addHost_74 : decode cX9_addHost 74 = .ok (.iload_n 1, 1) := by decide +kernel
theorem dX9_addHost_75 : decode cX9_addHost 75 = .ok (.iload_n 2, 1) := by decide +kernel
theorem dX9_addHost_76 : decode cX9_addHost 76 = .ok (.iload_n 3, 1) := by decide +kernel
theorem dX9_addHost_77 : decode cX9_addHost 77 = .ok (.invokevirtual 230, 3) := by decide +kernel
theorem dX9_addHost_80 : decode cX9_addHost 80 = .ok (.aload_n 0, 1) := by decide +kernel
theorem dX9_addHost_81 : decode cX9_addHost 81 = .ok (.getfield 19, 3) := by decide +kernel
theorem dX9_addHost_84 : decode cX9_addHost 84 = .ok (.getfield 169, 3) := by decide +kernel
theorem dX9_addHost_87 : decode cX9_addHost 87 = .ok (.iload_n 2, 1) := by decide +kernel
theorem dX9_addHost_88 : decode cX9_addHost 88 = .ok (.invokevirtual 212, 3) := by decide +kernel
theorem dX9_addHost_91 : decode cX9_addHost 91 = .ok (.ireturn, 1) := by decide +kernel
theorem dX9_removeHost_0 : decode cX9_removeHost 0 = .ok (.iload_n 1, 1) := by decide +kernel
theorem dX9_removeHost_1 : decode cX9_removeHost 1 = .ok (.invokestatic 224, 3) := by decide +kernel
theorem dX9_removeHost_4 : decode cX9_removeHost 4 = .ok (.ifCond .ne 5, 3) := by decide +kernel
theorem dX9_removeHost_7 : decode cX9_removeHost 7 = .ok (.iconst (-1), 1) := by decide +kernel
theorem dX9_removeHost_8 : decode cX9_removeHost 8 = .ok (.ireturn, 1) := by decide +kernel
theorem dX9_removeHost_9 : decode cX9_removeHost 9 = .ok (.aload_n 0, 1) := by decide +kernel
theorem dX9_removeHost_10 : decode cX9_removeHost 10 = .ok (.getfield 19, 3) := by decide +kernel
theorem dX9_removeHost_13 : decode cX9_removeHost 13 = .ok (.getfield 169, 3) := by decide +kernel
theorem dX9_removeHost_16 : decode cX9_removeHost 16 = .ok (.iload_n 1, 1) := by decide +kernel
theorem dX9_removeHost_17 : decode cX9_removeHost 17 = .ok (.invokevirtual 227, 3) := by decide +kernel
theorem dX9_removeHost_20 : decode cX9_removeHost 20 = .ok (.ifCond .ne 6, 3) := by decide +kernel
theorem dX9_removeHost_23 : decode cX9_removeHost 23 = .ok (.bipush (-2), 2) := by decide +kernel
theorem dX9_removeHost_25 : decode cX9_removeHost 25 = .ok (.ireturn, 1) := by decide +kernel
theorem dX9_removeHost_26 : decode cX9_removeHost 26 = .ok (.aload_n 0, 1) := by decide +kernel
theorem dX9_removeHost_27 : decode cX9_removeHost 27 = .ok (.getfield 29, 3) := by decide +kernel
theorem dX9_removeHost_30 : decode cX9_removeHost 30 = .ok (.aload_n 0, 1) := by decide +kernel
theorem dX9_removeHost_31 : decode cX9_removeHost 31 = .ok (.getfield 19, 3) := by decide +kernel
theorem dX9_removeHost_34 : decode cX9_removeHost 34 = .ok (.invokevirtual 99, 3) := by decide +kernel
theorem dX9_removeHost_37 : decode cX9_removeHost 37 = .ok (.aload_n 0, 1) := by decide +kernel
theorem dX9_removeHost_38 : decode cX9_removeHost 38 = .ok (.getfield 19, 3) := by decide +kernel
theorem dX9_removeHost_41 : decode cX9_removeHost 41 = .ok (.getfield 169, 3) := by decide +kernel
theorem dX9_removeHost_44 : decode cX9_removeHost 44 = .ok (.iload_n 1, 1) := by decide +kernel
theorem dX9_removeHost_45 : decode cX9_removeHost 45 = .ok (.invokevirtual 233, 3) := by decide +kernel
theorem dX9_removeHost_48 : decode cX9_removeHost 48 = .ok (.istore_n 2, 1) := by decide +kernel
theorem dX9_removeHost_49 : decode cX9_removeHost 49 = .ok (.aload_n 0, 1) := by decide +kernel
theorem dX9_removeHost_50 : decode cX9_removeHost 50 = .ok (.getfield 19, 3) := by decide +kernel
theorem dX9_removeHost_53 : decode cX9_removeHost 53 = .ok (.getfield 169, 3) := by decide +kernel
theorem dX9_removeHost_56 : decode cX9_removeHost 56 = .ok (.iload_n 1, 1) := by decide +kernel
theorem dX9_removeHost_57 : decode cX9_removeHost 57 = .ok (.invokevirtual 236, 3) := by decide +kernel
theorem dX9_removeHost_60 : decode cX9_removeHost 60 = .ok (.iload_n 2, 1) := by decide +kernel
theorem dX9_removeHost_61 : decode cX9_removeHost 61 = .ok (.ireturn, 1) := by decide +kernel
theorem dX9_request_0 : decode cX9_request 0 = .ok (.iload_n 1, 1) := by decide +kernel
theorem dX9_request_1 : decode cX9_request 1 = .ok (.invokestatic 224, 3) := by decide +kernel
theorem dX9_request_4 : decode cX9_request 4 = .ok (.ifCond .ne 5, 3) := by decide +kernel
theorem dX9_request_7 : decode cX9_request 7 = .ok (.iconst (-1), 1) := by decide +kernel
theorem dX9_request_8 : decode cX9_request 8 = .ok (.ireturn, 1) := by decide +kernel
theorem dX9_request_9 : decode cX9_request 9 = .ok (.aload_n 0, 1) := by decide +kernel
theorem dX9_request_10 : decode cX9_request 10 = .ok (.getfield 19, 3) := by decide +kernel
theorem dX9_request_13 : decode cX9_request 13 = .ok (.getfield 169, 3) := by decide +kernel
theorem dX9_request_16 : decode cX9_request 16 = .ok (.iload_n 1, 1) := by decide +kernel
theorem dX9_request_17 : decode cX9_request 17 = .ok (.invokevirtual 227, 3) := by decide +kernel
theorem dX9_request_20 : decode cX9_request 20 = .ok (.ifCond .ne 6, 3) := by decide +kernel
theorem dX9_request_23 : decode cX9_request 23 = .ok (.bipush (-2), 2) := by decide +kernel
theorem dX9_request_25 : decode cX9_request 25 = .ok (.ireturn, 1) := by decide +kernel
theorem dX9_request_26 : decode cX9_request 26 = .ok (.aload_n 0, 1) := by decide +kernel
theorem dX9_request_27 : decode cX9_request 27 = .ok (.getfield 19, 3) := by decide +kernel
theorem dX9_request_30 : decode cX9_request 30 = .ok (.iload_n 1, 1) := by decide +kernel
theorem dX9_request_31 : decode cX9_request 31 = .ok (.invokevirtual 239, 3) := by decide +kernel
theorem dX9_request_34 : decode cX9_request 34 = .ok (.istore_n 2, 1) := by decide +kernel
theorem dX9_request_35 : decode cX9_request 35 = .ok (.iload_n 2, 1) := by decide +kernel
theorem dX9_request_36 : decode cX9_request 36 = .ok (.iconst (-1), 1) := by decide +kernel
theorem dX9_request_37 : decode cX9_request 37 = .ok (.if_icmp .ne 6, 3) := by decide +kernel
theorem dX9_request_40 : decode cX9_request 40 = .ok (.bipush (-3), 2) := by decide +kernel
theorem dX9_request_42 : decode cX9_request 42 = .ok (.ireturn, 1) := by decide +kernel
theorem dX9_request_43 : decode cX9_request 43 = .ok (.aload_n 0, 1) := by decide +kernel
theorem dX9_request_44 : decode cX9_request 44 = .ok (.getfield 29, 3) := by decide +kernel
theorem dX9_request_47 : decode cX9_request 47 = .ok (.aload_n 0, 1) := by decide +kernel
theorem dX9_request_48 : decode cX9_request 48 = .ok (.getfield 19, 3) := by decide +kernel
theorem dX9_request_51 : decode cX9_request 51 = .ok (.invokevirtual 99, 3) := by decide +kernel
theorem dX9_request_54 : decode cX9_request 54 = .ok (.aload_n 0, 1) := by decide +kernel
theorem dX9_request_55 : decode cX9_request 55 = .ok (.getfield 19, 3) := by decide +kernel
theorem dX9_request_58 : decode cX9_request 58 = .ok (.iload_n 1, 1) := by decide +kernel
theorem dX9_request_59 : decode cX9_request 59 = .ok (.iload_n 2, 1) := by decide +kernel
theorem dX9_request_60 : decode cX9_request 60 = .ok (.invokevirtual 242, 3) := by decide +kernel
theorem dX9_request_63 : decode cX9_request 63 = .ok (.iload_n 2, 1) := by decide +kernel
theorem dX9_request_64 : decode cX9_request 64 = .ok (.ireturn, 1) := by decide +kernel
theorem dX9_host_0 : decode cX9_host 0 = .ok (.iload_n 1, 1) := by decide +kernel
theorem dX9_host_1 : decode cX9_host 1 = .ok (.invokestatic 224, 3) := by decide +kernel
theorem dX9_host_4 : decode cX9_host 4 = .ok (.ifCond .eq 12, 3) := by decide +kernel
theorem dX9_host_7 : decode cX9_host 7 = .ok (.iload_n 2, 1) := by decide +kernel
theorem dX9_host_8 : decode cX9_host 8 = .ok (.iconst 0, 1) := by decide +kernel
theorem dX9_host_9 : decode cX9_host 9 = .ok (.iconst 5, 1) := by decide +kernel
theorem dX9_host_10 : decode cX9_host 10 = .ok (.invokestatic 63, 3) := by decide +kernel
theorem dX9_host_13 : decode cX9_host 13 = .ok (.ifCond .ne 5, 3) := by decide +kernel
theorem dX9_host_16 : decode cX9_host 16 = .ok (.iconst (-1), 1) := by decide +kernel
theorem dX9_host_17 : decode cX9_host 17 = .ok (.ireturn, 1) := by decide +kernel
theorem dX9_host_18 : decode cX9_host 18 = .ok (.aload_n 0, 1) := by decide +kernel
theorem dX9_host_19 : decode cX9_host 19 = .ok (.getfield 19, 3) := by decide +kernel
theorem dX9_host_22 : decode cX9_host 22 = .ok (.getfield 169, 3) := by decide +kernel
theorem dX9_host_25 : decode cX9_host 25 = .ok (.iload_n 1, 1) := by decide +kernel
theorem dX9_host_26 : decode cX9_host 26 = .ok (.invokevirtual 227, 3) := by decide +kernel
theorem dX9_host_29 : decode cX9_host 29 = .ok (.ifCond .ne 6, 3) := by decide +kernel
theorem dX9_host_32 : decode cX9_host 32 = .ok (.bipush (-9), 2) := by decide +kernel
theorem dX9_host_34 : decode cX9_host 34 = .ok (.ireturn, 1) := by decide +kernel
theorem dX9_host_35 : decode cX9_host 35 = .ok (.aload_n 0, 1) := by decide +kernel
theorem dX9_host_36 : decode cX9_host 36 = .ok (.getfield 19, 3) := by decide +kernel
theorem dX9_host_39 : decode cX9_host 39 = .ok (.getfield 169, 3) := by decide +kernel
theorem dX9_host_42 : decode cX9_host 42 = .ok (.iload_n 1, 1) := by decide +kernel
theorem dX9_host_43 : decode cX9_host 43 = .ok (.iload_n 2, 1) := by decide +kernel
theorem dX9_host_44 : decode cX9_host 44 = .ok (.invokevirtual 245, 3) := by decide +kernel
theorem dX9_host_47 : decode cX9_host 47 = .ok (.istore_n 3, 1) := by decide +kernel
theorem dX9_host_48 : decode cX9_host 48 = .ok (.iload_n 3, 1) := by decide +kernel
theorem dX9_host_49 : decode cX9_host 49 = .ok (.iconst (-1), 1) := by decide +kernel
theorem dX9_host_50 : decode cX9_host 50 = .ok (.if_icmp .ne 8, 3) := by decide +kernel
theorem dX9_host_53 : decode cX9_host 53 = .ok (.bipush (-9), 2) := by decide +kernel
theorem dX9_host_55 : decode cX9_host 55 = .ok (.goto 4, 3) := by decide +kernel
theorem dX9_host_58 : decode cX9_host 58 = .ok (.iload_n 3, 1) := by decide +kernel
theorem dX9_host_59 : decode cX9_host 59 = .ok (.ireturn, 1) := by decide +kernel
theorem dX9_leaseOf_0 : decode cX9_leaseOf 0 = .ok (.iload_n 1, 1) := by decide +kernel
theorem dX9_leaseOf_1 : decode cX9_leaseOf 1 = .ok (.iconst 0, 1) := by decide +kernel
theorem dX9_leaseOf_2 : decode cX9_leaseOf 2 = .ok (.ldc 82, 2) := by decide +kernel
theorem dX9_leaseOf_4 : decode cX9_leaseOf 4 = .ok (.invokestatic 63, 3) := by decide +kernel
theorem dX9_leaseOf_7 : decode cX9_leaseOf 7 = .ok (.ifCond .ne 5, 3) := by decide +kernel
theorem dX9_leaseOf_10 : decode cX9_leaseOf 10 = .ok (.iconst (-1), 1) := by decide +kernel
theorem dX9_leaseOf_11 : decode cX9_leaseOf 11 = .ok (.ireturn, 1) := by decide +kernel
theorem dX9_leaseOf_12 : decode cX9_leaseOf 12 = .ok (.aload_n 0, 1) := by decide +kernel
theorem dX9_leaseOf_13 : decode cX9_leaseOf 13 = .ok (.getfield 19, 3) := by decide +kernel
theorem dX9_leaseOf_16 : decode cX9_leaseOf 16 = .ok (.getfield 169, 3) := by decide +kernel
theorem dX9_leaseOf_19 : decode cX9_leaseOf 19 = .ok (.iload_n 1, 1) := by decide +kernel
theorem dX9_leaseOf_20 : decode cX9_leaseOf 20 = .ok (.invokevirtual 246, 3) := by decide +kernel
theorem dX9_leaseOf_23 : decode cX9_leaseOf 23 = .ok (.istore_n 2, 1) := by decide +kernel
theorem dX9_leaseOf_24 : decode cX9_leaseOf 24 = .ok (.iload_n 2, 1) := by decide +kernel
theorem dX9_leaseOf_25 : decode cX9_leaseOf 25 = .ok (.iconst (-1), 1) := by decide +kernel
theorem dX9_leaseOf_26 : decode cX9_leaseOf 26 = .ok (.if_icmp .ne 8, 3) := by decide +kernel
theorem dX9_leaseOf_29 : decode cX9_leaseOf 29 = .ok (.bipush (-9), 2) := by decide +kernel
theorem dX9_leaseOf_31 : decode cX9_leaseOf 31 = .ok (.goto 4, 3) := by decide +kernel
theorem dX9_leaseOf_34 : decode cX9_leaseOf 34 = .ok (.iload_n 2, 1) := by decide +kernel
theorem dX9_leaseOf_35 : decode cX9_leaseOf 35 = .ok (.ireturn, 1) := by decide +kernel
theorem dX9_pass_0 : decode cX9_pass 0 = .ok (.iload_n 1, 1) := by decide +kernel
theorem dX9_pass_1 : decode cX9_pass 1 = .ok (.iconst 1, 1) := by decide +kernel
theorem dX9_pass_2 : decode cX9_pass 2 = .ok (.sipush 1000, 3) := by decide +kernel
theorem dX9_pass_5 : decode cX9_pass 5 = .ok (.invokestatic 63, 3) := by decide +kernel
theorem dX9_pass_8 : decode cX9_pass 8 = .ok (.ifCond .ne 5, 3) := by decide +kernel
theorem dX9_pass_11 : decode cX9_pass 11 = .ok (.iconst (-1), 1) := by decide +kernel
theorem dX9_pass_12 : decode cX9_pass 12 = .ok (.ireturn, 1) := by decide +kernel
theorem dX9_pass_13 : decode cX9_pass 13 = .ok (.aload_n 0, 1) := by decide +kernel
theorem dX9_pass_14 : decode cX9_pass 14 = .ok (.getfield 19, 3) := by decide +kernel
theorem dX9_pass_17 : decode cX9_pass 17 = .ok (.getfield 249, 3) := by decide +kernel
theorem dX9_pass_20 : decode cX9_pass 20 = .ok (.iload_n 1, 1) := by decide +kernel
theorem dX9_pass_21 : decode cX9_pass 21 = .ok (.iadd, 1) := by decide +kernel
theorem dX9_pass_22 : decode cX9_pass 22 = .ok (.sipush 9999, 3) := by decide +kernel
theorem dX9_pass_25 : decode cX9_pass 25 = .ok (.if_icmp .le 6, 3) := by decide +kernel
theorem dX9_pass_28 : decode cX9_pass 28 = .ok (.bipush (-3), 2) := by decide +kernel
theorem dX9_pass_30 : decode cX9_pass 30 = .ok (.ireturn, 1) := by decide +kernel
theorem dX9_pass_31 : decode cX9_pass 31 = .ok (.aload_n 0, 1) := by decide +kernel
theorem dX9_pass_32 : decode cX9_pass 32 = .ok (.getfield 29, 3) := by decide +kernel
theorem dX9_pass_35 : decode cX9_pass 35 = .ok (.aload_n 0, 1) := by decide +kernel
theorem dX9_pass_36 : decode cX9_pass 36 = .ok (.getfield 19, 3) := by decide +kernel
theorem dX9_pass_39 : decode cX9_pass 39 = .ok (.invokevirtual 99, 3) := by decide +kernel
theorem dX9_pass_42 : decode cX9_pass 42 = .ok (.aload_n 0, 1) := by decide +kernel
theorem dX9_pass_43 : decode cX9_pass 43 = .ok (.getfield 19, 3) := by decide +kernel
theorem dX9_pass_46 : decode cX9_pass 46 = .ok (.iload_n 1, 1) := by decide +kernel
theorem dX9_pass_47 : decode cX9_pass 47 = .ok (.invokevirtual 252, 3) := by decide +kernel
theorem dX9_pass_50 : decode cX9_pass 50 = .ok (.ireturn, 1) := by decide +kernel
theorem dX9_setTimes_0 : decode cX9_setTimes 0 = .ok (.iload_n 1, 1) := by decide +kernel
theorem dX9_setTimes_1 : decode cX9_setTimes 1 = .ok (.iconst 1, 1) := by decide +kernel
theorem dX9_setTimes_2 : decode cX9_setTimes 2 = .ok (.sipush 500, 3) := by decide +kernel
theorem dX9_setTimes_5 : decode cX9_setTimes 5 = .ok (.invokestatic 63, 3) := by decide +kernel
theorem dX9_setTimes_8 : decode cX9_setTimes 8 = .ok (.ifCond .eq 14, 3) := by decide +kernel
theorem dX9_setTimes_11 : decode cX9_setTimes 11 = .ok (.iload_n 2, 1) := by decide +kernel
theorem dX9_setTimes_12 : decode cX9_setTimes 12 = .ok (.iconst 0, 1) := by decide +kernel
theorem dX9_setTimes_13 : decode cX9_setTimes 13 = .ok (.sipush 500, 3) := by decide +kernel
theorem dX9_setTimes_16 : decode cX9_setTimes 16 = .ok (.invokestatic 63, 3) := by decide +kernel
theorem dX9_setTimes_19 : decode cX9_setTimes 19 = .ok (.ifCond .ne 5, 3) := by decide +kernel
theorem dX9_setTimes_22 : decode cX9_setTimes 22 = .ok (.iconst (-1), 1) := by decide +kernel
theorem dX9_setTimes_23 : decode cX9_setTimes 23 = .ok (.ireturn, 1) := by decide +kernel
theorem dX9_setTimes_24 : decode cX9_setTimes 24 = .ok (.aload_n 0, 1) := by decide +kernel
theorem dX9_setTimes_25 : decode cX9_setTimes 25 = .ok (.getfield 29, 3) := by decide +kernel
theorem dX9_setTimes_28 : decode cX9_setTimes 28 = .ok (.aload_n 0, 1) := by decide +kernel
theorem dX9_setTimes_29 : decode cX9_setTimes 29 = .ok (.getfield 19, 3) := by decide +kernel
theorem dX9_setTimes_32 : decode cX9_setTimes 32 = .ok (.invokevirtual 99, 3) := by decide +kernel
theorem dX9_setTimes_35 : decode cX9_setTimes 35 = .ok (.aload_n 0, 1) := by decide +kernel
theorem dX9_setTimes_36 : decode cX9_setTimes 36 = .ok (.getfield 19, 3) := by decide +kernel
theorem dX9_setTimes_39 : decode cX9_setTimes 39 = .ok (.getfield 255, 3) := by decide +kernel
theorem dX9_setTimes_42 : decode cX9_setTimes 42 = .ok (.iload_n 1, 1) := by decide +kernel
theorem dX9_setTimes_43 : decode cX9_setTimes 43 = .ok (.if_icmp .ne 14, 3) := by decide +kernel
theorem dX9_setTimes_46 : decode cX9_setTimes 46 = .ok (.aload_n 0, 1) := by decide +kernel
theorem dX9_setTimes_47 : decode cX9_setTimes 47 = .ok (.getfield 19, 3) := by decide +kernel
theorem dX9_setTimes_50 : decode cX9_setTimes 50 = .ok (.getfield 258, 3) := by decide +kernel
theorem dX9_setTimes_53 : decode cX9_setTimes 53 = .ok (.iload_n 2, 1) := by decide +kernel
theorem dX9_setTimes_54 : decode cX9_setTimes 54 = .ok (.if_icmp .eq 7, 3) := by decide +kernel
theorem dX9_setTimes_57 : decode cX9_setTimes 57 = .ok (.iconst 1, 1) := by decide +kernel
theorem dX9_setTimes_58 : decode cX9_setTimes 58 = .ok (.goto 4, 3) := by decide +kernel
theorem dX9_setTimes_61 : decode cX9_setTimes 61 = .ok (.iconst 0, 1) := by decide +kernel
theorem dX9_setTimes_62 : decode cX9_setTimes 62 = .ok (.istore_n 3, 1) := by decide +kernel
theorem dX9_setTimes_63 : decode cX9_setTimes 63 = .ok (.aload_n 0, 1) := by decide +kernel
theorem dX9_setTimes_64 : decode cX9_setTimes 64 = .ok (.getfield 19, 3) := by decide +kernel
theorem dX9_setTimes_67 : decode cX9_setTimes 67 = .ok (.iload_n 1, 1) := by decide +kernel
theorem dX9_setTimes_68 : decode cX9_setTimes 68 = .ok (.putfield 255, 3) := by decide +kernel
theorem dX9_setTimes_71 : decode cX9_setTimes 71 = .ok (.aload_n 0, 1) := by decide +kernel
theorem dX9_setTimes_72 : decode cX9_setTimes 72 = .ok (.getfield 19, 3) := by decide +kernel
theorem dX9_setTimes_75 : decode cX9_setTimes 75 = .ok (.iload_n 2, 1) := by decide +kernel
theorem dX9_setTimes_76 : decode cX9_setTimes 76 = .ok (.putfield 258, 3) := by decide +kernel
theorem dX9_setTimes_79 : decode cX9_setTimes 79 = .ok (.iload_n 3, 1) := by decide +kernel
theorem dX9_setTimes_80 : decode cX9_setTimes 80 = .ok (.ifCond .eq 7, 3) := by decide +kernel
theorem dX9_setTimes_83 : decode cX9_setTimes 83 = .ok (.iconst 1, 1) := by decide +kernel
theorem dX9_setTimes_84 : decode cX9_setTimes 84 = .ok (.goto 4, 3) := by decide +kernel
theorem dX9_setTimes_87 : decode cX9_setTimes 87 = .ok (.iconst 0, 1) := by decide +kernel
theorem dX9_setTimes_88 : decode cX9_setTimes 88 = .ok (.ireturn, 1) := by decide +kernel
theorem dX9_nextEvent_0 : decode cX9_nextEvent 0 = .ok (.aload_n 0, 1) := by decide +kernel
theorem dX9_nextEvent_1 : decode cX9_nextEvent 1 = .ok (.getfield 19, 3) := by decide +kernel
theorem dX9_nextEvent_4 : decode cX9_nextEvent 4 = .ok (.getfield 169, 3) := by decide +kernel
theorem dX9_nextEvent_7 : decode cX9_nextEvent 7 = .ok (.invokevirtual 261, 3) := by decide +kernel
theorem dX9_nextEvent_10 : decode cX9_nextEvent 10 = .ok (.aload_n 0, 1) := by decide +kernel
theorem dX9_nextEvent_11 : decode cX9_nextEvent 11 = .ok (.getfield 19, 3) := by decide +kernel
theorem dX9_nextEvent_14 : decode cX9_nextEvent 14 = .ok (.getfield 87, 3) := by decide +kernel
theorem dX9_nextEvent_17 : decode cX9_nextEvent 17 = .ok (.invokevirtual 264, 3) := by decide +kernel
theorem dX9_nextEvent_20 : decode cX9_nextEvent 20 = .ok (.invokestatic 267, 3) := by decide +kernel
theorem dX9_nextEvent_23 : decode cX9_nextEvent 23 = .ok (.istore_n 1, 1) := by decide +kernel
theorem dX9_nextEvent_24 : decode cX9_nextEvent 24 = .ok (.iload_n 1, 1) := by decide +kernel
theorem dX9_nextEvent_25 : decode cX9_nextEvent 25 = .ok (.sipush 10999, 3) := by decide +kernel
theorem dX9_nextEvent_28 : decode cX9_nextEvent 28 = .ok (.if_icmp .ne 8, 3) := by decide +kernel
theorem dX9_nextEvent_31 : decode cX9_nextEvent 31 = .ok (.bipush (-9), 2) := by decide +kernel
theorem dX9_nextEvent_33 : decode cX9_nextEvent 33 = .ok (.goto 4, 3) := by decide +kernel
theorem dX9_nextEvent_36 : decode cX9_nextEvent 36 = .ok (.iload_n 1, 1) := by decide +kernel
theorem dX9_nextEvent_37 : decode cX9_nextEvent 37 = .ok (.ireturn, 1) := by decide +kernel
theorem dX9_count_0 : decode cX9_count 0 = .ok (.iload_n 1, 1) := by decide +kernel
theorem dX9_count_1 : decode cX9_count 1 = .ok (.tableswitch 155 0 8 #[51, 59, 70, 81, 92, 103, 114, 122, 147], 51) := by decide +kernel
theorem dX9_count_52 : decode cX9_count 52 = .ok (.aload_n 0, 1) := by decide +kernel
theorem dX9_count_53 : decode cX9_count 53 = .ok (.getfield 19, 3) := by decide +kernel
theorem dX9_count_56 : decode cX9_count 56 = .ok (.getfield 249, 3) := by decide +kernel
theorem dX9_count_59 : decode cX9_count 59 = .ok (.ireturn, 1) := by decide +kernel
theorem dX9_count_60 : decode cX9_count 60 = .ok (.aload_n 0, 1) := by decide +kernel
theorem dX9_count_61 : decode cX9_count 61 = .ok (.getfield 19, 3) := by decide +kernel
theorem dX9_count_64 : decode cX9_count 64 = .ok (.getfield 87, 3) := by decide +kernel
theorem dX9_count_67 : decode cX9_count 67 = .ok (.getfield 96, 3) := by decide +kernel
theorem dX9_count_70 : decode cX9_count 70 = .ok (.ireturn, 1) := by decide +kernel
theorem dX9_count_71 : decode cX9_count 71 = .ok (.aload_n 0, 1) := by decide +kernel
theorem dX9_count_72 : decode cX9_count 72 = .ok (.getfield 19, 3) := by decide +kernel
theorem dX9_count_75 : decode cX9_count 75 = .ok (.getfield 87, 3) := by decide +kernel
theorem dX9_count_78 : decode cX9_count 78 = .ok (.invokevirtual 272, 3) := by decide +kernel
theorem dX9_count_81 : decode cX9_count 81 = .ok (.ireturn, 1) := by decide +kernel
theorem dX9_count_82 : decode cX9_count 82 = .ok (.aload_n 0, 1) := by decide +kernel
theorem dX9_count_83 : decode cX9_count 83 = .ok (.getfield 19, 3) := by decide +kernel
theorem dX9_count_86 : decode cX9_count 86 = .ok (.getfield 87, 3) := by decide +kernel
theorem dX9_count_89 : decode cX9_count 89 = .ok (.invokevirtual 275, 3) := by decide +kernel
theorem dX9_count_92 : decode cX9_count 92 = .ok (.ireturn, 1) := by decide +kernel
theorem dX9_count_93 : decode cX9_count 93 = .ok (.aload_n 0, 1) := by decide +kernel
theorem dX9_count_94 : decode cX9_count 94 = .ok (.getfield 19, 3) := by decide +kernel
theorem dX9_count_97 : decode cX9_count 97 = .ok (.getfield 169, 3) := by decide +kernel
theorem dX9_count_100 : decode cX9_count 100 = .ok (.invokevirtual 278, 3) := by decide +kernel
theorem dX9_count_103 : decode cX9_count 103 = .ok (.ireturn, 1) := by decide +kernel
theorem dX9_count_104 : decode cX9_count 104 = .ok (.aload_n 0, 1) := by decide +kernel
theorem dX9_count_105 : decode cX9_count 105 = .ok (.getfield 19, 3) := by decide +kernel
theorem dX9_count_108 : decode cX9_count 108 = .ok (.getfield 169, 3) := by decide +kernel
theorem dX9_count_111 : decode cX9_count 111 = .ok (.invokevirtual 281, 3) := by decide +kernel
theorem dX9_count_114 : decode cX9_count 114 = .ok (.ireturn, 1) := by decide +kernel
theorem dX9_count_115 : decode cX9_count 115 = .ok (.aload_n 0, 1) := by decide +kernel
theorem dX9_count_116 : decode cX9_count 116 = .ok (.getfield 19, 3) := by decide +kernel
theorem dX9_count_119 : decode cX9_count 119 = .ok (.getfield 284, 3) := by decide +kernel
theorem dX9_count_122 : decode cX9_count 122 = .ok (.ireturn, 1) := by decide +kernel
theorem dX9_count_123 : decode cX9_count 123 = .ok (.aload_n 0, 1) := by decide +kernel
theorem dX9_count_124 : decode cX9_count 124 = .ok (.getfield 36, 3) := by decide +kernel
theorem dX9_count_127 : decode cX9_count 127 = .ok (.aload_n 0, 1) := by decide +kernel
theorem dX9_count_128 : decode cX9_count 128 = .ok (.getfield 19, 3) := by decide +kernel
theorem dX9_count_131 : decode cX9_count 131 = .ok (.getfield 87, 3) := by decide +kernel
theorem dX9_count_134 : decode cX9_count 134 = .ok (.invokevirtual 118, 3) := by decide +kernel
theorem dX9_count_137 : decode cX9_count 137 = .ok (.aload_n 0, 1) := by decide +kernel
theorem dX9_count_138 : decode cX9_count 138 = .ok (.getfield 36, 3) := by decide +kernel
theorem dX9_count_141 : decode cX9_count 141 = .ok (.getfield 122, 3) := by decide +kernel
theorem dX9_count_144 : decode cX9_count 144 = .ok (.invokevirtual 287, 3) := by decide +kernel
theorem dX9_count_147 : decode cX9_count 147 = .ok (.ireturn, 1) := by decide +kernel
theorem dX9_count_148 : decode cX9_count 148 = .ok (.aload_n 0, 1) := by decide +kernel
theorem dX9_count_149 : decode cX9_count 149 = .ok (.getfield 29, 3) := by decide +kernel
theorem dX9_count_152 : decode cX9_count 152 = .ok (.getfield 290, 3) := by decide +kernel
theorem dX9_count_155 : decode cX9_count 155 = .ok (.ireturn, 1) := by decide +kernel
theorem dX9_count_156 : decode cX9_count 156 = .ok (.iconst (-1), 1) := by decide +kernel
theorem dX9_count_157 : decode cX9_count 157 = .ok (.ireturn, 1) := by decide +kernel
theorem dX9_routeCount_0 : decode cX9_routeCount 0 = .ok (.aload_n 0, 1) := by decide +kernel
theorem dX9_routeCount_1 : decode cX9_routeCount 1 = .ok (.getfield 36, 3) := by decide +kernel
theorem dX9_routeCount_4 : decode cX9_routeCount 4 = .ok (.aload_n 0, 1) := by decide +kernel
theorem dX9_routeCount_5 : decode cX9_routeCount 5 = .ok (.getfield 19, 3) := by decide +kernel
theorem dX9_routeCount_8 : decode cX9_routeCount 8 = .ok (.getfield 87, 3) := by decide +kernel
theorem dX9_routeCount_11 : decode cX9_routeCount 11 = .ok (.aload_n 0, 1) := by decide +kernel
theorem dX9_routeCount_12 : decode cX9_routeCount 12 = .ok (.getfield 43, 3) := by decide +kernel
theorem dX9_routeCount_15 : decode cX9_routeCount 15 = .ok (.invokevirtual 293, 3) := by decide +kernel
theorem dX9_routeCount_18 : decode cX9_routeCount 18 = .ok (.aload_n 0, 1) := by decide +kernel
theorem dX9_routeCount_19 : decode cX9_routeCount 19 = .ok (.getfield 43, 3) := by decide +kernel
theorem dX9_routeCount_22 : decode cX9_routeCount 22 = .ok (.getfield 297, 3) := by decide +kernel
theorem dX9_routeCount_25 : decode cX9_routeCount 25 = .ok (.ireturn, 1) := by decide +kernel
theorem dX9_route_0 : decode cX9_route 0 = .ok (.iload_n 1, 1) := by decide +kernel
theorem dX9_route_1 : decode cX9_route 1 = .ok (.ifCond .lt 12, 3) := by decide +kernel
theorem dX9_route_4 : decode cX9_route 4 = .ok (.iload_n 2, 1) := by decide +kernel
theorem dX9_route_5 : decode cX9_route 5 = .ok (.iconst 0, 1) := by decide +kernel
theorem dX9_route_6 : decode cX9_route 6 = .ok (.iconst 1, 1) := by decide +kernel
theorem dX9_route_7 : decode cX9_route 7 = .ok (.invokestatic 63, 3) := by decide +kernel
theorem dX9_route_10 : decode cX9_route 10 = .ok (.ifCond .ne 5, 3) := by decide +kernel
theorem dX9_route_13 : decode cX9_route 13 = .ok (.iconst (-1), 1) := by decide +kernel
theorem dX9_route_14 : decode cX9_route 14 = .ok (.ireturn, 1) := by decide +kernel
theorem dX9_route_15 : decode cX9_route 15 = .ok (.aload_n 0, 1) := by decide +kernel
theorem dX9_route_16 : decode cX9_route 16 = .ok (.getfield 36, 3) := by decide +kernel
theorem dX9_route_19 : decode cX9_route 19 = .ok (.aload_n 0, 1) := by decide +kernel
theorem dX9_route_20 : decode cX9_route 20 = .ok (.getfield 19, 3) := by decide +kernel
theorem dX9_route_23 : decode cX9_route 23 = .ok (.getfield 87, 3) := by decide +kernel
theorem dX9_route_26 : decode cX9_route 26 = .ok (.aload_n 0, 1) := by decide +kernel
theorem dX9_route_27 : decode cX9_route 27 = .ok (.getfield 43, 3) := by decide +kernel
theorem dX9_route_30 : decode cX9_route 30 = .ok (.invokevirtual 293, 3) := by decide +kernel
theorem dX9_route_33 : decode cX9_route 33 = .ok (.aload_n 0, 1) := by decide +kernel
theorem dX9_route_34 : decode cX9_route 34 = .ok (.getfield 43, 3) := by decide +kernel
theorem dX9_route_37 : decode cX9_route 37 = .ok (.iload_n 1, 1) := by decide +kernel
theorem dX9_route_38 : decode cX9_route 38 = .ok (.invokevirtual 300, 3) := by decide +kernel
theorem dX9_route_41 : decode cX9_route 41 = .ok (.ifCond .ne 6, 3) := by decide +kernel
theorem dX9_route_44 : decode cX9_route 44 = .ok (.bipush (-9), 2) := by decide +kernel
theorem dX9_route_46 : decode cX9_route 46 = .ok (.ireturn, 1) := by decide +kernel
theorem dX9_route_47 : decode cX9_route 47 = .ok (.iload_n 2, 1) := by decide +kernel
theorem dX9_route_48 : decode cX9_route 48 = .ok (.ifCond .ne 15, 3) := by decide +kernel
theorem dX9_route_51 : decode cX9_route 51 = .ok (.aload_n 0, 1) := by decide +kernel
theorem dX9_route_52 : decode cX9_route 52 = .ok (.getfield 43, 3) := by decide +kernel
theorem dX9_route_55 : decode cX9_route 55 = .ok (.getfield 303, 3) := by decide +kernel
theorem dX9_route_58 : decode cX9_route 58 = .ok (.iload_n 1, 1) := by decide +kernel
theorem dX9_route_59 : decode cX9_route 59 = .ok (.iaload, 1) := by decide +kernel
theorem dX9_route_60 : decode cX9_route 60 = .ok (.goto 12, 3) := by decide +kernel
theorem dX9_route_63 : decode cX9_route 63 = .ok (.aload_n 0, 1) := by decide +kernel
theorem dX9_route_64 : decode cX9_route 64 = .ok (.getfield 43, 3) := by decide +kernel
theorem dX9_route_67 : decode cX9_route 67 = .ok (.getfield 304, 3) := by decide +kernel
theorem dX9_route_70 : decode cX9_route 70 = .ok (.iload_n 1, 1) := by decide +kernel
theorem dX9_route_71 : decode cX9_route 71 = .ok (.iaload, 1) := by decide +kernel
theorem dX9_route_72 : decode cX9_route 72 = .ok (.ireturn, 1) := by decide +kernel
theorem dX9_fragmentationAfter_0 : decode cX9_fragmentationAfter 0 = .ok (.iload_n 1, 1) := by decide +kernel
theorem dX9_fragmentationAfter_1 : decode cX9_fragmentationAfter 1 = .ok (.invokestatic 155, 3) := by decide +kernel
theorem dX9_fragmentationAfter_4 : decode cX9_fragmentationAfter 4 = .ok (.ifCond .ne 5, 3) := by decide +kernel
theorem dX9_fragmentationAfter_7 : decode cX9_fragmentationAfter 7 = .ok (.iconst (-1), 1) := by decide +kernel
theorem dX9_fragmentationAfter_8 : decode cX9_fragmentationAfter 8 = .ok (.ireturn, 1) := by decide +kernel
theorem dX9_fragmentationAfter_9 : decode cX9_fragmentationAfter 9 = .ok (.aload_n 0, 1) := by decide +kernel
theorem dX9_fragmentationAfter_10 : decode cX9_fragmentationAfter 10 = .ok (.getfield 19, 3) := by decide +kernel
theorem dX9_fragmentationAfter_13 : decode cX9_fragmentationAfter 13 = .ok (.getfield 87, 3) := by decide +kernel
theorem dX9_fragmentationAfter_16 : decode cX9_fragmentationAfter 16 = .ok (.iload_n 1, 1) := by decide +kernel
theorem dX9_fragmentationAfter_17 : decode cX9_fragmentationAfter 17 = .ok (.invokevirtual 199, 3) := by decide +kernel
theorem dX9_fragmentationAfter_20 : decode cX9_fragmentationAfter 20 = .ok (.ifCond .ne 6, 3) := by decide +kernel
theorem dX9_fragmentationAfter_23 : decode cX9_fragmentationAfter 23 = .ok (.bipush (-2), 2) := by decide +kernel
theorem dX9_fragmentationAfter_25 : decode cX9_fragmentationAfter 25 = .ok (.ireturn, 1) := by decide +kernel
theorem dX9_fragmentationAfter_26 : decode cX9_fragmentationAfter 26 = .ok (.aload_n 0, 1) := by decide +kernel
theorem dX9_fragmentationAfter_27 : decode cX9_fragmentationAfter 27 = .ok (.getfield 59, 3) := by decide +kernel
theorem dX9_fragmentationAfter_30 : decode cX9_fragmentationAfter 30 = .ok (.aload_n 0, 1) := by decide +kernel
theorem dX9_fragmentationAfter_31 : decode cX9_fragmentationAfter 31 = .ok (.getfield 19, 3) := by decide +kernel
theorem dX9_fragmentationAfter_34 : decode cX9_fragmentationAfter 34 = .ok (.getfield 87, 3) := by decide +kernel
theorem dX9_fragmentationAfter_37 : decode cX9_fragmentationAfter 37 = .ok (.invokevirtual 305, 3) := by decide +kernel
theorem dX9_fragmentationAfter_40 : decode cX9_fragmentationAfter 40 = .ok (.aload_n 0, 1) := by decide +kernel
theorem dX9_fragmentationAfter_41 : decode cX9_fragmentationAfter 41 = .ok (.getfield 59, 3) := by decide +kernel
theorem dX9_fragmentationAfter_44 : decode cX9_fragmentationAfter 44 = .ok (.iload_n 1, 1) := by decide +kernel
theorem dX9_fragmentationAfter_45 : decode cX9_fragmentationAfter 45 = .ok (.invokevirtual 308, 3) := by decide +kernel
theorem dX9_fragmentationAfter_48 : decode cX9_fragmentationAfter 48 = .ok (.ifCond .eq 13, 3) := by decide +kernel
theorem dX9_fragmentationAfter_51 : decode cX9_fragmentationAfter 51 = .ok (.aload_n 0, 1) := by decide +kernel
theorem dX9_fragmentationAfter_52 : decode cX9_fragmentationAfter 52 = .ok (.getfield 59, 3) := by decide +kernel
theorem dX9_fragmentationAfter_55 : decode cX9_fragmentationAfter 55 = .ok (.getfield 311, 3) := by decide +kernel
theorem dX9_fragmentationAfter_58 : decode cX9_fragmentationAfter 58 = .ok (.goto 5, 3) := by decide +kernel
theorem dX9_fragmentationAfter_61 : decode cX9_fragmentationAfter 61 = .ok (.bipush (-9), 2) := by decide +kernel
theorem dX9_fragmentationAfter_63 : decode cX9_fragmentationAfter 63 = .ok (.ireturn, 1) := by decide +kernel
theorem dX9_bestMove_0 : decode cX9_bestMove 0 = .ok (.aload_n 0, 1) := by decide +kernel
theorem dX9_bestMove_1 : decode cX9_bestMove 1 = .ok (.getfield 59, 3) := by decide +kernel
theorem dX9_bestMove_4 : decode cX9_bestMove 4 = .ok (.aload_n 0, 1) := by decide +kernel
theorem dX9_bestMove_5 : decode cX9_bestMove 5 = .ok (.getfield 19, 3) := by decide +kernel
theorem dX9_bestMove_8 : decode cX9_bestMove 8 = .ok (.getfield 87, 3) := by decide +kernel
theorem dX9_bestMove_11 : decode cX9_bestMove 11 = .ok (.invokevirtual 305, 3) := by decide +kernel
theorem dX9_bestMove_14 : decode cX9_bestMove 14 = .ok (.aload_n 0, 1) := by decide +kernel
theorem dX9_bestMove_15 : decode cX9_bestMove 15 = .ok (.getfield 59, 3) := by decide +kernel
theorem dX9_bestMove_18 : decode cX9_bestMove 18 = .ok (.invokevirtual 314, 3) := by decide +kernel
theorem dX9_bestMove_21 : decode cX9_bestMove 21 = .ok (.ifCond .eq 13, 3) := by decide +kernel
theorem dX9_bestMove_24 : decode cX9_bestMove 24 = .ok (.aload_n 0, 1) := by decide +kernel
theorem dX9_bestMove_25 : decode cX9_bestMove 25 = .ok (.getfield 59, 3) := by decide +kernel
theorem dX9_bestMove_28 : decode cX9_bestMove 28 = .ok (.getfield 318, 3) := by decide +kernel
theorem dX9_bestMove_31 : decode cX9_bestMove 31 = .ok (.goto 5, 3) := by decide +kernel
theorem dX9_bestMove_34 : decode cX9_bestMove 34 = .ok (.bipush (-9), 2) := by decide +kernel
theorem dX9_bestMove_36 : decode cX9_bestMove 36 = .ok (.ireturn, 1) := by decide +kernel
theorem dX9_makePlan_0 : decode cX9_makePlan 0 = .ok (.iload_n 1, 1) := by decide +kernel
theorem dX9_makePlan_1 : decode cX9_makePlan 1 = .ok (.iconst 1, 1) := by decide +kernel
theorem dX9_makePlan_2 : decode cX9_makePlan 2 = .ok (.bipush 12, 2) := by decide +kernel
theorem dX9_makePlan_4 : decode cX9_makePlan 4 = .ok (.invokestatic 63, 3) := by decide +kernel
theorem dX9_makePlan_7 : decode cX9_makePlan 7 = .ok (.ifCond .ne 5, 3) := by decide +kernel
theorem dX9_makePlan_10 : decode cX9_makePlan 10 = .ok (.iconst (-1), 1) := by decide +kernel
theorem dX9_makePlan_11 : decode cX9_makePlan 11 = .ok (.ireturn, 1) := by decide +kernel
theorem dX9_makePlan_12 : decode cX9_makePlan 12 = .ok (.aload_n 0, 1) := by decide +kernel
theorem dX9_makePlan_13 : decode cX9_makePlan 13 = .ok (.getfield 59, 3) := by decide +kernel
theorem dX9_makePlan_16 : decode cX9_makePlan 16 = .ok (.aload_n 0, 1) := by decide +kernel
theorem dX9_makePlan_17 : decode cX9_makePlan 17 = .ok (.getfield 19, 3) := by decide +kernel
theorem dX9_makePlan_20 : decode cX9_makePlan 20 = .ok (.getfield 87, 3) := by decide +kernel
theorem dX9_makePlan_23 : decode cX9_makePlan 23 = .ok (.iload_n 1, 1) := by decide +kernel
theorem dX9_makePlan_24 : decode cX9_makePlan 24 = .ok (.invokevirtual 321, 3) := by decide +kernel
theorem dX9_makePlan_27 : decode cX9_makePlan 27 = .ok (.aload_n 0, 1) := by decide +kernel
theorem dX9_makePlan_28 : decode cX9_makePlan 28 = .ok (.getfield 59, 3) := by decide +kernel
theorem dX9_makePlan_31 : decode cX9_makePlan 31 = .ok (.getfield 325, 3) := by decide +kernel
theorem dX9_makePlan_34 : decode cX9_makePlan 34 = .ok (.ireturn, 1) := by decide +kernel
theorem dX9_plan_0 : decode cX9_plan 0 = .ok (.iload_n 1, 1) := by decide +kernel
theorem dX9_plan_1 : decode cX9_plan 1 = .ok (.ifCond .lt 12, 3) := by decide +kernel
theorem dX9_plan_4 : decode cX9_plan 4 = .ok (.iload_n 2, 1) := by decide +kernel
theorem dX9_plan_5 : decode cX9_plan 5 = .ok (.iconst 0, 1) := by decide +kernel
theorem dX9_plan_6 : decode cX9_plan 6 = .ok (.iconst 2, 1) := by decide +kernel
theorem dX9_plan_7 : decode cX9_plan 7 = .ok (.invokestatic 63, 3) := by decide +kernel
theorem dX9_plan_10 : decode cX9_plan 10 = .ok (.ifCond .ne 5, 3) := by decide +kernel
theorem dX9_plan_13 : decode cX9_plan 13 = .ok (.iconst (-1), 1) := by decide +kernel
theorem dX9_plan_14 : decode cX9_plan 14 = .ok (.ireturn, 1) := by decide +kernel
theorem dX9_plan_15 : decode cX9_plan 15 = .ok (.aload_n 0, 1) := by decide +kernel
theorem dX9_plan_16 : decode cX9_plan 16 = .ok (.getfield 59, 3) := by decide +kernel
theorem dX9_plan_19 : decode cX9_plan 19 = .ok (.iload_n 1, 1) := by decide +kernel
theorem dX9_plan_20 : decode cX9_plan 20 = .ok (.invokevirtual 328, 3) := by decide +kernel
theorem dX9_plan_23 : decode cX9_plan 23 = .ok (.ifCond .eq 15, 3) := by decide +kernel
theorem dX9_plan_26 : decode cX9_plan 26 = .ok (.aload_n 0, 1) := by decide +kernel
theorem dX9_plan_27 : decode cX9_plan 27 = .ok (.getfield 59, 3) := by decide +kernel
theorem dX9_plan_30 : decode cX9_plan 30 = .ok (.iload_n 1, 1) := by decide +kernel
theorem dX9_plan_31 : decode cX9_plan 31 = .ok (.iload_n 2, 1) := by decide +kernel
theorem dX9_plan_32 : decode cX9_plan 32 = .ok (.invokevirtual 331, 3) := by decide +kernel
theorem dX9_plan_35 : decode cX9_plan 35 = .ok (.goto 5, 3) := by decide +kernel
theorem dX9_plan_38 : decode cX9_plan 38 = .ok (.bipush (-9), 2) := by decide +kernel
theorem dX9_plan_40 : decode cX9_plan 40 = .ok (.ireturn, 1) := by decide +kernel
theorem dX9_undo_0 : decode cX9_undo 0 = .ok (.aload_n 0, 1) := by decide +kernel
theorem dX9_undo_1 : decode cX9_undo 1 = .ok (.getfield 29, 3) := by decide +kernel
theorem dX9_undo_4 : decode cX9_undo 4 = .ok (.getfield 290, 3) := by decide +kernel
theorem dX9_undo_7 : decode cX9_undo 7 = .ok (.ifCond .ne 6, 3) := by decide +kernel
theorem dX9_undo_10 : decode cX9_undo 10 = .ok (.bipush (-2), 2) := by decide +kernel
theorem dX9_undo_12 : decode cX9_undo 12 = .ok (.ireturn, 1) := by decide +kernel
theorem dX9_undo_13 : decode cX9_undo 13 = .ok (.aload_n 0, 1) := by decide +kernel
theorem dX9_undo_14 : decode cX9_undo 14 = .ok (.getfield 29, 3) := by decide +kernel
theorem dX9_undo_17 : decode cX9_undo 17 = .ok (.aload_n 0, 1) := by decide +kernel
theorem dX9_undo_18 : decode cX9_undo 18 = .ok (.getfield 19, 3) := by decide +kernel
theorem dX9_undo_21 : decode cX9_undo 21 = .ok (.invokevirtual 334, 3) := by decide +kernel
theorem dX9_undo_24 : decode cX9_undo 24 = .ok (.aload_n 0, 1) := by decide +kernel
theorem dX9_undo_25 : decode cX9_undo 25 = .ok (.getfield 29, 3) := by decide +kernel
theorem dX9_undo_28 : decode cX9_undo 28 = .ok (.getfield 290, 3) := by decide +kernel
theorem dX9_undo_31 : decode cX9_undo 31 = .ok (.ireturn, 1) := by decide +kernel
theorem dX9_adoptDraft_0 : decode cX9_adoptDraft 0 = .ok (.aload_n 0, 1) := by decide +kernel
theorem dX9_adoptDraft_1 : decode cX9_adoptDraft 1 = .ok (.getfield 29, 3) := by decide +kernel
theorem dX9_adoptDraft_4 : decode cX9_adoptDraft 4 = .ok (.aload_n 0, 1) := by decide +kernel
theorem dX9_adoptDraft_5 : decode cX9_adoptDraft 5 = .ok (.getfield 19, 3) := by decide +kernel
theorem dX9_adoptDraft_8 : decode cX9_adoptDraft 8 = .ok (.invokevirtual 99, 3) := by decide +kernel
theorem dX9_adoptDraft_11 : decode cX9_adoptDraft 11 = .ok (.aload_n 0, 1) := by decide +kernel
theorem dX9_adoptDraft_12 : decode cX9_adoptDraft 12 = .ok (.getfield 19, 3) := by decide +kernel
theorem dX9_adoptDraft_15 : decode cX9_adoptDraft 15 = .ok (.aload_n 0, 1) := by decide +kernel
theorem dX9_adoptDraft_16 : decode cX9_adoptDraft 16 = .ok (.getfield 23, 3) := by decide +kernel
theorem dX9_adoptDraft_19 : decode cX9_adoptDraft 19 = .ok (.invokevirtual 205, 3) := by decide +kernel
theorem dX9_adoptDraft_22 : decode cX9_adoptDraft 22 = .ok (.return_, 1) := by decide +kernel
theorem dX9_isIn_0 : decode cX9_isIn 0 = .ok (.iload_n 0, 1) := by decide +kernel
theorem dX9_isIn_1 : decode cX9_isIn 1 = .ok (.iload_n 1, 1) := by decide +kernel
theorem dX9_isIn_2 : decode cX9_isIn 2 = .ok (.if_icmp .lt 12, 3) := by decide +kernel
theorem dX9_isIn_5 : decode cX9_isIn 5 = .ok (.iload_n 0, 1) := by decide +kernel
theorem dX9_isIn_6 : decode cX9_isIn 6 = .ok (.iload_n 2, 1) := by decide +kernel
theorem dX9_isIn_7 : decode cX9_isIn 7 = .ok (.if_icmp .gt 7, 3) := by decide +kernel
theorem dX9_isIn_10 : decode cX9_isIn 10 = .ok (.iconst 1, 1) := by decide +kernel
theorem dX9_isIn_11 : decode cX9_isIn 11 = .ok (.goto 4, 3) := by decide +kernel
theorem dX9_isIn_14 : decode cX9_isIn 14 = .ok (.iconst 0, 1) := by decide +kernel
theorem dX9_isIn_15 : decode cX9_isIn 15 = .ok (.ireturn, 1) := by decide +kernel
theorem dX9_isNetwork_0 : decode cX9_isNetwork 0 = .ok (.iload_n 0, 1) := by decide +kernel
theorem dX9_isNetwork_1 : decode cX9_isNetwork 1 = .ok (.ifCond .lt 13, 3) := by decide +kernel
theorem dX9_isNetwork_4 : decode cX9_isNetwork 4 = .ok (.iload_n 0, 1) := by decide +kernel
theorem dX9_isNetwork_5 : decode cX9_isNetwork 5 = .ok (.bipush 12, 2) := by decide +kernel
theorem dX9_isNetwork_7 : decode cX9_isNetwork 7 = .ok (.if_icmp .ge 7, 3) := by decide +kernel
theorem dX9_isNetwork_10 : decode cX9_isNetwork 10 = .ok (.iconst 1, 1) := by decide +kernel
theorem dX9_isNetwork_11 : decode cX9_isNetwork 11 = .ok (.goto 4, 3) := by decide +kernel
theorem dX9_isNetwork_14 : decode cX9_isNetwork 14 = .ok (.iconst 0, 1) := by decide +kernel
theorem dX9_isNetwork_15 : decode cX9_isNetwork 15 = .ok (.ireturn, 1) := by decide +kernel
theorem dX9_isHost_0 : decode cX9_isHost 0 = .ok (.iload_n 0, 1) := by decide +kernel
theorem dX9_isHost_1 : decode cX9_isHost 1 = .ok (.ifCond .lt 13, 3) := by decide +kernel
theorem dX9_isHost_4 : decode cX9_isHost 4 = .ok (.iload_n 0, 1) := by decide +kernel
theorem dX9_isHost_5 : decode cX9_isHost 5 = .ok (.bipush 16, 2) := by decide +kernel
theorem dX9_isHost_7 : decode cX9_isHost 7 = .ok (.if_icmp .ge 7, 3) := by decide +kernel
theorem dX9_isHost_10 : decode cX9_isHost 10 = .ok (.iconst 1, 1) := by decide +kernel
theorem dX9_isHost_11 : decode cX9_isHost 11 = .ok (.goto 4, 3) := by decide +kernel
theorem dX9_isHost_14 : decode cX9_isHost 14 = .ok (.iconst 0, 1) := by decide +kernel
theorem dX9_isHost_15 : decode cX9_isHost 15 = .ok (.ireturn, 1) := by decide +kernel
theorem dX9_sizeOf_0 : decode cX9_sizeOf 0 = .ok (.iconst 1, 1) := by decide +kernel
theorem dX9_sizeOf_1 : decode cX9_sizeOf 1 = .ok (.bipush 16, 2) := by decide +kernel
theorem dX9_sizeOf_3 : decode cX9_sizeOf 3 = .ok (.iload_n 0, 1) := by decide +kernel
theorem dX9_sizeOf_4 : decode cX9_sizeOf 4 = .ok (.isub, 1) := by decide +kernel
theorem dX9_sizeOf_5 : decode cX9_sizeOf 5 = .ok (.ishl, 1) := by decide +kernel
theorem dX9_sizeOf_6 : decode cX9_sizeOf 6 = .ok (.ireturn, 1) := by decide +kernel
theorem dX9_isAligned_0 : decode cX9_isAligned 0 = .ok (.iload_n 0, 1) := by decide +kernel
theorem dX9_isAligned_1 : decode cX9_isAligned 1 = .ok (.iload_n 1, 1) := by decide +kernel
theorem dX9_isAligned_2 : decode cX9_isAligned 2 = .ok (.invokestatic 129, 3) := by decide +kernel
theorem dX9_isAligned_5 : decode cX9_isAligned 5 = .ok (.iconst 1, 1) := by decide +kernel
theorem dX9_isAligned_6 : decode cX9_isAligned 6 = .ok (.isub, 1) := by decide +kernel
theorem dX9_isAligned_7 : decode cX9_isAligned 7 = .ok (.iand, 1) := by decide +kernel
theorem dX9_isAligned_8 : decode cX9_isAligned 8 = .ok (.ifCond .ne 7, 3) := by decide +kernel
theorem dX9_isAligned_11 : decode cX9_isAligned 11 = .ok (.iconst 1, 1) := by decide +kernel
theorem dX9_isAligned_12 : decode cX9_isAligned 12 = .ok (.goto 4, 3) := by decide +kernel
theorem dX9_isAligned_15 : decode cX9_isAligned 15 = .ok (.iconst 0, 1) := by decide +kernel
theorem dX9_isAligned_16 : decode cX9_isAligned 16 = .ok (.ireturn, 1) := by decide +kernel
theorem dX9_covers_0 : decode cX9_covers 0 = .ok (.iload_n 0, 1) := by decide +kernel
theorem dX9_covers_1 : decode cX9_covers 1 = .ok (.iconst (-1), 1) := by decide +kernel
theorem dX9_covers_2 : decode cX9_covers 2 = .ok (.if_icmp .eq 22, 3) := by decide +kernel
theorem dX9_covers_5 : decode cX9_covers 5 = .ok (.iload_n 2, 1) := by decide +kernel
theorem dX9_covers_6 : decode cX9_covers 6 = .ok (.iload_n 0, 1) := by decide +kernel
theorem dX9_covers_7 : decode cX9_covers 7 = .ok (.if_icmp .lt 17, 3) := by decide +kernel
theorem dX9_covers_10 : decode cX9_covers 10 = .ok (.iload_n 2, 1) := by decide +kernel
theorem dX9_covers_11 : decode cX9_covers 11 = .ok (.iload_n 0, 1) := by decide +kernel
theorem dX9_covers_12 : decode cX9_covers 12 = .ok (.iload_n 1, 1) := by decide +kernel
theorem dX9_covers_13 : decode cX9_covers 13 = .ok (.invokestatic 129, 3) := by decide +kernel
theorem dX9_covers_16 : decode cX9_covers 16 = .ok (.iadd, 1) := by decide +kernel
theorem dX9_covers_17 : decode cX9_covers 17 = .ok (.if_icmp .ge 7, 3) := by decide +kernel
theorem dX9_covers_20 : decode cX9_covers 20 = .ok (.iconst 1, 1) := by decide +kernel
theorem dX9_covers_21 : decode cX9_covers 21 = .ok (.goto 4, 3) := by decide +kernel
theorem dX9_covers_24 : decode cX9_covers 24 = .ok (.iconst 0, 1) := by decide +kernel
theorem dX9_covers_25 : decode cX9_covers 25 = .ok (.ireturn, 1) := by decide +kernel
theorem dX9_meet_0 : decode cX9_meet 0 = .ok (.iload_n 0, 1) := by decide +kernel
theorem dX9_meet_1 : decode cX9_meet 1 = .ok (.iload_n 1, 1) := by decide +kernel
theorem dX9_meet_2 : decode cX9_meet 2 = .ok (.iload_n 2, 1) := by decide +kernel
theorem dX9_meet_3 : decode cX9_meet 3 = .ok (.invokestatic 337, 3) := by decide +kernel
theorem dX9_meet_6 : decode cX9_meet 6 = .ok (.ifCond .ne 12, 3) := by decide +kernel
theorem dX9_meet_9 : decode cX9_meet 9 = .ok (.iload_n 2, 1) := by decide +kernel
theorem dX9_meet_10 : decode cX9_meet 10 = .ok (.iload_n 3, 1) := by decide +kernel
theorem dX9_meet_11 : decode cX9_meet 11 = .ok (.iload_n 0, 1) := by decide +kernel
theorem dX9_meet_12 : decode cX9_meet 12 = .ok (.invokestatic 337, 3) := by decide +kernel
theorem dX9_meet_15 : decode cX9_meet 15 = .ok (.ifCond .eq 7, 3) := by decide +kernel
theorem dX9_meet_18 : decode cX9_meet 18 = .ok (.iconst 1, 1) := by decide +kernel
theorem dX9_meet_19 : decode cX9_meet 19 = .ok (.goto 4, 3) := by decide +kernel
theorem dX9_meet_22 : decode cX9_meet 22 = .ok (.iconst 0, 1) := by decide +kernel
theorem dX9_meet_23 : decode cX9_meet 23 = .ok (.ireturn, 1) := by decide +kernel
theorem dX9_canLease_0 : decode cX9_canLease 0 = .ok (.iload_n 0, 1) := by decide +kernel
theorem dX9_canLease_1 : decode cX9_canLease 1 = .ok (.iload_n 1, 1) := by decide +kernel
theorem dX9_canLease_2 : decode cX9_canLease 2 = .ok (.iload_n 2, 1) := by decide +kernel
theorem dX9_canLease_3 : decode cX9_canLease 3 = .ok (.invokestatic 337, 3) := by decide +kernel
theorem dX9_canLease_6 : decode cX9_canLease 6 = .ok (.ifCond .ne 5, 3) := by decide +kernel
theorem dX9_canLease_9 : decode cX9_canLease 9 = .ok (.iconst 0, 1) := by decide +kernel
theorem dX9_canLease_10 : decode cX9_canLease 10 = .ok (.ireturn, 1) := by decide +kernel
theorem dX9_canLease_11 : decode cX9_canLease 11 = .ok (.iload_n 1, 1) := by decide +kernel
theorem dX9_canLease_12 : decode cX9_canLease 12 = .ok (.invokestatic 129, 3) := by decide +kernel
theorem dX9_canLease_15 : decode cX9_canLease 15 = .ok (.istore_n 3, 1) := by decide +kernel
theorem dX9_canLease_16 : decode cX9_canLease 16 = .ok (.iload_n 3, 1) := by decide +kernel
theorem dX9_canLease_17 : decode cX9_canLease 17 = .ok (.iconst 4, 1) := by decide +kernel
theorem dX9_canLease_18 : decode cX9_canLease 18 = .ok (.if_icmp .lt 17, 3) := by decide +kernel
theorem dX9_canLease_21 : decode cX9_canLease 21 = .ok (.iload_n 2, 1) := by decide +kernel
theorem dX9_canLease_22 : decode cX9_canLease 22 = .ok (.iload_n 0, 1) := by decide +kernel
theorem dX9_canLease_23 : decode cX9_canLease 23 = .ok (.if_icmp .eq 16, 3) := by decide +kernel
theorem dX9_canLease_26 : decode cX9_canLease 26 = .ok (.iload_n 2, 1) := by decide +kernel
theorem dX9_canLease_27 : decode cX9_canLease 27 = .ok (.iload_n 0, 1) := by decide +kernel
theorem dX9_canLease_28 : decode cX9_canLease 28 = .ok (.iload_n 3, 1) := by decide +kernel
theorem dX9_canLease_29 : decode cX9_canLease 29 = .ok (.iadd, 1) := by decide +kernel
theorem dX9_canLease_30 : decode cX9_canLease 30 = .ok (.iconst 1, 1) := by decide +kernel
theorem dX9_canLease_31 : decode cX9_canLease 31 = .ok (.isub, 1) := by decide +kernel
theorem dX9_canLease_32 : decode cX9_canLease 32 = .ok (.if_icmp .eq 7, 3) := by decide +kernel
theorem dX9_canLease_35 : decode cX9_canLease 35 = .ok (.iconst 1, 1) := by decide +kernel
theorem dX9_canLease_36 : decode cX9_canLease 36 = .ok (.goto 4, 3) := by decide +kernel
theorem dX9_canLease_39 : decode cX9_canLease 39 = .ok (.iconst 0, 1) := by decide +kernel
theorem dX9_canLease_40 : decode cX9_canLease 40 = .ok (.ireturn, 1) := by decide +kernel
theorem dX9_copyRow_0 : decode cX9_copyRow 0 = .ok (.aload_n 0, 1) := by decide +kernel
theorem dX9_copyRow_1 : decode cX9_copyRow 1 = .ok (.iconst 0, 1) := by decide +kernel
theorem dX9_copyRow_2 : decode cX9_copyRow 2 = .ok (.aload_n 1, 1) := by decide +kernel
theorem dX9_copyRow_3 : decode cX9_copyRow 3 = .ok (.iconst 0, 1) := by decide +kernel
theorem dX9_copyRow_4 : decode cX9_copyRow 4 = .ok (.aload_n 0, 1) := by decide +kernel
theorem dX9_copyRow_5 : decode cX9_copyRow 5 = .ok (.arraylength, 1) := by decide +kernel
theorem dX9_copyRow_6 : decode cX9_copyRow 6 = .ok (.aload_n 1, 1) := by decide +kernel
theorem dX9_copyRow_7 : decode cX9_copyRow 7 = .ok (.arraylength, 1) := by decide +kernel
theorem dX9_copyRow_8 : decode cX9_copyRow 8 = .ok (.invokestatic 267, 3) := by decide +kernel
theorem dX9_copyRow_11 : decode cX9_copyRow 11 = .ok (.invokestatic 340, 3) := by decide +kernel
theorem dX9_copyRow_14 : decode cX9_copyRow 14 = .ok (.return_, 1) := by decide +kernel
theorem dX10_init_0 : decode cX10_init 0 = .ok (.aload_n 0, 1) := by decide +kernel
theorem dX10_init_1 : decode cX10_init 1 = .ok (.invokespecial 1, 3) := by decide +kernel
theorem dX10_init_4 : decode cX10_init 4 = .ok (.aload_n 0, 1) := by decide +kernel
theorem dX10_init_5 : decode cX10_init 5 = .ok (.sipush 170, 3) := by decide +kernel
theorem dX10_init_8 : decode cX10_init 8 = .ok (.newarray .int, 2) := by decide +kernel
theorem dX10_init_10 : decode cX10_init 10 = .ok (.putfield 7, 3) := by decide +kernel
theorem dX10_init_13 : decode cX10_init 13 = .ok (.aload_n 0, 1) := by decide +kernel
theorem dX10_init_14 : decode cX10_init 14 = .ok (.sipush 1020, 3) := by decide +kernel
theorem dX10_init_17 : decode cX10_init 17 = .ok (.newarray .int, 2) := by decide +kernel
theorem dX10_init_19 : decode cX10_init 19 = .ok (.putfield 13, 3) := by decide +kernel
theorem dX10_init_22 : decode cX10_init 22 = .ok (.aload_n 0, 1) := by decide +kernel
theorem dX10_init_23 : decode cX10_init 23 = .ok (.sipush 150, 3) := by decide +kernel
theorem dX10_init_26 : decode cX10_init 26 = .ok (.newarray .byte, 2) := by decide +kernel
theorem dX10_init_28 : decode cX10_init 28 = .ok (.putfield 16, 3) := by decide +kernel
theorem dX10_init_31 : decode cX10_init 31 = .ok (.aload_n 0, 1) := by decide +kernel
theorem dX10_init_32 : decode cX10_init 32 = .ok (.sipush 170, 3) := by decide +kernel
theorem dX10_init_35 : decode cX10_init 35 = .ok (.newarray .int, 2) := by decide +kernel
theorem dX10_init_37 : decode cX10_init 37 = .ok (.putfield 20, 3) := by decide +kernel
theorem dX10_init_40 : decode cX10_init 40 = .ok (.aload_n 0, 1) := by decide +kernel
theorem dX10_init_41 : decode cX10_init 41 = .ok (.sipush 800, 3) := by decide +kernel
theorem dX10_init_44 : decode cX10_init 44 = .ok (.newarray .int, 2) := by decide +kernel
theorem dX10_init_46 : decode cX10_init 46 = .ok (.putfield 23, 3) := by decide +kernel
theorem dX10_init_49 : decode cX10_init 49 = .ok (.aload_n 0, 1) := by decide +kernel
theorem dX10_init_50 : decode cX10_init 50 = .ok (.sipush 800, 3) := by decide +kernel
theorem dX10_init_53 : decode cX10_init 53 = .ok (.newarray .int, 2) := by decide +kernel
theorem dX10_init_55 : decode cX10_init 55 = .ok (.putfield 26, 3) := by decide +kernel
theorem dX10_init_58 : decode cX10_init 58 = .ok (.aload_n 0, 1) := by decide +kernel
theorem dX10_init_59 : decode cX10_init 59 = .ok (.bipush 36, 2) := by decide +kernel
theorem dX10_init_61 : decode cX10_init 61 = .ok (.newarray .int, 2) := by decide +kernel
theorem dX10_init_63 : decode cX10_init 63 = .ok (.putfield 29, 3) := by decide +kernel
theorem dX10_init_66 : decode cX10_init 66 = .ok (.aload_n 0, 1) := by decide +kernel
theorem dX10_init_67 : decode cX10_init 67 = .ok (.invokevirtual 32, 3) := by decide +kernel
theorem dX10_init_70 : decode cX10_init 70 = .ok (.return_, 1) := by decide +kernel
theorem dX10_in_0 : decode cX10_in 0 = .ok (.iload_n 0, 1) := by decide +kernel
theorem dX10_in_1 : decode cX10_in 1 = .ok (.iload_n 1, 1) := by decide +kernel
theorem dX10_in_2 : decode cX10_in 2 = .ok (.if_icmp .lt 12, 3) := by decide +kernel
theorem dX10_in_5 : decode cX10_in 5 = .ok (.iload_n 0, 1) := by decide +kernel
theorem dX10_in_6 : decode cX10_in 6 = .ok (.iload_n 2, 1) := by decide +kernel
theorem dX10_in_7 : decode cX10_in 7 = .ok (.if_icmp .gt 7, 3) := by decide +kernel
theorem dX10_in_10 : decode cX10_in 10 = .ok (.iconst 1, 1) := by decide +kernel
theorem dX10_in_11 : decode cX10_in 11 = .ok (.goto 4, 3) := by decide +kernel
theorem dX10_in_14 : decode cX10_in 14 = .ok (.iconst 0, 1) := by decide +kernel
theorem dX10_in_15 : decode cX10_in 15 = .ok (.ireturn, 1) := by decide +kernel
theorem dX10_empties_0 : decode cX10_empties 0 = .ok (.iconst 0, 1) := by decide +kernel
theorem dX10_empties_1 : decode cX10_empties 1 = .ok (.istore_n 1, 1) := by decide +kernel
theorem dX10_empties_2 : decode cX10_empties 2 = .ok (.iload_n 1, 1) := by decide +kernel
theorem dX10_empties_3 : decode cX10_empties 3 = .ok (.sipush 170, 3) := by decide +kernel
theorem dX10_empties_6 : decode cX10_empties 6 = .ok (.if_icmp .ge 16, 3) := by decide +kernel
theorem dX10_empties_9 : decode cX10_empties 9 = .ok (.aload_n 0, 1) := by decide +kernel
theorem dX10_empties_10 : decode cX10_empties 10 = .ok (.getfield 7, 3) := by decide +kernel
theorem dX10_empties_13 : decode cX10_empties 13 = .ok (.iload_n 1, 1) := by decide +kernel
theorem dX10_empties_14 : decode cX10_empties 14 = .ok (.iconst 0, 1) := by decide +kernel
theorem dX10_empties_15 : decode cX10_empties 15 = .ok (.iastore, 1) := by decide +kernel
theorem dX10_empties_16 : decode cX10_empties 16 = .ok (.iinc 1 1, 3) := by decide +kernel
theorem dX10_empties_19 : decode cX10_empties 19 = .ok (.goto (-17), 3) := by decide +kernel
theorem dX10_empties_22 : decode cX10_empties 22 = .ok (.aload_n 0, 1) := by decide +kernel
theorem dX10_empties_23 : decode cX10_empties 23 = .ok (.getfield 7, 3) := by decide +kernel
theorem dX10_empties_26 : decode cX10_empties 26 = .ok (.iconst 1, 1) := by decide +kernel
theorem dX10_empties_27 : decode cX10_empties 27 = .ok (.bipush 60, 2) := by decide +kernel
theorem dX10_empties_29 : decode cX10_empties 29 = .ok (.iastore, 1) := by decide +kernel
theorem dX10_empties_30 : decode cX10_empties 30 = .ok (.aload_n 0, 1) := by decide +kernel
theorem dX10_empties_31 : decode cX10_empties 31 = .ok (.getfield 7, 3) := by decide +kernel
theorem dX10_empties_34 : decode cX10_empties 34 = .ok (.iconst 2, 1) := by decide +kernel
theorem dX10_empties_35 : decode cX10_empties 35 = .ok (.bipush 100, 2) := by decide +kernel
theorem dX10_empties_37 : decode cX10_empties 37 = .ok (.iastore, 1) := by decide +kernel
theorem dX10_empties_38 : decode cX10_empties 38 = .ok (.iconst 0, 1) := by decide +kernel
theorem dX10_empties_39 : decode cX10_empties 39 = .ok (.istore_n 1, 1) := by decide +kernel
theorem dX10_empties_40 : decode cX10_empties 40 = .ok (.iload_n 1, 1) := by decide +kernel
theorem dX10_empties_41 : decode cX10_empties 41 = .ok (.bipush 12, 2) := by decide +kernel
theorem dX10_empties_43 : decode cX10_empties 43 = .ok (.if_icmp .ge 31, 3) := by decide +kernel
theorem dX10_empties_46 : decode cX10_empties 46 = .ok (.aload_n 0, 1) := by decide +kernel
theorem dX10_empties_47 : decode cX10_empties 47 = .ok (.getfield 7, 3) := by decide +kernel
theorem dX10_empties_50 : decode cX10_empties 50 = .ok (.iload_n 1, 1) := by decide +kernel
theorem dX10_empties_51 : decode cX10_empties 51 = .ok (.invokestatic 35, 3) := by decide +kernel
theorem dX10_empties_54 : decode cX10_empties 54 = .ok (.iconst (-1), 1) := by decide +kernel
theorem dX10_empties_55 : decode cX10_empties 55 = .ok (.iastore, 1) := by decide +kernel
theorem dX10_empties_56 : decode cX10_empties 56 = .ok (.aload_n 0, 1) := by decide +kernel
theorem dX10_empties_57 : decode cX10_empties 57 = .ok (.getfield 7, 3) := by decide +kernel
theorem dX10_empties_60 : decode cX10_empties 60 = .ok (.iload_n 1, 1) := by decide +kernel
theorem dX10_empties_61 : decode cX10_empties 61 = .ok (.invokestatic 35, 3) := by decide +kernel
theorem dX10_empties_64 : decode cX10_empties 64 = .ok (.iconst 2, 1) := by decide +kernel
theorem dX10_empties_65 : decode cX10_empties 65 = .ok (.iadd, 1) := by decide +kernel
theorem dX10_empties_66 : decode cX10_empties 66 = .ok (.iconst (-1), 1) := by decide +kernel
theorem dX10_empties_67 : decode cX10_empties 67 = .ok (.iastore, 1) := by decide +kernel
theorem dX10_empties_68 : decode cX10_empties 68 = .ok (.iinc 1 1, 3) := by decide +kernel
theorem dX10_empties_71 : decode cX10_empties 71 = .ok (.goto (-31), 3) := by decide +kernel
theorem dX10_empties_74 : decode cX10_empties 74 = .ok (.iconst 0, 1) := by decide +kernel
theorem dX10_empties_75 : decode cX10_empties 75 = .ok (.istore_n 1, 1) := by decide +kernel
theorem dX10_empties_76 : decode cX10_empties 76 = .ok (.iload_n 1, 1) := by decide +kernel
theorem dX10_empties_77 : decode cX10_empties 77 = .ok (.bipush 16, 2) := by decide +kernel
theorem dX10_empties_79 : decode cX10_empties 79 = .ok (.if_icmp .ge 14, 3) := by decide +kernel
theorem dX10_empties_82 : decode cX10_empties 82 = .ok (.aload_n 0, 1) := by decide +kernel
theorem dX10_empties_83 : decode cX10_empties 83 = .ok (.iload_n 1, 1) := by decide +kernel
theorem dX10_empties_84 : decode cX10_empties 84 = .ok (.invokevirtual 39, 3) := by decide +kernel
theorem dX10_empties_87 : decode cX10_empties 87 = .ok (.iinc 1 1, 3) := by decide +kernel
theorem dX10_empties_90 : decode cX10_empties 90 = .ok (.goto (-14), 3) := by decide +kernel
theorem dX10_empties_93 : decode cX10_empties 93 = .ok (.return_, 1) := by decide +kernel
theorem dX10_leaves_0 : decode cX10_leaves 0 = .ok (.aload_n 0, 1) := by decide +kernel
theorem dX10_leaves_1 : decode cX10_leaves 1 = .ok (.getfield 7, 3) := by decide +kernel
theorem dX10_leaves_4 : decode cX10_leaves 4 = .ok (.iload_n 1, 1) := by decide +kernel
theorem dX10_leaves_5 : decode cX10_leaves 5 = .ok (.invokestatic 43, 3) := by decide +kernel
theorem dX10_leaves_8 : decode cX10_leaves 8 = .ok (.iconst (-1), 1) := by decide +kernel
theorem dX10_leaves_9 : decode cX10_leaves 9 = .ok (.iastore, 1) := by decide +kernel
theorem dX10_leaves_10 : decode cX10_leaves 10 = .ok (.aload_n 0, 1) := by decide +kernel
theorem dX10_leaves_11 : decode cX10_leaves 11 = .ok (.getfield 7, 3) := by decide +kernel
theorem dX10_leaves_14 : decode cX10_leaves 14 = .ok (.iload_n 1, 1) := by decide +kernel
theorem dX10_leaves_15 : decode cX10_leaves 15 = .ok (.invokestatic 43, 3) := by decide +kernel
theorem dX10_leaves_18 : decode cX10_leaves 18 = .ok (.iconst 2, 1) := by decide +kernel
theorem dX10_leaves_19 : decode cX10_leaves 19 = .ok (.iadd, 1) := by decide +kernel
theorem dX10_leaves_20 : decode cX10_leaves 20 = .ok (.iconst (-1), 1) := by decide +kernel
theorem dX10_leaves_21 : decode cX10_leaves 21 = .ok (.iastore, 1) := by decide +kernel
theorem dX10_leaves_22 : decode cX10_leaves 22 = .ok (.aload_n 0, 1) := by decide +kernel
theorem dX10_leaves_23 : decode cX10_leaves 23 = .ok (.getfield 7, 3) := by decide +kernel
theorem dX10_leaves_26 : decode cX10_leaves 26 = .ok (.iload_n 1, 1) := by decide +kernel
theorem dX10_leaves_27 : decode cX10_leaves 27 = .ok (.invokestatic 43, 3) := by decide +kernel
theorem dX10_leaves_30 : decode cX10_leaves 30 = .ok (.iconst 4, 1) := by decide +kernel
theorem dX10_leaves_31 : decode cX10_leaves 31 = .ok (.iadd, 1) := by decide +kernel
theorem dX10_leaves_32 : decode cX10_leaves 32 = .ok (.iconst (-1), 1) := by decide +kernel
theorem dX10_leaves_33 : decode cX10_leaves 33 = .ok (.iastore, 1) := by decide +kernel
theorem dX10_leaves_34 : decode cX10_leaves 34 = .ok (.return_, 1) := by decide +kernel
theorem dX10_net_0 : decode cX10_net 0 = .ok (.bipush 14, 2) := by decide +kernel
theorem dX10_net_2 : decode cX10_net 2 = .ok (.iconst 5, 1) := by decide +kernel
theorem dX10_net_3 : decode cX10_net 3 = .ok (.iload_n 0, 1) := by decide +kernel
theorem dX10_net_4 : decode cX10_net 4 = .ok (.imul, 1) := by decide +kernel
theorem dX10_net_5 : decode cX10_net 5 = .ok (.iadd, 1) := by decide +kernel
theorem dX10_net_6 : decode cX10_net 6 = .ok (.ireturn, 1) := by decide +kernel
theorem dX10_hostAt_0 : decode cX10_hostAt 0 = .ok (.bipush 74, 2) := by decide +kernel
theorem dX10_hostAt_2 : decode cX10_hostAt 2 = .ok (.bipush 6, 2) := by decide +kernel
theorem dX10_hostAt_4 : decode cX10_hostAt 4 = .ok (.iload_n 0, 1) := by decide +kernel
theorem dX10_hostAt_5 : decode cX10_hostAt 5 = .ok (.imul, 1) := by decide +kernel
theorem dX10_hostAt_6 : decode cX10_hostAt 6 = .ok (.iadd, 1) := by decide +kernel
theorem dX10_hostAt_7 : decode cX10_hostAt 7 = .ok (.ireturn, 1) := by decide +kernel
theorem dX10_note_0 : decode cX10_note 0 = .ok (.aload_n 0, 1) := by decide +kernel
theorem dX10_note_1 : decode cX10_note 1 = .ok (.getfield 46, 3) := by decide +kernel
theorem dX10_note_4 : decode cX10_note 4 = .ok (.bipush 6, 2) := by decide +kernel
theorem dX10_note_6 : decode cX10_note 6 = .ok (.if_icmp .ne 44, 3) := by decide +kernel
theorem dX10_note_9 : decode cX10_note 9 = .ok (.iconst 0, 1) := by decide +kernel
theorem dX10_note_10 : decode cX10_note 10 = .ok (.istore_n 1, 1) := by decide +kernel
theorem dX10_note_11 : decode cX10_note 11 = .ok (.iload_n 1, 1) := by decide +kernel
theorem dX10_note_12 : decode cX10_note 12 = .ok (.sipush 850, 3) := by decide +kernel
theorem dX10_note_15 : decode cX10_note 15 = .ok (.if_icmp .ge 25, 3) := by decide +kernel
theorem dX10_note_18 : decode cX10_note 18 = .ok (.aload_n 0, 1) := by decide +kernel
theorem dX10_note_19 : decode cX10_note 19 = .ok (.getfield 13, 3) := by decide +kernel
theorem dX10_note_22 : decode cX10_note 22 = .ok (.iload_n 1, 1) := by decide +kernel
theorem dX10_note_23 : decode cX10_note 23 = .ok (.aload_n 0, 1) := by decide +kernel
theorem dX10_note_24 : decode cX10_note 24 = .ok (.getfield 13, 3) := by decide +kernel
theorem dX10_note_27 : decode cX10_note 27 = .ok (.iload_n 1, 1) := by decide +kernel
theorem dX10_note_28 : decode cX10_note 28 = .ok (.sipush 170, 3) := by decide +kernel
theorem dX10_note_31 : decode cX10_note 31 = .ok (.iadd, 1) := by decide +kernel
theorem dX10_note_32 : decode cX10_note 32 = .ok (.iaload, 1) := by decide +kernel
theorem dX10_note_33 : decode cX10_note 33 = .ok (.iastore, 1) := by decide +kernel
theorem dX10_note_34 : decode cX10_note 34 = .ok (.iinc 1 1, 3) := by decide +kernel
theorem dX10_note_37 : decode cX10_note 37 = .ok (.goto (-26), 3) := by decide +kernel
theorem dX10_note_40 : decode cX10_note 40 = .ok (.aload_n 0, 1) := by decide +kernel
theorem dX10_note_41 : decode cX10_note 41 = .ok (.dup, 1) := by decide +kernel
theorem dX10_note_42 : decode cX10_note 42 = .ok (.getfield 46, 3) := by decide +kernel
theorem dX10_note_45 : decode cX10_note 45 = .ok (.iconst 1, 1) := by decide +kernel
theorem dX10_note_46 : decode cX10_note 46 = .ok (.isub, 1) := by decide +kernel
theorem dX10_note_47 : decode cX10_note 47 = .ok (.putfield 46, 3) := by decide +kernel
theorem dX10_note_50 : decode cX10_note 50 = .ok (.iconst 0, 1) := by decide +kernel
theorem dX10_note_51 : decode cX10_note 51 = .ok (.istore_n 1, 1) := by decide +kernel
theorem dX10_note_52 : decode cX10_note 52 = .ok (.iload_n 1, 1) := by decide +kernel
theorem dX10_note_53 : decode cX10_note 53 = .ok (.sipush 170, 3) := by decide +kernel
theorem dX10_note_56 : decode cX10_note 56 = .ok (.if_icmp .ge 30, 3) := by decide +kernel
theorem dX10_note_59 : decode cX10_note 59 = .ok (.aload_n 0, 1) := by decide +kernel
theorem dX10_note_60 : decode cX10_note 60 = .ok (.getfield 13, 3) := by decide +kernel
theorem dX10_note_63 : decode cX10_note 63 = .ok (.sipush 170, 3) := by decide +kernel
theorem dX10_note_66 : decode cX10_note 66 = .ok (.aload_n 0, 1) := by decide +kernel
theorem dX10_note_67 : decode cX10_note 67 = .ok (.getfield 46, 3) := by decide +kernel
theorem dX10_note_70 : decode cX10_note 70 = .ok (.imul, 1) := by decide +kernel
theorem dX10_note_71 : decode cX10_note 71 = .ok (.iload_n 1, 1) := by decide +kernel
theorem dX10_note_72 : decode cX10_note 72 = .ok (.iadd, 1) := by decide +kernel
theorem dX10_note_73 : decode cX10_note 73 = .ok (.aload_n 0, 1) := by decide +kernel
theorem dX10_note_74 : decode cX10_note 74 = .ok (.getfield 7, 3) := by decide +kernel
theorem dX10_note_77 : decode cX10_note 77 = .ok (.iload_n 1, 1) := by decide +kernel
theorem dX10_note_78 : decode cX10_note 78 = .ok (.iaload, 1) := by decide +kernel
theorem dX10_note_79 : decode cX10_note 79 = .ok (.iastore, 1) := by decide +kernel
theorem dX10_note_80 : decode cX10_note 80 = .ok (.iinc 1 1, 3) := by decide +kernel
theorem dX10_note_83 : decode cX10_note 83 = .ok (.goto (-31), 3) := by decide +kernel
theorem dX10_note_86 : decode cX10_note 86 = .ok (.aload_n 0, 1) := by decide +kernel
theorem dX10_note_87 : decode cX10_note 87 = .ok (.dup, 1) := by decide +kernel
theorem dX10_note_88 : decode cX10_note 88 = .ok (.getfield 46, 3) := by decide +kernel
theorem dX10_note_91 : decode cX10_note 91 = .ok (.iconst 1, 1) := by decide +kernel
theorem dX10_note_92 : decode cX10_note 92 = .ok (.iadd, 1) := by decide +kernel
theorem dX10_note_93 : decode cX10_note 93 = .ok (.putfield 46, 3) := by decide +kernel
theorem dX10_note_96 : decode cX10_note 96 = .ok (.return_, 1) := by decide +kernel
theorem dX10_undo_0 : decode cX10_undo 0 = .ok (.aload_n 0, 1) := by decide +kernel
theorem dX10_undo_1 : decode cX10_undo 1 = .ok (.getfield 46, 3) := by decide +kernel
theorem dX10_undo_4 : decode cX10_undo 4 = .ok (.ifCond .ne 6, 3) := by decide +kernel
theorem dX10_undo_7 : decode cX10_undo 7 = .ok (.bipush (-2), 2) := by decide +kernel
theorem dX10_undo_9 : decode cX10_undo 9 = .ok (.ireturn, 1) := by decide +kernel
theorem dX10_undo_10 : decode cX10_undo 10 = .ok (.aload_n 0, 1) := by decide +kernel
theorem dX10_undo_11 : decode cX10_undo 11 = .ok (.dup, 1) := by decide +kernel
theorem dX10_undo_12 : decode cX10_undo 12 = .ok (.getfield 46, 3) := by decide +kernel
theorem dX10_undo_15 : decode cX10_undo 15 = .ok (.iconst 1, 1) := by decide +kernel
theorem dX10_undo_16 : decode cX10_undo 16 = .ok (.isub, 1) := by decide +kernel
theorem dX10_undo_17 : decode cX10_undo 17 = .ok (.putfield 46, 3) := by decide +kernel
theorem dX10_undo_20 : decode cX10_undo 20 = .ok (.iconst 0, 1) := by decide +kernel
theorem dX10_undo_21 : decode cX10_undo 21 = .ok (.istore_n 1, 1) := by decide +kernel
theorem dX10_undo_22 : decode cX10_undo 22 = .ok (.iload_n 1, 1) := by decide +kernel
theorem dX10_undo_23 : decode cX10_undo 23 = .ok (.sipush 170, 3) := by decide +kernel
theorem dX10_undo_26 : decode cX10_undo 26 = .ok (.if_icmp .ge 30, 3) := by decide +kernel
theorem dX10_undo_29 : decode cX10_undo 29 = .ok (.aload_n 0, 1) := by decide +kernel
theorem dX10_undo_30 : decode cX10_undo 30 = .ok (.getfield 7, 3) := by decide +kernel
theorem dX10_undo_33 : decode cX10_undo 33 = .ok (.iload_n 1, 1) := by decide +kernel
theorem dX10_undo_34 : decode cX10_undo 34 = .ok (.aload_n 0, 1) := by decide +kernel
theorem dX10_undo_35 : decode cX10_undo 35 = .ok (.getfield 13, 3) := by decide +kernel
theorem dX10_undo_38 : decode cX10_undo 38 = .ok (.sipush 170, 3) := by decide +kernel
theorem dX10_undo_41 : decode cX10_undo 41 = .ok (.aload_n 0, 1) := by decide +kernel
theorem dX10_undo_42 : decode cX10_undo 42 = .ok (.getfield 46, 3) := by decide +kernel
theorem dX10_undo_45 : decode cX10_undo 45 = .ok (.imul, 1) := by decide +kernel
theorem dX10_undo_46 : decode cX10_undo 46 = .ok (.iload_n 1, 1) := by decide +kernel
theorem dX10_undo_47 : decode cX10_undo 47 = .ok (.iadd, 1) := by decide +kernel
theorem dX10_undo_48 : decode cX10_undo 48 = .ok (.iaload, 1) := by decide +kernel
theorem dX10_undo_49 : decode cX10_undo 49 = .ok (.iastore, 1) := by decide +kernel
theorem dX10_undo_50 : decode cX10_undo 50 = .ok (.iinc 1 1, 3) := by decide +kernel
theorem dX10_undo_53 : decode cX10_undo 53 = .ok (.goto (-31), 3) := by decide +kernel
theorem dX10_undo_56 : decode cX10_undo 56 = .ok (.aload_n 0, 1) := by decide +kernel
theorem dX10_undo_57 : decode cX10_undo 57 = .ok (.getfield 46, 3) := by decide +kernel
theorem dX10_undo_60 : decode cX10_undo 60 = .ok (.ireturn, 1) := by decide +kernel
theorem dX10_keepsApart_0 : decode cX10_keepsApart 0 = .ok (.iconst 0, 1) := by decide +kernel
theorem dX10_keepsApart_1 : decode cX10_keepsApart 1 = .ok (.istore_n 1, 1) := by decide +kernel
theorem dX10_keepsApart_2 : decode cX10_keepsApart 2 = .ok (.iload_n 1, 1) := by decide +kernel
theorem dX10_keepsApart_3 : decode cX10_keepsApart 3 = .ok (.sipush 170, 3) := by decide +kernel
theorem dX10_keepsApart_6 : decode cX10_keepsApart 6 = .ok (.if_icmp .ge 21, 3) := by decide +kernel
theorem dX10_keepsApart_9 : decode cX10_keepsApart 9 = .ok (.aload_n 0, 1) := by decide +kernel
theorem dX10_keepsApart_10 : decode cX10_keepsApart 10 = .ok (.getfield 20, 3) := by decide +kernel
theorem dX10_keepsApart_13 : decode cX10_keepsApart 13 = .ok (.iload_n 1, 1) := by decide +kernel
theorem dX10_keepsApart_14 : decode cX10_keepsApart 14 = .ok (.aload_n 0, 1) := by decide +kernel
theorem dX10_keepsApart_15 : decode cX10_keepsApart 15 = .ok (.getfield 7, 3) := by decide +kernel
theorem dX10_keepsApart_18 : decode cX10_keepsApart 18 = .ok (.iload_n 1, 1) := by decide +kernel
theorem dX10_keepsApart_19 : decode cX10_keepsApart 19 = .ok (.iaload, 1) := by decide +kernel
theorem dX10_keepsApart_20 : decode cX10_keepsApart 20 = .ok (.iastore, 1) := by decide +kernel
theorem dX10_keepsApart_21 : decode cX10_keepsApart 21 = .ok (.iinc 1 1, 3) := by decide +kernel
theorem dX10_keepsApart_24 : decode cX10_keepsApart 24 = .ok (.goto (-22), 3) := by decide +kernel
theorem dX10_keepsApart_27 : decode cX10_keepsApart 27 = .ok (.return_, 1) := by decide +kernel
theorem dX10_exchanges_0 : decode cX10_exchanges 0 = .ok (.iconst 0, 1) := by decide +kernel
theorem dX10_exchanges_1 : decode cX10_exchanges 1 = .ok (.istore_n 1, 1) := by decide +kernel
theorem dX10_exchanges_2 : decode cX10_exchanges 2 = .ok (.iload_n 1, 1) := by decide +kernel
theorem dX10_exchanges_3 : decode cX10_exchanges 3 = .ok (.sipush 170, 3) := by decide +kernel
theorem dX10_exchanges_6 : decode cX10_exchanges 6 = .ok (.if_icmp .ge 35, 3) := by decide +kernel
theorem dX10_exchanges_9 : decode cX10_exchanges 9 = .ok (.aload_n 0, 1) := by decide +kernel
theorem dX10_exchanges_10 : decode cX10_exchanges 10 = .ok (.getfield 7, 3) := by decide +kernel
theorem dX10_exchanges_13 : decode cX10_exchanges 13 = .ok (.iload_n 1, 1) := by decide +kernel
theorem dX10_exchanges_14 : decode cX10_exchanges 14 = .ok (.iaload, 1) := by decide +kernel
theorem dX10_exchanges_15 : decode cX10_exchanges 15 = .ok (.istore_n 2, 1) := by decide +kernel
theorem dX10_exchanges_16 : decode cX10_exchanges 16 = .ok (.aload_n 0, 1) := by decide +kernel
theorem dX10_exchanges_17 : decode cX10_exchanges 17 = .ok (.getfield 7, 3) := by decide +kernel
theorem dX10_exchanges_20 : decode cX10_exchanges 20 = .ok (.iload_n 1, 1) := by decide +kernel
theorem dX10_exchanges_21 : decode cX10_exchanges 21 = .ok (.aload_n 0, 1) := by decide +kernel
theorem dX10_exchanges_22 : decode cX10_exchanges 22 = .ok (.getfield 20, 3) := by decide +kernel
theorem dX10_exchanges_25 : decode cX10_exchanges 25 = .ok (.iload_n 1, 1) := by decide +kernel
theorem dX10_exchanges_26 : decode cX10_exchanges 26 = .ok (.iaload, 1) := by decide +kernel
theorem dX10_exchanges_27 : decode cX10_exchanges 27 = .ok (.iastore, 1) := by decide +kernel
theorem dX10_exchanges_28 : decode cX10_exchanges 28 = .ok (.aload_n 0, 1) := by decide +kernel
theorem dX10_exchanges_29 : decode cX10_exchanges 29 = .ok (.getfield 20, 3) := by decide +kernel
theorem dX10_exchanges_32 : decode cX10_exchanges 32 = .ok (.iload_n 1, 1) := by decide +kernel
theorem dX10_exchanges_33 : decode cX10_exchanges 33 = .ok (.iload_n 2, 1) := by decide +kernel
theorem dX10_exchanges_34 : decode cX10_exchanges 34 = .ok (.iastore, 1) := by decide +kernel
theorem dX10_exchanges_35 : decode cX10_exchanges 35 = .ok (.iinc 1 1, 3) := by decide +kernel
theorem dX10_exchanges_38 : decode cX10_exchanges 38 = .ok (.goto (-36), 3) := by decide +kernel
theorem dX10_exchanges_41 : decode cX10_exchanges 41 = .ok (.return_, 1) := by decide +kernel
theorem dX10_size_0 : decode cX10_size 0 = .ok (.iconst 1, 1) := by decide +kernel
theorem dX10_size_1 : decode cX10_size 1 = .ok (.bipush 16, 2) := by decide +kernel
theorem dX10_size_3 : decode cX10_size 3 = .ok (.iload_n 0, 1) := by decide +kernel
theorem dX10_size_4 : decode cX10_size 4 = .ok (.isub, 1) := by decide +kernel
theorem dX10_size_5 : decode cX10_size 5 = .ok (.ishl, 1) := by decide +kernel
theorem dX10_size_6 : decode cX10_size 6 = .ok (.ireturn, 1) := by decide +kernel
theorem dX10_blockAt_0 : decode cX10_blockAt 0 = .ok (.aload_n 0, 1) := by decide +kernel
theorem dX10_blockAt_1 : decode cX10_blockAt 1 = .ok (.getfield 7, 3) := by decide +kernel
theorem dX10_blockAt_4 : decode cX10_blockAt 4 = .ok (.iload_n 1, 1) := by decide +kernel
theorem dX10_blockAt_5 : decode cX10_blockAt 5 = .ok (.iconst 2, 1) := by decide +kernel
theorem dX10_blockAt_6 : decode cX10_blockAt 6 = .ok (.idiv, 1) := by decide +kernel
theorem dX10_blockAt_7 : decode cX10_blockAt 7 = .ok (.invokestatic 35, 3) := by decide +kernel
theorem dX10_blockAt_10 : decode cX10_blockAt 10 = .ok (.iconst 2, 1) := by decide +kernel
theorem dX10_blockAt_11 : decode cX10_blockAt 11 = .ok (.iload_n 1, 1) := by decide +kernel
theorem dX10_blockAt_12 : decode cX10_blockAt 12 = .ok (.iconst 2, 1) := by decide +kernel
theorem dX10_blockAt_13 : decode cX10_blockAt 13 = .ok (.irem, 1) := by decide +kernel
theorem dX10_blockAt_14 : decode cX10_blockAt 14 = .ok (.imul, 1) := by decide +kernel
theorem dX10_blockAt_15 : decode cX10_blockAt 15 = .ok (.iadd, 1) := by decide +kernel
theorem dX10_blockAt_16 : decode cX10_blockAt 16 = .ok (.iaload, 1) := by decide +kernel
theorem dX10_blockAt_17 : decode cX10_blockAt 17 = .ok (.ireturn, 1) := by decide +kernel
theorem dX10_lengthAt_0 : decode cX10_lengthAt 0 = .ok (.aload_n 0, 1) := by decide +kernel
theorem dX10_lengthAt_1 : decode cX10_lengthAt 1 = .ok (.getfield 7, 3) := by decide +kernel
theorem dX10_lengthAt_4 : decode cX10_lengthAt 4 = .ok (.iload_n 1, 1) := by decide +kernel
theorem dX10_lengthAt_5 : decode cX10_lengthAt 5 = .ok (.iconst 2, 1) := by decide +kernel
theorem dX10_lengthAt_6 : decode cX10_lengthAt 6 = .ok (.idiv, 1) := by decide +kernel
theorem dX10_lengthAt_7 : decode cX10_lengthAt 7 = .ok (.invokestatic 35, 3) := by decide +kernel
theorem dX10_lengthAt_10 : decode cX10_lengthAt 10 = .ok (.iconst 2, 1) := by decide +kernel
theorem dX10_lengthAt_11 : decode cX10_lengthAt 11 = .ok (.iload_n 1, 1) := by decide +kernel
theorem dX10_lengthAt_12 : decode cX10_lengthAt 12 = .ok (.iconst 2, 1) := by decide +kernel
theorem dX10_lengthAt_13 : decode cX10_lengthAt 13 = .ok (.irem, 1) := by decide +kernel
theorem dX10_lengthAt_14 : decode cX10_lengthAt 14 = .ok (.imul, 1) := by decide +kernel
theorem dX10_lengthAt_15 : decode cX10_lengthAt 15 = .ok (.iadd, 1) := by decide +kernel
theorem dX10_lengthAt_16 : decode cX10_lengthAt 16 = .ok (.iconst 1, 1) := by decide +kernel
theorem dX10_lengthAt_17 : decode cX10_lengthAt 17 = .ok (.iadd, 1) := by decide +kernel
theorem dX10_lengthAt_18 : decode cX10_lengthAt 18 = .ok (.iaload, 1) := by decide +kernel
theorem dX10_lengthAt_19 : decode cX10_lengthAt 19 = .ok (.ireturn, 1) := by decide +kernel
theorem dX10_assignedIn_0 : decode cX10_assignedIn 0 = .ok (.iconst 0, 1) := by decide +kernel
theorem dX10_assignedIn_1 : decode cX10_assignedIn 1 = .ok (.istore_n 3, 1) := by decide +kernel
theorem dX10_assignedIn_2 : decode cX10_assignedIn 2 = .ok (.iconst 0, 1) := by decide +kernel
theorem dX10_assignedIn_3 : decode cX10_assignedIn 3 = .ok (.istore 4, 2) := by decide +kernel
theorem dX10_assignedIn_5 : decode cX10_assignedIn 5 = .ok (.iload 4, 2) := by decide +kernel
theorem dX10_assignedIn_7 : decode cX10_assignedIn 7 = .ok (.bipush 24, 2) := by decide +kernel
theorem dX10_assignedIn_9 : decode cX10_assignedIn 9 = .ok (.if_icmp .ge 93, 3) := by decide +kernel
theorem dX10_assignedIn_12 : decode cX10_assignedIn 12 = .ok (.aload_n 0, 1) := by decide +kernel
theorem dX10_assignedIn_13 : decode cX10_assignedIn 13 = .ok (.iload 4, 2) := by decide +kernel
theorem dX10_assignedIn_15 : decode cX10_assignedIn 15 = .ok (.invokevirtual 50, 3) := by decide +kernel
theorem dX10_assignedIn_18 : decode cX10_assignedIn 18 = .ok (.istore 5, 2) := by decide +kernel
theorem dX10_assignedIn_20 : decode cX10_assignedIn 20 = .ok (.iload 5, 2) := by decide +kernel
theorem dX10_assignedIn_22 : decode cX10_assignedIn 22 = .ok (.ifCond .lt 74, 3) := by decide +kernel
theorem dX10_assignedIn_25 : decode cX10_assignedIn 25 = .ok (.iload 5, 2) := by decide +kernel
theorem dX10_assignedIn_27 : decode cX10_assignedIn 27 = .ok (.iload_n 1, 1) := by decide +kernel
theorem dX10_assignedIn_28 : decode cX10_assignedIn 28 = .ok (.if_icmp .le 8, 3) := by decide +kernel
theorem dX10_assignedIn_31 : decode cX10_assignedIn 31 = .ok (.iload 5, 2) := by decide +kernel
theorem dX10_assignedIn_33 : decode cX10_assignedIn 33 = .ok (.goto 4, 3) := by decide +kernel
theorem dX10_assignedIn_36 : decode cX10_assignedIn 36 = .ok (.iload_n 1, 1) := by decide +kernel
theorem dX10_assignedIn_37 : decode cX10_assignedIn 37 = .ok (.istore 6, 2) := by decide +kernel
theorem dX10_assignedIn_39 : decode cX10_assignedIn 39 = .ok (.iload 5, 2) := by decide +kernel
theorem dX10_assignedIn_41 : decode cX10_assignedIn 41 = .ok (.aload_n 0, 1) := by decide +kernel
theorem dX10_assignedIn_42 : decode cX10_assignedIn 42 = .ok (.iload 4, 2) := by decide +kernel
theorem dX10_assignedIn_44 : decode cX10_assignedIn 44 = .ok (.invokevirtual 53, 3) := by decide +kernel
theorem dX10_assignedIn_47 : decode cX10_assignedIn 47 = .ok (.invokestatic 56, 3) := by decide +kernel
theorem dX10_assignedIn_50 : decode cX10_assignedIn 50 = .ok (.iadd, 1) := by decide +kernel
theorem dX10_assignedIn_51 : decode cX10_assignedIn 51 = .ok (.istore 7, 2) := by decide +kernel
theorem dX10_assignedIn_53 : decode cX10_assignedIn 53 = .ok (.iload 7, 2) := by decide +kernel
theorem dX10_assignedIn_55 : decode cX10_assignedIn 55 = .ok (.iload_n 1, 1) := by decide +kernel
theorem dX10_assignedIn_56 : decode cX10_assignedIn 56 = .ok (.iload_n 2, 1) := by decide +kernel
theorem dX10_assignedIn_57 : decode cX10_assignedIn 57 = .ok (.invokestatic 56, 3) := by decide +kernel
theorem dX10_assignedIn_60 : decode cX10_assignedIn 60 = .ok (.iadd, 1) := by decide +kernel
theorem dX10_assignedIn_61 : decode cX10_assignedIn 61 = .ok (.if_icmp .ge 8, 3) := by decide +kernel
theorem dX10_assignedIn_64 : decode cX10_assignedIn 64 = .ok (.iload 7, 2) := by decide +kernel
theorem dX10_assignedIn_66 : decode cX10_assignedIn 66 = .ok (.goto 9, 3) := by decide +kernel
theorem dX10_assignedIn_69 : decode cX10_assignedIn 69 = .ok (.iload_n 1, 1) := by decide +kernel
theorem dX10_assignedIn_70 : decode cX10_assignedIn 70 = .ok (.iload_n 2, 1) := by decide +kernel
theorem dX10_assignedIn_71 : decode cX10_assignedIn 71 = .ok (.invokestatic 56, 3) := by decide +kernel
theorem dX10_assignedIn_74 : decode cX10_assignedIn 74 = .ok (.iadd, 1) := by decide +kernel
theorem dX10_assignedIn_75 : decode cX10_assignedIn 75 = .ok (.istore 7, 2) := by decide +kernel
theorem dX10_assignedIn_77 : decode cX10_assignedIn 77 = .ok (.iload_n 3, 1) := by decide +kernel
theorem dX10_assignedIn_78 : decode cX10_assignedIn 78 = .ok (.iload 7, 2) := by decide +kernel
theorem dX10_assignedIn_80 : decode cX10_assignedIn 80 = .ok (.iload 6, 2) := by decide +kernel
theorem dX10_assignedIn_82 : decode cX10_assignedIn 82 = .ok (.if_icmp .le 11, 3) := by decide +kernel
theorem dX10_assignedIn_85 : decode cX10_assignedIn 85 = .ok (.iload 7, 2) := by decide +kernel
theorem dX10_assignedIn_87 : decode cX10_assignedIn 87 = .ok (.iload 6, 2) := by decide +kernel
theorem dX10_assignedIn_89 : decode cX10_assignedIn 89 = .ok (.isub, 1) := by decide +kernel
theorem dX10_assignedIn_90 : decode cX10_assignedIn 90 = .ok (.goto 4, 3) := by decide +kernel
theorem dX10_assignedIn_93 : decode cX10_assignedIn 93 = .ok (.iconst 0, 1) := by decide +kernel
theorem dX10_assignedIn_94 : decode cX10_assignedIn 94 = .ok (.iadd, 1) := by decide +kernel
theorem dX10_assignedIn_95 : decode cX10_assignedIn 95 = .ok (.istore_n 3, 1) := by decide +kernel
theorem dX10_assignedIn_96 : decode cX10_assignedIn 96 = .ok (.iinc 4 1, 3) := by decide +kernel
theorem dX10_assignedIn_99 : decode cX10_assignedIn 99 = .ok (.goto (-94), 3) := by decide +kernel
theorem dX10_assignedIn_102 : decode cX10_assignedIn 102 = .ok (.iload_n 3, 1) := by decide +kernel
theorem dX10_assignedIn_103 : decode cX10_assignedIn 103 = .ok (.ireturn, 1) := by decide +kernel
theorem dX10_findsFree_0 : decode cX10_findsFree 0 = .ok (.aload_n 0, 1) := by decide +kernel
theorem dX10_findsFree_1 : decode cX10_findsFree 1 = .ok (.getfield 7, 3) := by decide +kernel
theorem dX10_findsFree_4 : decode cX10_findsFree 4 = .ok (.bipush 6, 2) := by decide +kernel
theorem dX10_findsFree_6 : decode cX10_findsFree 6 = .ok (.iconst 2, 1) := by decide +kernel
theorem dX10_findsFree_7 : decode cX10_findsFree 7 = .ok (.iload_n 1, 1) := by decide +kernel
theorem dX10_findsFree_8 : decode cX10_findsFree 8 = .ok (.imul, 1) := by decide +kernel
theorem dX10_findsFree_9 : decode cX10_findsFree 9 = .ok (.iadd, 1) := by decide +kernel
theorem dX10_findsFree_10 : decode cX10_findsFree 10 = .ok (.iaload, 1) := by decide +kernel
theorem dX10_findsFree_11 : decode cX10_findsFree 11 = .ok (.istore_n 2, 1) := by decide +kernel
theorem dX10_findsFree_12 : decode cX10_findsFree 12 = .ok (.iload_n 2, 1) := by decide +kernel
theorem dX10_findsFree_13 : decode cX10_findsFree 13 = .ok (.aload_n 0, 1) := by decide +kernel
theorem dX10_findsFree_14 : decode cX10_findsFree 14 = .ok (.getfield 7, 3) := by decide +kernel
theorem dX10_findsFree_17 : decode cX10_findsFree 17 = .ok (.bipush 6, 2) := by decide +kernel
theorem dX10_findsFree_19 : decode cX10_findsFree 19 = .ok (.iconst 2, 1) := by decide +kernel
theorem dX10_findsFree_20 : decode cX10_findsFree 20 = .ok (.iload_n 1, 1) := by decide +kernel
theorem dX10_findsFree_21 : decode cX10_findsFree 21 = .ok (.imul, 1) := by decide +kernel
theorem dX10_findsFree_22 : decode cX10_findsFree 22 = .ok (.iadd, 1) := by decide +kernel
theorem dX10_findsFree_23 : decode cX10_findsFree 23 = .ok (.iconst 1, 1) := by decide +kernel
theorem dX10_findsFree_24 : decode cX10_findsFree 24 = .ok (.iadd, 1) := by decide +kernel
theorem dX10_findsFree_25 : decode cX10_findsFree 25 = .ok (.iaload, 1) := by decide +kernel
theorem dX10_findsFree_26 : decode cX10_findsFree 26 = .ok (.invokestatic 56, 3) := by decide +kernel
theorem dX10_findsFree_29 : decode cX10_findsFree 29 = .ok (.iadd, 1) := by decide +kernel
theorem dX10_findsFree_30 : decode cX10_findsFree 30 = .ok (.istore_n 3, 1) := by decide +kernel
theorem dX10_findsFree_31 : decode cX10_findsFree 31 = .ok (.iload_n 2, 1) := by decide +kernel
theorem dX10_findsFree_32 : decode cX10_findsFree 32 = .ok (.iload_n 3, 1) := by decide +kernel
theorem dX10_findsFree_33 : decode cX10_findsFree 33 = .ok (.if_icmp .ge 123, 3) := by decide +kernel
theorem dX10_findsFree_36 : decode cX10_findsFree 36 = .ok (.aload_n 0, 1) := by decide +kernel
theorem dX10_findsFree_37 : decode cX10_findsFree 37 = .ok (.getfield 7, 3) := by decide +kernel
theorem dX10_findsFree_40 : decode cX10_findsFree 40 = .ok (.bipush 6, 2) := by decide +kernel
theorem dX10_findsFree_42 : decode cX10_findsFree 42 = .ok (.iconst 2, 1) := by decide +kernel
theorem dX10_findsFree_43 : decode cX10_findsFree 43 = .ok (.iload_n 1, 1) := by decide +kernel
theorem dX10_findsFree_44 : decode cX10_findsFree 44 = .ok (.imul, 1) := by decide +kernel
theorem dX10_findsFree_45 : decode cX10_findsFree 45 = .ok (.iadd, 1) := by decide +kernel
theorem dX10_findsFree_46 : decode cX10_findsFree 46 = .ok (.iconst 1, 1) := by decide +kernel
theorem dX10_findsFree_47 : decode cX10_findsFree 47 = .ok (.iadd, 1) := by decide +kernel
theorem dX10_findsFree_48 : decode cX10_findsFree 48 = .ok (.iaload, 1) := by decide +kernel
theorem dX10_findsFree_49 : decode cX10_findsFree 49 = .ok (.istore 4, 2) := by decide +kernel
theorem dX10_findsFree_51 : decode cX10_findsFree 51 = .ok (.iload 4, 2) := by decide +kernel
theorem dX10_findsFree_53 : decode cX10_findsFree 53 = .ok (.bipush 17, 2) := by decide +kernel
theorem dX10_findsFree_55 : decode cX10_findsFree 55 = .ok (.if_icmp .ge 29, 3) := by decide +kernel
theorem dX10_findsFree_58 : decode cX10_findsFree 58 = .ok (.iload_n 2, 1) := by decide +kernel
theorem dX10_findsFree_59 : decode cX10_findsFree 59 = .ok (.iload 4, 2) := by decide +kernel
theorem dX10_findsFree_61 : decode cX10_findsFree 61 = .ok (.invokestatic 56, 3) := by decide +kernel
theorem dX10_findsFree_64 : decode cX10_findsFree 64 = .ok (.irem, 1) := by decide +kernel
theorem dX10_findsFree_65 : decode cX10_findsFree 65 = .ok (.ifCond .ne 13, 3) := by decide +kernel
theorem dX10_findsFree_68 : decode cX10_findsFree 68 = .ok (.aload_n 0, 1) := by decide +kernel
theorem dX10_findsFree_69 : decode cX10_findsFree 69 = .ok (.iload_n 2, 1) := by decide +kernel
theorem dX10_findsFree_70 : decode cX10_findsFree 70 = .ok (.iload 4, 2) := by decide +kernel
theorem dX10_findsFree_72 : decode cX10_findsFree 72 = .ok (.invokevirtual 59, 3) := by decide +kernel
theorem dX10_findsFree_75 : decode cX10_findsFree 75 = .ok (.ifCond .le 9, 3) := by decide +kernel
theorem dX10_findsFree_78 : decode cX10_findsFree 78 = .ok (.iinc 4 1, 3) := by decide +kernel
theorem dX10_findsFree_81 : decode cX10_findsFree 81 = .ok (.goto (-30), 3) := by decide +kernel
theorem dX10_findsFree_84 : decode cX10_findsFree 84 = .ok (.iload 4, 2) := by decide +kernel
theorem dX10_findsFree_86 : decode cX10_findsFree 86 = .ok (.bipush 17, 2) := by decide +kernel
theorem dX10_findsFree_88 : decode cX10_findsFree 88 = .ok (.if_icmp .ge 59, 3) := by decide +kernel
theorem dX10_findsFree_91 : decode cX10_findsFree 91 = .ok (.aload_n 0, 1) := by decide +kernel
theorem dX10_findsFree_92 : decode cX10_findsFree 92 = .ok (.getfield 23, 3) := by decide +kernel
theorem dX10_findsFree_95 : decode cX10_findsFree 95 = .ok (.aload_n 0, 1) := by decide +kernel
theorem dX10_findsFree_96 : decode cX10_findsFree 96 = .ok (.getfield 63, 3) := by decide +kernel
theorem dX10_findsFree_99 : decode cX10_findsFree 99 = .ok (.iload_n 2, 1) := by decide +kernel
theorem dX10_findsFree_100 : decode cX10_findsFree 100 = .ok (.iastore, 1) := by decide +kernel
theorem dX10_findsFree_101 : decode cX10_findsFree 101 = .ok (.aload_n 0, 1) := by decide +kernel
theorem dX10_findsFree_102 : decode cX10_findsFree 102 = .ok (.getfield 26, 3) := by decide +kernel
theorem dX10_findsFree_105 : decode cX10_findsFree 105 = .ok (.aload_n 0, 1) := by decide +kernel
theorem dX10_findsFree_106 : decode cX10_findsFree 106 = .ok (.getfield 63, 3) := by decide +kernel
theorem dX10_findsFree_109 : decode cX10_findsFree 109 = .ok (.iload 4, 2) := by decide +kernel
theorem dX10_findsFree_111 : decode cX10_findsFree 111 = .ok (.iastore, 1) := by decide +kernel
theorem dX10_findsFree_112 : decode cX10_findsFree 112 = .ok (.aload_n 0, 1) := by decide +kernel
theorem dX10_findsFree_113 : decode cX10_findsFree 113 = .ok (.dup, 1) := by decide +kernel
theorem dX10_findsFree_114 : decode cX10_findsFree 114 = .ok (.getfield 63, 3) := by decide +kernel
theorem dX10_findsFree_117 : decode cX10_findsFree 117 = .ok (.iconst 1, 1) := by decide +kernel
theorem dX10_findsFree_118 : decode cX10_findsFree 118 = .ok (.iadd, 1) := by decide +kernel
theorem dX10_findsFree_119 : decode cX10_findsFree 119 = .ok (.putfield 63, 3) := by decide +kernel
theorem dX10_findsFree_122 : decode cX10_findsFree 122 = .ok (.aload_n 0, 1) := by decide +kernel
theorem dX10_findsFree_123 : decode cX10_findsFree 123 = .ok (.dup, 1) := by decide +kernel
theorem dX10_findsFree_124 : decode cX10_findsFree 124 = .ok (.getfield 66, 3) := by decide +kernel
theorem dX10_findsFree_127 : decode cX10_findsFree 127 = .ok (.iload 4, 2) := by decide +kernel
theorem dX10_findsFree_129 : decode cX10_findsFree 129 = .ok (.invokestatic 56, 3) := by decide +kernel
theorem dX10_findsFree_132 : decode cX10_findsFree 132 = .ok (.iadd, 1) := by decide +kernel
theorem dX10_findsFree_133 : decode cX10_findsFree 133 = .ok (.putfield 66, 3) := by decide +kernel
theorem dX10_findsFree_136 : decode cX10_findsFree 136 = .ok (.iload_n 2, 1) := by decide +kernel
theorem dX10_findsFree_137 : decode cX10_findsFree 137 = .ok (.iload 4, 2) := by decide +kernel
theorem dX10_findsFree_139 : decode cX10_findsFree 139 = .ok (.invokestatic 56, 3) := by decide +kernel
theorem dX10_findsFree_142 : decode cX10_findsFree 142 = .ok (.iadd, 1) := by decide +kernel
theorem dX10_findsFree_143 : decode cX10_findsFree 143 = .ok (.istore_n 2, 1) := by decide +kernel
theorem dX10_findsFree_144 : decode cX10_findsFree 144 = .ok (.goto 9, 3) := by decide +kernel
theorem dX10_findsFree_147 : decode cX10_findsFree 147 = .ok (.aload_n 0, 1) := by decide +kernel
theorem dX10_findsFree_148 : decode cX10_findsFree 148 = .ok (.iload_n 2, 1) := by decide +kernel
theorem dX10_findsFree_149 : decode cX10_findsFree 149 = .ok (.invokevirtual 69, 3) := by decide +kernel
theorem dX10_findsFree_152 : decode cX10_findsFree 152 = .ok (.istore_n 2, 1) := by decide +kernel
theorem dX10_findsFree_153 : decode cX10_findsFree 153 = .ok (.goto (-122), 3) := by decide +kernel
theorem dX10_findsFree_156 : decode cX10_findsFree 156 = .ok (.return_, 1) := by decide +kernel
theorem dX10_behind_0 : decode cX10_behind 0 = .ok (.iload_n 1, 1) := by decide +kernel
theorem dX10_behind_1 : decode cX10_behind 1 = .ok (.iconst 1, 1) := by decide +kernel
theorem dX10_behind_2 : decode cX10_behind 2 = .ok (.iadd, 1) := by decide +kernel
theorem dX10_behind_3 : decode cX10_behind 3 = .ok (.istore_n 2, 1) := by decide +kernel
theorem dX10_behind_4 : decode cX10_behind 4 = .ok (.iconst 0, 1) := by decide +kernel
theorem dX10_behind_5 : decode cX10_behind 5 = .ok (.istore_n 3, 1) := by decide +kernel
theorem dX10_behind_6 : decode cX10_behind 6 = .ok (.iload_n 3, 1) := by decide +kernel
theorem dX10_behind_7 : decode cX10_behind 7 = .ok (.bipush 24, 2) := by decide +kernel
theorem dX10_behind_9 : decode cX10_behind 9 = .ok (.if_icmp .ge 58, 3) := by decide +kernel
theorem dX10_behind_12 : decode cX10_behind 12 = .ok (.aload_n 0, 1) := by decide +kernel
theorem dX10_behind_13 : decode cX10_behind 13 = .ok (.iload_n 3, 1) := by decide +kernel
theorem dX10_behind_14 : decode cX10_behind 14 = .ok (.invokevirtual 50, 3) := by decide +kernel
theorem dX10_behind_17 : decode cX10_behind 17 = .ok (.istore 4, 2) := by decide +kernel
theorem dX10_behind_19 : decode cX10_behind 19 = .ok (.iload 4, 2) := by decide +kernel
theorem dX10_behind_21 : decode cX10_behind 21 = .ok (.ifCond .lt 38, 3) := by decide +kernel
theorem dX10_behind_24 : decode cX10_behind 24 = .ok (.iload 4, 2) := by decide +kernel
theorem dX10_behind_26 : decode cX10_behind 26 = .ok (.iload_n 1, 1) := by decide +kernel
theorem dX10_behind_27 : decode cX10_behind 27 = .ok (.if_icmp .gt 32, 3) := by decide +kernel
theorem dX10_behind_30 : decode cX10_behind 30 = .ok (.iload 4, 2) := by decide +kernel
theorem dX10_behind_32 : decode cX10_behind 32 = .ok (.aload_n 0, 1) := by decide +kernel
theorem dX10_behind_33 : decode cX10_behind 33 = .ok (.iload_n 3, 1) := by decide +kernel
theorem dX10_behind_34 : decode cX10_behind 34 = .ok (.invokevirtual 53, 3) := by decide +kernel
theorem dX10_behind_37 : decode cX10_behind 37 = .ok (.invokestatic 56, 3) := by decide +kernel
theorem dX10_behind_40 : decode cX10_behind 40 = .ok (.iadd, 1) := by decide +kernel
theorem dX10_behind_41 : decode cX10_behind 41 = .ok (.iload_n 1, 1) := by decide +kernel
theorem dX10_behind_42 : decode cX10_behind 42 = .ok (.if_icmp .le 17, 3) := by decide +kernel
theorem dX10_behind_45 : decode cX10_behind 45 = .ok (.iload 4, 2) := by decide +kernel
theorem dX10_behind_47 : decode cX10_behind 47 = .ok (.aload_n 0, 1) := by decide +kernel
theorem dX10_behind_48 : decode cX10_behind 48 = .ok (.iload_n 3, 1) := by decide +kernel
theorem dX10_behind_49 : decode cX10_behind 49 = .ok (.invokevirtual 53, 3) := by decide +kernel
theorem dX10_behind_52 : decode cX10_behind 52 = .ok (.invokestatic 56, 3) := by decide +kernel
theorem dX10_behind_55 : decode cX10_behind 55 = .ok (.iadd, 1) := by decide +kernel
theorem dX10_behind_56 : decode cX10_behind 56 = .ok (.goto 4, 3) := by decide +kernel
theorem dX10_behind_59 : decode cX10_behind 59 = .ok (.iload_n 2, 1) := by decide +kernel
theorem dX10_behind_60 : decode cX10_behind 60 = .ok (.istore_n 2, 1) := by decide +kernel
theorem dX10_behind_61 : decode cX10_behind 61 = .ok (.iinc 3 1, 3) := by decide +kernel
theorem dX10_behind_64 : decode cX10_behind 64 = .ok (.goto (-58), 3) := by decide +kernel
theorem dX10_behind_67 : decode cX10_behind 67 = .ok (.iload_n 2, 1) := by decide +kernel
theorem dX10_behind_68 : decode cX10_behind 68 = .ok (.ireturn, 1) := by decide +kernel
theorem dX10_findsAllFree_0 : decode cX10_findsAllFree 0 = .ok (.aload_n 0, 1) := by decide +kernel
theorem dX10_findsAllFree_1 : decode cX10_findsAllFree 1 = .ok (.iconst 0, 1) := by decide +kernel
theorem dX10_findsAllFree_2 : decode cX10_findsAllFree 2 = .ok (.putfield 63, 3) := by decide +kernel
theorem dX10_findsAllFree_5 : decode cX10_findsAllFree 5 = .ok (.aload_n 0, 1) := by decide +kernel
theorem dX10_findsAllFree_6 : decode cX10_findsAllFree 6 = .ok (.iconst 0, 1) := by decide +kernel
theorem dX10_findsAllFree_7 : decode cX10_findsAllFree 7 = .ok (.putfield 66, 3) := by decide +kernel
theorem dX10_findsAllFree_10 : decode cX10_findsAllFree 10 = .ok (.iconst 0, 1) := by decide +kernel
theorem dX10_findsAllFree_11 : decode cX10_findsAllFree 11 = .ok (.istore_n 1, 1) := by decide +kernel
theorem dX10_findsAllFree_12 : decode cX10_findsAllFree 12 = .ok (.iload_n 1, 1) := by decide +kernel
theorem dX10_findsAllFree_13 : decode cX10_findsAllFree 13 = .ok (.aload_n 0, 1) := by decide +kernel
theorem dX10_findsAllFree_14 : decode cX10_findsAllFree 14 = .ok (.getfield 7, 3) := by decide +kernel
theorem dX10_findsAllFree_17 : decode cX10_findsAllFree 17 = .ok (.iconst 5, 1) := by decide +kernel
theorem dX10_findsAllFree_18 : decode cX10_findsAllFree 18 = .ok (.iaload, 1) := by decide +kernel
theorem dX10_findsAllFree_19 : decode cX10_findsAllFree 19 = .ok (.if_icmp .ge 14, 3) := by decide +kernel
theorem dX10_findsAllFree_22 : decode cX10_findsAllFree 22 = .ok (.aload_n 0, 1) := by decide +kernel
theorem dX10_findsAllFree_23 : decode cX10_findsAllFree 23 = .ok (.iload_n 1, 1) := by decide +kernel
theorem dX10_findsAllFree_24 : decode cX10_findsAllFree 24 = .ok (.invokevirtual 72, 3) := by decide +kernel
theorem dX10_findsAllFree_27 : decode cX10_findsAllFree 27 = .ok (.iinc 1 1, 3) := by decide +kernel
theorem dX10_findsAllFree_30 : decode cX10_findsAllFree 30 = .ok (.goto (-18), 3) := by decide +kernel
theorem dX10_findsAllFree_33 : decode cX10_findsAllFree 33 = .ok (.return_, 1) := by decide +kernel
theorem dX10_isBetter_0 : decode cX10_isBetter 0 = .ok (.aload_n 0, 1) := by decide +kernel
theorem dX10_isBetter_1 : decode cX10_isBetter 1 = .ok (.getfield 26, 3) := by decide +kernel
theorem dX10_isBetter_4 : decode cX10_isBetter 4 = .ok (.iload_n 1, 1) := by decide +kernel
theorem dX10_isBetter_5 : decode cX10_isBetter 5 = .ok (.iaload, 1) := by decide +kernel
theorem dX10_isBetter_6 : decode cX10_isBetter 6 = .ok (.aload_n 0, 1) := by decide +kernel
theorem dX10_isBetter_7 : decode cX10_isBetter 7 = .ok (.getfield 26, 3) := by decide +kernel
theorem dX10_isBetter_10 : decode cX10_isBetter 10 = .ok (.iload_n 2, 1) := by decide +kernel
theorem dX10_isBetter_11 : decode cX10_isBetter 11 = .ok (.iaload, 1) := by decide +kernel
theorem dX10_isBetter_12 : decode cX10_isBetter 12 = .ok (.isub, 1) := by decide +kernel
theorem dX10_isBetter_13 : decode cX10_isBetter 13 = .ok (.istore_n 3, 1) := by decide +kernel
theorem dX10_isBetter_14 : decode cX10_isBetter 14 = .ok (.aload_n 0, 1) := by decide +kernel
theorem dX10_isBetter_15 : decode cX10_isBetter 15 = .ok (.getfield 23, 3) := by decide +kernel
theorem dX10_isBetter_18 : decode cX10_isBetter 18 = .ok (.iload_n 1, 1) := by decide +kernel
theorem dX10_isBetter_19 : decode cX10_isBetter 19 = .ok (.iaload, 1) := by decide +kernel
theorem dX10_isBetter_20 : decode cX10_isBetter 20 = .ok (.aload_n 0, 1) := by decide +kernel
theorem dX10_isBetter_21 : decode cX10_isBetter 21 = .ok (.getfield 23, 3) := by decide +kernel
theorem dX10_isBetter_24 : decode cX10_isBetter 24 = .ok (.iload_n 2, 1) := by decide +kernel
theorem dX10_isBetter_25 : decode cX10_isBetter 25 = .ok (.iaload, 1) := by decide +kernel
theorem dX10_isBetter_26 : decode cX10_isBetter 26 = .ok (.isub, 1) := by decide +kernel
theorem dX10_isBetter_27 : decode cX10_isBetter 27 = .ok (.istore 4, 2) := by decide +kernel
theorem dX10_isBetter_29 : decode cX10_isBetter 29 = .ok (.aload_n 0, 1) := by decide +kernel
theorem dX10_isBetter_30 : decode cX10_isBetter 30 = .ok (.getfield 7, 3) := by decide +kernel
theorem dX10_isBetter_33 : decode cX10_isBetter 33 = .ok (.iconst 3, 1) := by decide +kernel
theorem dX10_isBetter_34 : decode cX10_isBetter 34 = .ok (.iaload, 1) := by decide +kernel
theorem dX10_isBetter_35 : decode cX10_isBetter 35 = .ok (.tableswitch 74 0 2 #[25, 36, 55], 25) := by decide +kernel
theorem dX10_isBetter_60 : decode cX10_isBetter 60 = .ok (.iload 4, 2) := by decide +kernel
theorem dX10_isBetter_62 : decode cX10_isBetter 62 = .ok (.ifCond .ge 7, 3) := by decide +kernel
theorem dX10_isBetter_65 : decode cX10_isBetter 65 = .ok (.iconst 1, 1) := by decide +kernel
theorem dX10_isBetter_66 : decode cX10_isBetter 66 = .ok (.goto 4, 3) := by decide +kernel
theorem dX10_isBetter_69 : decode cX10_isBetter 69 = .ok (.iconst 0, 1) := by decide +kernel
theorem dX10_isBetter_70 : decode cX10_isBetter 70 = .ok (.ireturn, 1) := by decide +kernel
theorem dX10_isBetter_71 : decode cX10_isBetter 71 = .ok (.iload_n 3, 1) := by decide +kernel
theorem dX10_isBetter_72 : decode cX10_isBetter 72 = .ok (.ifCond .gt 12, 3) := by decide +kernel
theorem dX10_isBetter_75 : decode cX10_isBetter 75 = .ok (.iload_n 3, 1) := by decide +kernel
theorem dX10_isBetter_76 : decode cX10_isBetter 76 = .ok (.ifCond .ne 12, 3) := by decide +kernel
theorem dX10_isBetter_79 : decode cX10_isBetter 79 = .ok (.iload 4, 2) := by decide +kernel
theorem dX10_isBetter_81 : decode cX10_isBetter 81 = .ok (.ifCond .ge 7, 3) := by decide +kernel
theorem dX10_isBetter_84 : decode cX10_isBetter 84 = .ok (.iconst 1, 1) := by decide +kernel
theorem dX10_isBetter_85 : decode cX10_isBetter 85 = .ok (.goto 4, 3) := by decide +kernel
theorem dX10_isBetter_88 : decode cX10_isBetter 88 = .ok (.iconst 0, 1) := by decide +kernel
theorem dX10_isBetter_89 : decode cX10_isBetter 89 = .ok (.ireturn, 1) := by decide +kernel
theorem dX10_isBetter_90 : decode cX10_isBetter 90 = .ok (.iload_n 3, 1) := by decide +kernel
theorem dX10_isBetter_91 : decode cX10_isBetter 91 = .ok (.ifCond .lt 12, 3) := by decide +kernel
theorem dX10_isBetter_94 : decode cX10_isBetter 94 = .ok (.iload_n 3, 1) := by decide +kernel
theorem dX10_isBetter_95 : decode cX10_isBetter 95 = .ok (.ifCond .ne 12, 3) := by decide +kernel
theorem dX10_isBetter_98 : decode cX10_isBetter 98 = .ok (.iload 4, 2) := by decide +kernel
theorem dX10_isBetter_100 : decode cX10_isBetter 100 = .ok (.ifCond .ge 7, 3) := by decide +kernel
theorem dX10_isBetter_103 : decode cX10_isBetter 103 = .ok (.iconst 1, 1) := by decide +kernel
theorem dX10_isBetter_104 : decode cX10_isBetter 104 = .ok (.goto 4, 3) := by decide +kernel
theorem dX10_isBetter_107 : decode cX10_isBetter 107 = .ok (.iconst 0, 1) := by decide +kernel
theorem dX10_isBetter_108 : decode cX10_isBetter 108 = .ok (.ireturn, 1) := by decide +kernel
theorem dX10_isBetter_109 : decode cX10_isBetter 109 = .ok (.iload_n 3, 1) := by decide +kernel
theorem dX10_isBetter_110 : decode cX10_isBetter 110 = .ok (.ifCond .gt 12, 3) := by decide +kernel
theorem dX10_isBetter_113 : decode cX10_isBetter 113 = .ok (.iload_n 3, 1) := by decide +kernel
theorem dX10_isBetter_114 : decode cX10_isBetter 114 = .ok (.ifCond .ne 12, 3) := by decide +kernel
theorem dX10_isBetter_117 : decode cX10_isBetter 117 = .ok (.iload 4, 2) := by decide +kernel
theorem dX10_isBetter_119 : decode cX10_isBetter 119 = .ok (.ifCond .le 7, 3) := by decide +kernel
theorem dX10_isBetter_122 : decode cX10_isBetter 122 = .ok (.iconst 1, 1) := by decide +kernel
theorem dX10_isBetter_123 : decode cX10_isBetter 123 = .ok (.goto 4, 3) := by decide +kernel
theorem dX10_isBetter_126 : decode cX10_isBetter 126 = .ok (.iconst 0, 1) := by decide +kernel
theorem dX10_isBetter_127 : decode cX10_isBetter 127 = .ok (.ireturn, 1) := by decide +kernel
theorem dX10_places_0 : decode cX10_places 0 = .ok (.aload_n 0, 1) := by decide +kernel
theorem dX10_places_1 : decode cX10_places 1 = .ok (.invokevirtual 75, 3) := by decide +kernel
theorem dX10_places_4 : decode cX10_places 4 = .ok (.iconst (-1), 1) := by decide +kernel
theorem dX10_places_5 : decode cX10_places 5 = .ok (.istore_n 2, 1) := by decide +kernel
theorem dX10_places_6 : decode cX10_places 6 = .ok (.iconst 0, 1) := by decide +kernel
theorem dX10_places_7 : decode cX10_places 7 = .ok (.istore_n 3, 1) := by decide +kernel
theorem dX10_places_8 : decode cX10_places 8 = .ok (.iload_n 3, 1) := by decide +kernel
theorem dX10_places_9 : decode cX10_places 9 = .ok (.aload_n 0, 1) := by decide +kernel
theorem dX10_places_10 : decode cX10_places 10 = .ok (.getfield 63, 3) := by decide +kernel
theorem dX10_places_13 : decode cX10_places 13 = .ok (.if_icmp .ge 38, 3) := by decide +kernel
theorem dX10_places_16 : decode cX10_places 16 = .ok (.aload_n 0, 1) := by decide +kernel
theorem dX10_places_17 : decode cX10_places 17 = .ok (.getfield 26, 3) := by decide +kernel
theorem dX10_places_20 : decode cX10_places 20 = .ok (.iload_n 3, 1) := by decide +kernel
theorem dX10_places_21 : decode cX10_places 21 = .ok (.iaload, 1) := by decide +kernel
theorem dX10_places_22 : decode cX10_places 22 = .ok (.iload_n 1, 1) := by decide +kernel
theorem dX10_places_23 : decode cX10_places 23 = .ok (.if_icmp .gt 20, 3) := by decide +kernel
theorem dX10_places_26 : decode cX10_places 26 = .ok (.iload_n 2, 1) := by decide +kernel
theorem dX10_places_27 : decode cX10_places 27 = .ok (.ifCond .lt 12, 3) := by decide +kernel
theorem dX10_places_30 : decode cX10_places 30 = .ok (.aload_n 0, 1) := by decide +kernel
theorem dX10_places_31 : decode cX10_places 31 = .ok (.iload_n 3, 1) := by decide +kernel
theorem dX10_places_32 : decode cX10_places 32 = .ok (.iload_n 2, 1) := by decide +kernel
theorem dX10_places_33 : decode cX10_places 33 = .ok (.invokevirtual 78, 3) := by decide +kernel
theorem dX10_places_36 : decode cX10_places 36 = .ok (.ifCond .eq 7, 3) := by decide +kernel
theorem dX10_places_39 : decode cX10_places 39 = .ok (.iload_n 3, 1) := by decide +kernel
theorem dX10_places_40 : decode cX10_places 40 = .ok (.goto 4, 3) := by decide +kernel
theorem dX10_places_43 : decode cX10_places 43 = .ok (.iload_n 2, 1) := by decide +kernel
theorem dX10_places_44 : decode cX10_places 44 = .ok (.istore_n 2, 1) := by decide +kernel
theorem dX10_places_45 : decode cX10_places 45 = .ok (.iinc 3 1, 3) := by decide +kernel
theorem dX10_places_48 : decode cX10_places 48 = .ok (.goto (-40), 3) := by decide +kernel
theorem dX10_places_51 : decode cX10_places 51 = .ok (.iload_n 2, 1) := by decide +kernel
theorem dX10_places_52 : decode cX10_places 52 = .ok (.ifCond .ge 5, 3) := by decide +kernel
theorem dX10_places_55 : decode cX10_places 55 = .ok (.iconst (-1), 1) := by decide +kernel
theorem dX10_places_56 : decode cX10_places 56 = .ok (.ireturn, 1) := by decide +kernel
theorem dX10_places_57 : decode cX10_places 57 = .ok (.aload_n 0, 1) := by decide +kernel
theorem dX10_places_58 : decode cX10_places 58 = .ok (.getfield 23, 3) := by decide +kernel
theorem dX10_places_61 : decode cX10_places 61 = .ok (.iload_n 2, 1) := by decide +kernel
theorem dX10_places_62 : decode cX10_places 62 = .ok (.iaload, 1) := by decide +kernel
theorem dX10_places_63 : decode cX10_places 63 = .ok (.aload_n 0, 1) := by decide +kernel
theorem dX10_places_64 : decode cX10_places 64 = .ok (.getfield 7, 3) := by decide +kernel
theorem dX10_places_67 : decode cX10_places 67 = .ok (.iconst 3, 1) := by decide +kernel
theorem dX10_places_68 : decode cX10_places 68 = .ok (.iaload, 1) := by decide +kernel
theorem dX10_places_69 : decode cX10_places 69 = .ok (.iconst 3, 1) := by decide +kernel
theorem dX10_places_70 : decode cX10_places 70 = .ok (.if_icmp .ne 20, 3) := by decide +kernel
theorem dX10_places_73 : decode cX10_places 73 = .ok (.aload_n 0, 1) := by decide +kernel
theorem dX10_places_74 : decode cX10_places 74 = .ok (.getfield 26, 3) := by decide +kernel
theorem dX10_places_77 : decode cX10_places 77 = .ok (.iload_n 2, 1) := by decide +kernel
theorem dX10_places_78 : decode cX10_places 78 = .ok (.iaload, 1) := by decide +kernel
theorem dX10_places_79 : decode cX10_places 79 = .ok (.invokestatic 56, 3) := by decide +kernel
theorem dX10_places_82 : decode cX10_places 82 = .ok (.iload_n 1, 1) := by decide +kernel
theorem dX10_places_83 : decode cX10_places 83 = .ok (.invokestatic 56, 3) := by decide +kernel
theorem dX10_places_86 : decode cX10_places 86 = .ok (.isub, 1) := by decide +kernel
theorem dX10_places_87 : decode cX10_places 87 = .ok (.goto 4, 3) := by decide +kernel
theorem dX10_places_90 : decode cX10_places 90 = .ok (.iconst 0, 1) := by decide +kernel
theorem dX10_places_91 : decode cX10_places 91 = .ok (.iadd, 1) := by decide +kernel
theorem dX10_places_92 : decode cX10_places 92 = .ok (.ireturn, 1) := by decide +kernel
theorem dX10_isPool_0 : decode cX10_isPool 0 = .ok (.iload_n 1, 1) := by decide +kernel
theorem dX10_isPool_1 : decode cX10_isPool 1 = .ok (.iconst 0, 1) := by decide +kernel
theorem dX10_isPool_2 : decode cX10_isPool 2 = .ok (.aload_n 0, 1) := by decide +kernel
theorem dX10_isPool_3 : decode cX10_isPool 3 = .ok (.getfield 7, 3) := by decide +kernel
theorem dX10_isPool_6 : decode cX10_isPool 6 = .ok (.iconst 5, 1) := by decide +kernel
theorem dX10_isPool_7 : decode cX10_isPool 7 = .ok (.iaload, 1) := by decide +kernel
theorem dX10_isPool_8 : decode cX10_isPool 8 = .ok (.iconst 1, 1) := by decide +kernel
theorem dX10_isPool_9 : decode cX10_isPool 9 = .ok (.isub, 1) := by decide +kernel
theorem dX10_isPool_10 : decode cX10_isPool 10 = .ok (.invokestatic 82, 3) := by decide +kernel
theorem dX10_isPool_13 : decode cX10_isPool 13 = .ok (.ireturn, 1) := by decide +kernel
theorem dX10_appendCharacter_0 : decode cX10_appendCharacter 0 = .ok (.iload_n 1, 1) := by decide +kernel
theorem dX10_appendCharacter_1 : decode cX10_appendCharacter 1 = .ok (.iconst 0, 1) := by decide +kernel
theorem dX10_appendCharacter_2 : decode cX10_appendCharacter 2 = .ok (.sipush 255, 3) := by decide +kernel
theorem dX10_appendCharacter_5 : decode cX10_appendCharacter 5 = .ok (.invokestatic 82, 3) := by decide +kernel
theorem dX10_appendCharacter_8 : decode cX10_appendCharacter 8 = .ok (.ifCond .ne 5, 3) := by decide +kernel
theorem dX10_appendCharacter_11 : decode cX10_appendCharacter 11 = .ok (.iconst (-1), 1) := by decide +kernel
theorem dX10_appendCharacter_12 : decode cX10_appendCharacter 12 = .ok (.ireturn, 1) := by decide +kernel
theorem dX10_appendCharacter_13 : decode cX10_appendCharacter 13 = .ok (.aload_n 0, 1) := by decide +kernel
theorem dX10_appendCharacter_14 : decode cX10_appendCharacter 14 = .ok (.getfield 86, 3) := by decide +kernel
theorem dX10_appendCharacter_17 : decode cX10_appendCharacter 17 = .ok (.sipush 150, 3) := by decide +kernel
theorem dX10_appendCharacter_20 : decode cX10_appendCharacter 20 = .ok (.if_icmp .ne 6, 3) := by decide +kernel
theorem dX10_appendCharacter_23 : decode cX10_appendCharacter 23 = .ok (.bipush (-3), 2) := by decide +kernel
theorem dX10_appendCharacter_25 : decode cX10_appendCharacter 25 = .ok (.ireturn, 1) := by decide +kernel
theorem dX10_appendCharacter_26 : decode cX10_appendCharacter 26 = .ok (.aload_n 0, 1) := by decide +kernel
theorem dX10_appendCharacter_27 : decode cX10_appendCharacter 27 = .ok (.getfield 16, 3) := by decide +kernel
theorem dX10_appendCharacter_30 : decode cX10_appendCharacter 30 = .ok (.aload_n 0, 1) := by decide +kernel
theorem dX10_appendCharacter_31 : decode cX10_appendCharacter 31 = .ok (.getfield 86, 3) := by decide +kernel
theorem dX10_appendCharacter_34 : decode cX10_appendCharacter 34 = .ok (.iload_n 1, 1) := by decide +kernel
theorem dX10_appendCharacter_35 : decode cX10_appendCharacter 35 = .ok (.i2b, 1) := by decide +kernel
theorem dX10_appendCharacter_36 : decode cX10_appendCharacter 36 = .ok (.bastore, 1) := by decide +kernel
theorem dX10_appendCharacter_37 : decode cX10_appendCharacter 37 = .ok (.aload_n 0, 1) := by decide +kernel
theorem dX10_appendCharacter_38 : decode cX10_appendCharacter 38 = .ok (.dup, 1) := by decide +kernel
theorem dX10_appendCharacter_39 : decode cX10_appendCharacter 39 = .ok (.getfield 86, 3) := by decide +kernel
theorem dX10_appendCharacter_42 : decode cX10_appendCharacter 42 = .ok (.iconst 1, 1) := by decide +kernel
theorem dX10_appendCharacter_43 : decode cX10_appendCharacter 43 = .ok (.iadd, 1) := by decide +kernel
theorem dX10_appendCharacter_44 : decode cX10_appendCharacter 44 = .ok (.putfield 86, 3) := by decide +kernel
theorem dX10_appendCharacter_47 : decode cX10_appendCharacter 47 = .ok (.aload_n 0, 1) := by decide +kernel
theorem dX10_appendCharacter_48 : decode cX10_appendCharacter 48 = .ok (.getfield 86, 3) := by decide +kernel
theorem dX10_appendCharacter_51 : decode cX10_appendCharacter 51 = .ok (.ireturn, 1) := by decide +kernel
theorem dX10_clearText_0 : decode cX10_clearText 0 = .ok (.aload_n 0, 1) := by decide +kernel
theorem dX10_clearText_1 : decode cX10_clearText 1 = .ok (.getfield 86, 3) := by decide +kernel
theorem dX10_clearText_4 : decode cX10_clearText 4 = .ok (.istore_n 1, 1) := by decide +kernel
theorem dX10_clearText_5 : decode cX10_clearText 5 = .ok (.aload_n 0, 1) := by decide +kernel
theorem dX10_clearText_6 : decode cX10_clearText 6 = .ok (.iconst 0, 1) := by decide +kernel
theorem dX10_clearText_7 : decode cX10_clearText 7 = .ok (.putfield 86, 3) := by decide +kernel
theorem dX10_clearText_10 : decode cX10_clearText 10 = .ok (.iload_n 1, 1) := by decide +kernel
theorem dX10_clearText_11 : decode cX10_clearText 11 = .ok (.ireturn, 1) := by decide +kernel
theorem dX10_here_0 : decode cX10_here 0 = .ok (.aload_n 0, 1) := by decide +kernel
theorem dX10_here_1 : decode cX10_here 1 = .ok (.getfield 89, 3) := by decide +kernel
theorem dX10_here_4 : decode cX10_here 4 = .ok (.aload_n 0, 1) := by decide +kernel
theorem dX10_here_5 : decode cX10_here 5 = .ok (.getfield 86, 3) := by decide +kernel
theorem dX10_here_8 : decode cX10_here 8 = .ok (.if_icmp .ge 19, 3) := by decide +kernel
theorem dX10_here_11 : decode cX10_here 11 = .ok (.aload_n 0, 1) := by decide +kernel
theorem dX10_here_12 : decode cX10_here 12 = .ok (.getfield 16, 3) := by decide +kernel
theorem dX10_here_15 : decode cX10_here 15 = .ok (.aload_n 0, 1) := by decide +kernel
theorem dX10_here_16 : decode cX10_here 16 = .ok (.getfield 89, 3) := by decide +kernel
theorem dX10_here_19 : decode cX10_here 19 = .ok (.baload, 1) := by decide +kernel
theorem dX10_here_20 : decode cX10_here 20 = .ok (.sipush 255, 3) := by decide +kernel
theorem dX10_here_23 : decode cX10_here 23 = .ok (.iand, 1) := by decide +kernel
theorem dX10_here_24 : decode cX10_here 24 = .ok (.goto 4, 3) := by decide +kernel
theorem dX10_here_27 : decode cX10_here 27 = .ok (.iconst (-1), 1) := by decide +kernel
theorem dX10_here_28 : decode cX10_here 28 = .ok (.ireturn, 1) := by decide +kernel
theorem dX10_readsToken_0 : decode cX10_readsToken 0 = .ok (.aload_n 0, 1) := by decide +kernel
theorem dX10_readsToken_1 : decode cX10_readsToken 1 = .ok (.invokevirtual 92, 3) := by decide +kernel
theorem dX10_readsToken_4 : decode cX10_readsToken 4 = .ok (.bipush 32, 2) := by decide +kernel
theorem dX10_readsToken_6 : decode cX10_readsToken 6 = .ok (.if_icmp .ne 16, 3) := by decide +kernel
theorem dX10_readsToken_9 : decode cX10_readsToken 9 = .ok (.aload_n 0, 1) := by decide +kernel
theorem dX10_readsToken_10 : decode cX10_readsToken 10 = .ok (.dup, 1) := by decide +kernel
theorem dX10_readsToken_11 : decode cX10_readsToken 11 = .ok (.getfield 89, 3) := by decide +kernel
theorem dX10_readsToken_14 : decode cX10_readsToken 14 = .ok (.iconst 1, 1) := by decide +kernel
theorem dX10_readsToken_15 : decode cX10_readsToken 15 = .ok (.iadd, 1) := by decide +kernel
theorem dX10_readsToken_16 : decode cX10_readsToken 16 = .ok (.putfield 89, 3) := by decide +kernel
theorem dX10_readsToken_19 : decode cX10_readsToken 19 = .ok (.goto (-19), 3) := by decide +kernel
theorem dX10_readsToken_22 : decode cX10_readsToken 22 = .ok (.aload_n 0, 1) := by decide +kernel
theorem dX10_readsToken_23 : decode cX10_readsToken 23 = .ok (.aload_n 0, 1) := by decide +kernel
theorem dX10_readsToken_24 : decode cX10_readsToken 24 = .ok (.getfield 89, 3) := by decide +kernel
theorem dX10_readsToken_27 : decode cX10_readsToken 27 = .ok (.putfield 96, 3) := by decide +kernel
theorem dX10_readsToken_30 : decode cX10_readsToken 30 = .ok (.aload_n 0, 1) := by decide +kernel
theorem dX10_readsToken_31 : decode cX10_readsToken 31 = .ok (.lconst 0, 1) := by decide +kernel
theorem dX10_readsToken_32 : decode cX10_readsToken 32 = .ok (.putfield 99, 3) := by decide +kernel
theorem dX10_readsToken_35 : decode cX10_readsToken 35 = .ok (.aload_n 0, 1) := by decide +kernel
theorem dX10_readsToken_36 : decode cX10_readsToken 36 = .ok (.invokevirtual 92, 3) := by decide +kernel
theorem dX10_readsToken_39 : decode cX10_readsToken 39 = .ok (.bipush 97, 2) := by decide +kernel
theorem dX10_readsToken_41 : decode cX10_readsToken 41 = .ok (.bipush 122, 2) := by decide +kernel
theorem dX10_readsToken_43 : decode cX10_readsToken 43 = .ok (.invokestatic 82, 3) := by decide +kernel
theorem dX10_readsToken_46 : decode cX10_readsToken 46 = .ok (.ifCond .eq 79, 3) := by decide +kernel
theorem dX10_readsToken_49 : decode cX10_readsToken 49 = .ok (.aload_n 0, 1) := by decide +kernel
theorem dX10_readsToken_50 : decode cX10_readsToken 50 = .ok (.iconst 1, 1) := by decide +kernel
theorem dX10_readsToken_51 : decode cX10_readsToken 51 = .ok (.putfield 103, 3) := by decide +kernel
theorem dX10_readsToken_54 : decode cX10_readsToken 54 = .ok (.aload_n 0, 1) := by decide +kernel
theorem dX10_readsToken_55 : decode cX10_readsToken 55 = .ok (.invokevirtual 92, 3) := by decide +kernel
theorem dX10_readsToken_58 : decode cX10_readsToken 58 = .ok (.bipush 97, 2) := by decide +kernel
theorem dX10_readsToken_60 : decode cX10_readsToken 60 = .ok (.bipush 122, 2) := by decide +kernel
theorem dX10_readsToken_62 : decode cX10_readsToken 62 = .ok (.invokestatic 82, 3) := by decide +kernel
theorem dX10_readsToken_65 : decode cX10_readsToken 65 = .ok (.ifCond .eq 248, 3) := by decide +kernel
theorem dX10_readsToken_68 : decode cX10_readsToken 68 = .ok (.aload_n 0, 1) := by decide +kernel
theorem dX10_readsToken_69 : decode cX10_readsToken 69 = .ok (.aload_n 0, 1) := by decide +kernel
theorem dX10_readsToken_70 : decode cX10_readsToken 70 = .ok (.getfield 89, 3) := by decide +kernel
theorem dX10_readsToken_73 : decode cX10_readsToken 73 = .ok (.aload_n 0, 1) := by decide +kernel
theorem dX10_readsToken_74 : decode cX10_readsToken 74 = .ok (.getfield 96, 3) := by decide +kernel
theorem dX10_readsToken_77 : decode cX10_readsToken 77 = .ok (.isub, 1) := by decide +kernel
theorem dX10_readsToken_78 : decode cX10_readsToken 78 = .ok (.bipush 8, 2) := by decide +kernel
theorem dX10_readsToken_80 : decode cX10_readsToken 80 = .ok (.if_icmp .ge 26, 3) := by decide +kernel
theorem dX10_readsToken_83 : decode cX10_readsToken 83 = .ok (.ldc2_w 106, 3) := by decide +kernel
theorem dX10_readsToken_86 : decode cX10_readsToken 86 = .ok (.aload_n 0, 1) := by decide +kernel
theorem dX10_readsToken_87 : decode cX10_readsToken 87 = .ok (.getfield 99, 3) := by decide +kernel
theorem dX10_readsToken_90 : decode cX10_readsToken 90 = .ok (.lmul, 1) := by decide +kernel
theorem dX10_readsToken_91 : decode cX10_readsToken 91 = .ok (.aload_n 0, 1) := by decide +kernel
theorem dX10_readsToken_92 : decode cX10_readsToken 92 = .ok (.invokevirtual 92, 3) := by decide +kernel
theorem dX10_readsToken_95 : decode cX10_readsToken 95 = .ok (.i2l, 1) := by decide +kernel
theorem dX10_readsToken_96 : decode cX10_readsToken 96 = .ok (.ladd, 1) := by decide +kernel
theorem dX10_readsToken_97 : decode cX10_readsToken 97 = .ok (.ldc2_w 108, 3) := by decide +kernel
theorem dX10_readsToken_100 : decode cX10_readsToken 100 = .ok (.lsub, 1) := by decide +kernel
theorem dX10_readsToken_101 : decode cX10_readsToken 101 = .ok (.lconst 1, 1) := by decide +kernel
theorem dX10_readsToken_102 : decode cX10_readsToken 102 = .ok (.ladd, 1) := by decide +kernel
theorem dX10_readsToken_103 : decode cX10_readsToken 103 = .ok (.goto 6, 3) := by decide +kernel
theorem dX10_readsToken_106 : decode cX10_readsToken 106 = .ok (.ldc2_w 110, 3) := by decide +kernel
theorem dX10_readsToken_109 : decode cX10_readsToken 109 = .ok (.putfield 99, 3) := by decide +kernel
theorem dX10_readsToken_112 : decode cX10_readsToken 112 = .ok (.aload_n 0, 1) := by decide +kernel
theorem dX10_readsToken_113 : decode cX10_readsToken 113 = .ok (.dup, 1) := by decide +kernel
theorem dX10_readsToken_114 : decode cX10_readsToken 114 = .ok (.getfield 89, 3) := by decide +kernel
theorem dX10_readsToken_117 : decode cX10_readsToken 117 = .ok (.iconst 1, 1) := by decide +kernel
theorem dX10_readsToken_118 : decode cX10_readsToken 118 = .ok (.iadd, 1) := by decide +kernel
theorem dX10_readsToken_119 : decode cX10_readsToken 119 = .ok (.putfield 89, 3) := by decide +kernel
theorem dX10_readsToken_122 : decode cX10_readsToken 122 = .ok (.goto (-68), 3) := by decide +kernel
theorem dX10_readsToken_125 : decode cX10_readsToken 125 = .ok (.aload_n 0, 1) := by decide +kernel
theorem dX10_readsToken_126 : decode cX10_readsToken 126 = .ok (.invokevirtual 92, 3) := by decide +kernel
theorem dX10_readsToken_129 : decode cX10_readsToken 129 = .ok (.bipush 48, 2) := by decide +kernel
theorem dX10_readsToken_131 : decode cX10_readsToken 131 = .ok (.bipush 57, 2) := by decide +kernel
theorem dX10_readsToken_133 : decode cX10_readsToken 133 = .ok (.invokestatic 82, 3) := by decide +kernel
theorem dX10_readsToken_136 : decode cX10_readsToken 136 = .ok (.ifCond .eq 127, 3) := by decide +kernel
theorem dX10_readsToken_139 : decode cX10_readsToken 139 = .ok (.aload_n 0, 1) := by decide +kernel
theorem dX10_readsToken_140 : decode cX10_readsToken 140 = .ok (.invokevirtual 92, 3) := by decide +kernel
theorem dX10_readsToken_143 : decode cX10_readsToken 143 = .ok (.bipush 48, 2) := by decide +kernel
theorem dX10_readsToken_145 : decode cX10_readsToken 145 = .ok (.if_icmp .ne 7, 3) := by decide +kernel
theorem dX10_readsToken_148 : decode cX10_readsToken 148 = .ok (.iconst 1, 1) := by decide +kernel
theorem dX10_readsToken_149 : decode cX10_readsToken 149 = .ok (.goto 4, 3) := by decide +kernel
theorem dX10_readsToken_152 : decode cX10_readsToken 152 = .ok (.iconst 0, 1) := by decide +kernel
theorem dX10_readsToken_153 : decode cX10_readsToken 153 = .ok (.istore_n 1, 1) := by decide +kernel
theorem dX10_readsToken_154 : decode cX10_readsToken 154 = .ok (.aload_n 0, 1) := by decide +kernel
theorem dX10_readsToken_155 : decode cX10_readsToken 155 = .ok (.invokevirtual 92, 3) := by decide +kernel
theorem dX10_readsToken_158 : decode cX10_readsToken 158 = .ok (.bipush 48, 2) := by decide +kernel
theorem dX10_readsToken_160 : decode cX10_readsToken 160 = .ok (.bipush 57, 2) := by decide +kernel
theorem dX10_readsToken_162 : decode cX10_readsToken 162 = .ok (.invokestatic 82, 3) := by decide +kernel
theorem dX10_readsToken_165 : decode cX10_readsToken 165 = .ok (.ifCond .eq 56, 3) := by decide +kernel
theorem dX10_readsToken_168 : decode cX10_readsToken 168 = .ok (.aload_n 0, 1) := by decide +kernel
theorem dX10_readsToken_169 : decode cX10_readsToken 169 = .ok (.aload_n 0, 1) := by decide +kernel
theorem dX10_readsToken_170 : decode cX10_readsToken 170 = .ok (.getfield 99, 3) := by decide +kernel
theorem dX10_readsToken_173 : decode cX10_readsToken 173 = .ok (.ldc2_w 112, 3) := by decide +kernel
theorem dX10_readsToken_176 : decode cX10_readsToken 176 = .ok (.lcmp, 1) := by decide +kernel
theorem dX10_readsToken_177 : decode cX10_readsToken 177 = .ok (.ifCond .ge 24, 3) := by decide +kernel
theorem dX10_readsToken_180 : decode cX10_readsToken 180 = .ok (.ldc2_w 114, 3) := by decide +kernel
theorem dX10_readsToken_183 : decode cX10_readsToken 183 = .ok (.aload_n 0, 1) := by decide +kernel
theorem dX10_readsToken_184 : decode cX10_readsToken 184 = .ok (.getfield 99, 3) := by decide +kernel
theorem dX10_readsToken_187 : decode cX10_readsToken 187 = .ok (.lmul, 1) := by decide +kernel
theorem dX10_readsToken_188 : decode cX10_readsToken 188 = .ok (.aload_n 0, 1) := by decide +kernel
theorem dX10_readsToken_189 : decode cX10_readsToken 189 = .ok (.invokevirtual 92, 3) := by decide +kernel
theorem dX10_readsToken_192 : decode cX10_readsToken 192 = .ok (.i2l, 1) := by decide +kernel
theorem dX10_readsToken_193 : decode cX10_readsToken 193 = .ok (.ladd, 1) := by decide +kernel
theorem dX10_readsToken_194 : decode cX10_readsToken 194 = .ok (.ldc2_w 116, 3) := by decide +kernel
theorem dX10_readsToken_197 : decode cX10_readsToken 197 = .ok (.lsub, 1) := by decide +kernel
theorem dX10_readsToken_198 : decode cX10_readsToken 198 = .ok (.goto 7, 3) := by decide +kernel
theorem dX10_readsToken_201 : decode cX10_readsToken 201 = .ok (.aload_n 0, 1) := by decide +kernel
theorem dX10_readsToken_202 : decode cX10_readsToken 202 = .ok (.getfield 99, 3) := by decide +kernel
theorem dX10_readsToken_205 : decode cX10_readsToken 205 = .ok (.putfield 99, 3) := by decide +kernel
theorem dX10_readsToken_208 : decode cX10_readsToken 208 = .ok (.aload_n 0, 1) := by decide +kernel
theorem dX10_readsToken_209 : decode cX10_readsToken 209 = .ok (.dup, 1) := by decide +kernel
theorem dX10_readsToken_210 : decode cX10_readsToken 210 = .ok (.getfield 89, 3) := by decide +kernel
theorem dX10_readsToken_213 : decode cX10_readsToken 213 = .ok (.iconst 1, 1) := by decide +kernel
theorem dX10_readsToken_214 : decode cX10_readsToken 214 = .ok (.iadd, 1) := by decide +kernel
theorem dX10_readsToken_215 : decode cX10_readsToken 215 = .ok (.putfield 89, 3) := by decide +kernel
theorem dX10_readsToken_218 : decode cX10_readsToken 218 = .ok (.goto (-64), 3) := by decide +kernel
theorem dX10_readsToken_221 : decode cX10_readsToken 221 = .ok (.aload_n 0, 1) := by decide +kernel
theorem dX10_readsToken_222 : decode cX10_readsToken 222 = .ok (.aload_n 0, 1) := by decide +kernel
theorem dX10_readsToken_223 : decode cX10_readsToken 223 = .ok (.getfield 89, 3) := by decide +kernel
theorem dX10_readsToken_226 : decode cX10_readsToken 226 = .ok (.aload_n 0, 1) := by decide +kernel
theorem dX10_readsToken_227 : decode cX10_readsToken 227 = .ok (.getfield 96, 3) := by decide +kernel
theorem dX10_readsToken_230 : decode cX10_readsToken 230 = .ok (.isub, 1) := by decide +kernel
theorem dX10_readsToken_231 : decode cX10_readsToken 231 = .ok (.iconst 5, 1) := by decide +kernel
theorem dX10_readsToken_232 : decode cX10_readsToken 232 = .ok (.if_icmp .gt 20, 3) := by decide +kernel
theorem dX10_readsToken_235 : decode cX10_readsToken 235 = .ok (.iload_n 1, 1) := by decide +kernel
theorem dX10_readsToken_236 : decode cX10_readsToken 236 = .ok (.ifCond .eq 20, 3) := by decide +kernel
theorem dX10_readsToken_239 : decode cX10_readsToken 239 = .ok (.aload_n 0, 1) := by decide +kernel
theorem dX10_readsToken_240 : decode cX10_readsToken 240 = .ok (.getfield 89, 3) := by decide +kernel
theorem dX10_readsToken_243 : decode cX10_readsToken 243 = .ok (.aload_n 0, 1) := by decide +kernel
theorem dX10_readsToken_244 : decode cX10_readsToken 244 = .ok (.getfield 96, 3) := by decide +kernel
theorem dX10_readsToken_247 : decode cX10_readsToken 247 = .ok (.isub, 1) := by decide +kernel
theorem dX10_readsToken_248 : decode cX10_readsToken 248 = .ok (.iconst 1, 1) := by decide +kernel
theorem dX10_readsToken_249 : decode cX10_readsToken 249 = .ok (.if_icmp .le 7, 3) := by decide +kernel
theorem dX10_readsToken_252 : decode cX10_readsToken 252 = .ok (.iconst 4, 1) := by decide +kernel
theorem dX10_readsToken_253 : decode cX10_readsToken 253 = .ok (.goto 4, 3) := by decide +kernel
theorem dX10_readsToken_256 : decode cX10_readsToken 256 = .ok (.iconst 2, 1) := by decide +kernel
theorem dX10_readsToken_257 : decode cX10_readsToken 257 = .ok (.putfield 103, 3) := by decide +kernel
theorem dX10_readsToken_260 : decode cX10_readsToken 260 = .ok (.goto 53, 3) := by decide +kernel
theorem dX10_readsToken_263 : decode cX10_readsToken 263 = .ok (.aload_n 0, 1) := by decide +kernel
theorem dX10_readsToken_264 : decode cX10_readsToken 264 = .ok (.aload_n 0, 1) := by decide +kernel
theorem dX10_readsToken_265 : decode cX10_readsToken 265 = .ok (.invokevirtual 92, 3) := by decide +kernel
theorem dX10_readsToken_268 : decode cX10_readsToken 268 = .ok (.ifCond .ge 7, 3) := by decide +kernel
theorem dX10_readsToken_271 : decode cX10_readsToken 271 = .ok (.iconst 0, 1) := by decide +kernel
theorem dX10_readsToken_272 : decode cX10_readsToken 272 = .ok (.goto 17, 3) := by decide +kernel
theorem dX10_readsToken_275 : decode cX10_readsToken 275 = .ok (.aload_n 0, 1) := by decide +kernel
theorem dX10_readsToken_276 : decode cX10_readsToken 276 = .ok (.invokevirtual 92, 3) := by decide +kernel
theorem dX10_readsToken_279 : decode cX10_readsToken 279 = .ok (.bipush 59, 2) := by decide +kernel
theorem dX10_readsToken_281 : decode cX10_readsToken 281 = .ok (.if_icmp .ne 7, 3) := by decide +kernel
theorem dX10_readsToken_284 : decode cX10_readsToken 284 = .ok (.iconst 3, 1) := by decide +kernel
theorem dX10_readsToken_285 : decode cX10_readsToken 285 = .ok (.goto 4, 3) := by decide +kernel
theorem dX10_readsToken_288 : decode cX10_readsToken 288 = .ok (.iconst 4, 1) := by decide +kernel
theorem dX10_readsToken_289 : decode cX10_readsToken 289 = .ok (.putfield 103, 3) := by decide +kernel
theorem dX10_readsToken_292 : decode cX10_readsToken 292 = .ok (.aload_n 0, 1) := by decide +kernel
theorem dX10_readsToken_293 : decode cX10_readsToken 293 = .ok (.dup, 1) := by decide +kernel
theorem dX10_readsToken_294 : decode cX10_readsToken 294 = .ok (.getfield 89, 3) := by decide +kernel
theorem dX10_readsToken_297 : decode cX10_readsToken 297 = .ok (.aload_n 0, 1) := by decide +kernel
theorem dX10_readsToken_298 : decode cX10_readsToken 298 = .ok (.invokevirtual 92, 3) := by decide +kernel
theorem dX10_readsToken_301 : decode cX10_readsToken 301 = .ok (.ifCond .ge 7, 3) := by decide +kernel
theorem dX10_readsToken_304 : decode cX10_readsToken 304 = .ok (.iconst 0, 1) := by decide +kernel
theorem dX10_readsToken_305 : decode cX10_readsToken 305 = .ok (.goto 4, 3) := by decide +kernel
theorem dX10_readsToken_308 : decode cX10_readsToken 308 = .ok (.iconst 1, 1) := by decide +kernel
theorem dX10_readsToken_309 : decode cX10_readsToken 309 = .ok (.iadd, 1) := by decide +kernel
theorem dX10_readsToken_310 : decode cX10_readsToken 310 = .ok (.putfield 89, 3) := by decide +kernel
theorem dX10_readsToken_313 : decode cX10_readsToken 313 = .ok (.return_, 1) := by decide +kernel
theorem dX10_takes_0 : decode cX10_takes 0 = .ok (.aload_n 0, 1) := by decide +kernel
theorem dX10_takes_1 : decode cX10_takes 1 = .ok (.aload_n 0, 1) := by decide +kernel
theorem dX10_takes_2 : decode cX10_takes 2 = .ok (.getfield 118, 3) := by decide +kernel
theorem dX10_takes_5 : decode cX10_takes 5 = .ok (.ifCond .ne 7, 3) := by decide +kernel
theorem dX10_takes_8 : decode cX10_takes 8 = .ok (.iload_n 1, 1) := by decide +kernel
theorem dX10_takes_9 : decode cX10_takes 9 = .ok (.ifCond .ne 7, 3) := by decide +kernel
theorem dX10_takes_12 : decode cX10_takes 12 = .ok (.iconst 1, 1) := by decide +kernel
theorem dX10_takes_13 : decode cX10_takes 13 = .ok (.goto 4, 3) := by decide +kernel
theorem dX10_takes_16 : decode cX10_takes 16 = .ok (.iconst 0, 1) := by decide +kernel
theorem dX10_takes_17 : decode cX10_takes 17 = .ok (.putfield 118, 3) := by decide +kernel
theorem dX10_takes_20 : decode cX10_takes 20 = .ok (.aload_n 0, 1) := by decide +kernel
theorem dX10_takes_21 : decode cX10_takes 21 = .ok (.getfield 118, 3) := by decide +kernel
theorem dX10_takes_24 : decode cX10_takes 24 = .ok (.ifCond .ne 7, 3) := by decide +kernel
theorem dX10_takes_27 : decode cX10_takes 27 = .ok (.aload_n 0, 1) := by decide +kernel
theorem dX10_takes_28 : decode cX10_takes 28 = .ok (.invokevirtual 122, 3) := by decide +kernel
theorem dX10_takes_31 : decode cX10_takes 31 = .ok (.return_, 1) := by decide +kernel
theorem dX10_number_0 : decode cX10_number 0 = .ok (.aload_n 0, 1) := by decide +kernel
theorem dX10_number_1 : decode cX10_number 1 = .ok (.getfield 103, 3) := by decide +kernel
theorem dX10_number_4 : decode cX10_number 4 = .ok (.iconst 2, 1) := by decide +kernel
theorem dX10_number_5 : decode cX10_number 5 = .ok (.if_icmp .ne 11, 3) := by decide +kernel
theorem dX10_number_8 : decode cX10_number 8 = .ok (.aload_n 0, 1) := by decide +kernel
theorem dX10_number_9 : decode cX10_number 9 = .ok (.getfield 99, 3) := by decide +kernel
theorem dX10_number_12 : decode cX10_number 12 = .ok (.l2i, 1) := by decide +kernel
theorem dX10_number_13 : decode cX10_number 13 = .ok (.goto 4, 3) := by decide +kernel
theorem dX10_number_16 : decode cX10_number 16 = .ok (.iconst (-1), 1) := by decide +kernel
theorem dX10_number_17 : decode cX10_number 17 = .ok (.ireturn, 1) := by decide +kernel
theorem dX10_readsPool_0 : decode cX10_readsPool 0 = .ok (.aload_n 0, 1) := by decide +kernel
theorem dX10_readsPool_1 : decode cX10_readsPool 1 = .ok (.invokevirtual 125, 3) := by decide +kernel
theorem dX10_readsPool_4 : decode cX10_readsPool 4 = .ok (.istore_n 1, 1) := by decide +kernel
theorem dX10_readsPool_5 : decode cX10_readsPool 5 = .ok (.aload_n 0, 1) := by decide +kernel
theorem dX10_readsPool_6 : decode cX10_readsPool 6 = .ok (.iload_n 1, 1) := by decide +kernel
theorem dX10_readsPool_7 : decode cX10_readsPool 7 = .ok (.iconst 0, 1) := by decide +kernel
theorem dX10_readsPool_8 : decode cX10_readsPool 8 = .ok (.ldc 128, 2) := by decide +kernel
theorem dX10_readsPool_10 : decode cX10_readsPool 10 = .ok (.invokestatic 82, 3) := by decide +kernel
theorem dX10_readsPool_13 : decode cX10_readsPool 13 = .ok (.invokevirtual 129, 3) := by decide +kernel
theorem dX10_readsPool_16 : decode cX10_readsPool 16 = .ok (.aload_n 0, 1) := by decide +kernel
theorem dX10_readsPool_17 : decode cX10_readsPool 17 = .ok (.invokevirtual 125, 3) := by decide +kernel
theorem dX10_readsPool_20 : decode cX10_readsPool 20 = .ok (.istore_n 2, 1) := by decide +kernel
theorem dX10_readsPool_21 : decode cX10_readsPool 21 = .ok (.aload_n 0, 1) := by decide +kernel
theorem dX10_readsPool_22 : decode cX10_readsPool 22 = .ok (.iload_n 2, 1) := by decide +kernel
theorem dX10_readsPool_23 : decode cX10_readsPool 23 = .ok (.iconst 4, 1) := by decide +kernel
theorem dX10_readsPool_24 : decode cX10_readsPool 24 = .ok (.bipush 14, 2) := by decide +kernel
theorem dX10_readsPool_26 : decode cX10_readsPool 26 = .ok (.invokestatic 82, 3) := by decide +kernel
theorem dX10_readsPool_29 : decode cX10_readsPool 29 = .ok (.ifCond .eq 25, 3) := by decide +kernel
theorem dX10_readsPool_32 : decode cX10_readsPool 32 = .ok (.iload_n 1, 1) := by decide +kernel
theorem dX10_readsPool_33 : decode cX10_readsPool 33 = .ok (.iload_n 2, 1) := by decide +kernel
theorem dX10_readsPool_34 : decode cX10_readsPool 34 = .ok (.invokestatic 56, 3) := by decide +kernel
theorem dX10_readsPool_37 : decode cX10_readsPool 37 = .ok (.irem, 1) := by decide +kernel
theorem dX10_readsPool_38 : decode cX10_readsPool 38 = .ok (.ifCond .ne 16, 3) := by decide +kernel
theorem dX10_readsPool_41 : decode cX10_readsPool 41 = .ok (.aload_n 0, 1) := by decide +kernel
theorem dX10_readsPool_42 : decode cX10_readsPool 42 = .ok (.iload_n 1, 1) := by decide +kernel
theorem dX10_readsPool_43 : decode cX10_readsPool 43 = .ok (.iload_n 2, 1) := by decide +kernel
theorem dX10_readsPool_44 : decode cX10_readsPool 44 = .ok (.invokevirtual 133, 3) := by decide +kernel
theorem dX10_readsPool_47 : decode cX10_readsPool 47 = .ok (.ifCond .ne 7, 3) := by decide +kernel
theorem dX10_readsPool_50 : decode cX10_readsPool 50 = .ok (.iconst 1, 1) := by decide +kernel
theorem dX10_readsPool_51 : decode cX10_readsPool 51 = .ok (.goto 4, 3) := by decide +kernel
theorem dX10_readsPool_54 : decode cX10_readsPool 54 = .ok (.iconst 0, 1) := by decide +kernel
theorem dX10_readsPool_55 : decode cX10_readsPool 55 = .ok (.invokevirtual 129, 3) := by decide +kernel
theorem dX10_readsPool_58 : decode cX10_readsPool 58 = .ok (.aload_n 0, 1) := by decide +kernel
theorem dX10_readsPool_59 : decode cX10_readsPool 59 = .ok (.getfield 118, 3) := by decide +kernel
theorem dX10_readsPool_62 : decode cX10_readsPool 62 = .ok (.ifCond .ne 49, 3) := by decide +kernel
theorem dX10_readsPool_65 : decode cX10_readsPool 65 = .ok (.aload_n 0, 1) := by decide +kernel
theorem dX10_readsPool_66 : decode cX10_readsPool 66 = .ok (.getfield 7, 3) := by decide +kernel
theorem dX10_readsPool_69 : decode cX10_readsPool 69 = .ok (.bipush 6, 2) := by decide +kernel
theorem dX10_readsPool_71 : decode cX10_readsPool 71 = .ok (.iconst 2, 1) := by decide +kernel
theorem dX10_readsPool_72 : decode cX10_readsPool 72 = .ok (.aload_n 0, 1) := by decide +kernel
theorem dX10_readsPool_73 : decode cX10_readsPool 73 = .ok (.getfield 7, 3) := by decide +kernel
theorem dX10_readsPool_76 : decode cX10_readsPool 76 = .ok (.iconst 5, 1) := by decide +kernel
theorem dX10_readsPool_77 : decode cX10_readsPool 77 = .ok (.iaload, 1) := by decide +kernel
theorem dX10_readsPool_78 : decode cX10_readsPool 78 = .ok (.imul, 1) := by decide +kernel
theorem dX10_readsPool_79 : decode cX10_readsPool 79 = .ok (.iadd, 1) := by decide +kernel
theorem dX10_readsPool_80 : decode cX10_readsPool 80 = .ok (.iload_n 1, 1) := by decide +kernel
theorem dX10_readsPool_81 : decode cX10_readsPool 81 = .ok (.iastore, 1) := by decide +kernel
theorem dX10_readsPool_82 : decode cX10_readsPool 82 = .ok (.aload_n 0, 1) := by decide +kernel
theorem dX10_readsPool_83 : decode cX10_readsPool 83 = .ok (.getfield 7, 3) := by decide +kernel
theorem dX10_readsPool_86 : decode cX10_readsPool 86 = .ok (.bipush 6, 2) := by decide +kernel
theorem dX10_readsPool_88 : decode cX10_readsPool 88 = .ok (.iconst 2, 1) := by decide +kernel
theorem dX10_readsPool_89 : decode cX10_readsPool 89 = .ok (.aload_n 0, 1) := by decide +kernel
theorem dX10_readsPool_90 : decode cX10_readsPool 90 = .ok (.getfield 7, 3) := by decide +kernel
theorem dX10_readsPool_93 : decode cX10_readsPool 93 = .ok (.iconst 5, 1) := by decide +kernel
theorem dX10_readsPool_94 : decode cX10_readsPool 94 = .ok (.iaload, 1) := by decide +kernel
theorem dX10_readsPool_95 : decode cX10_readsPool 95 = .ok (.imul, 1) := by decide +kernel
theorem dX10_readsPool_96 : decode cX10_readsPool 96 = .ok (.iadd, 1) := by decide +kernel
theorem dX10_readsPool_97 : decode cX10_readsPool 97 = .ok (.iconst 1, 1) := by decide +kernel
theorem dX10_readsPool_98 : decode cX10_readsPool 98 = .ok (.iadd, 1) := by decide +kernel
theorem dX10_readsPool_99 : decode cX10_readsPool 99 = .ok (.iload_n 2, 1) := by decide +kernel
theorem dX10_readsPool_100 : decode cX10_readsPool 100 = .ok (.iastore, 1) := by decide +kernel
theorem dX10_readsPool_101 : decode cX10_readsPool 101 = .ok (.aload_n 0, 1) := by decide +kernel
theorem dX10_readsPool_102 : decode cX10_readsPool 102 = .ok (.getfield 7, 3) := by decide +kernel
theorem dX10_readsPool_105 : decode cX10_readsPool 105 = .ok (.iconst 5, 1) := by decide +kernel
theorem dX10_readsPool_106 : decode cX10_readsPool 106 = .ok (.dup2, 1) := by decide +kernel
theorem dX10_readsPool_107 : decode cX10_readsPool 107 = .ok (.iaload, 1) := by decide +kernel
theorem dX10_readsPool_108 : decode cX10_readsPool 108 = .ok (.iconst 1, 1) := by decide +kernel
theorem dX10_readsPool_109 : decode cX10_readsPool 109 = .ok (.iadd, 1) := by decide +kernel
theorem dX10_readsPool_110 : decode cX10_readsPool 110 = .ok (.iastore, 1) := by decide +kernel
theorem dX10_readsPool_111 : decode cX10_readsPool 111 = .ok (.return_, 1) := by decide +kernel
theorem dX10_readsNet_0 : decode cX10_readsNet 0 = .ok (.aload_n 0, 1) := by decide +kernel
theorem dX10_readsNet_1 : decode cX10_readsNet 1 = .ok (.invokevirtual 125, 3) := by decide +kernel
theorem dX10_readsNet_4 : decode cX10_readsNet 4 = .ok (.istore_n 1, 1) := by decide +kernel
theorem dX10_readsNet_5 : decode cX10_readsNet 5 = .ok (.aload_n 0, 1) := by decide +kernel
theorem dX10_readsNet_6 : decode cX10_readsNet 6 = .ok (.iload_n 1, 1) := by decide +kernel
theorem dX10_readsNet_7 : decode cX10_readsNet 7 = .ok (.iconst 0, 1) := by decide +kernel
theorem dX10_readsNet_8 : decode cX10_readsNet 8 = .ok (.bipush 11, 2) := by decide +kernel
theorem dX10_readsNet_10 : decode cX10_readsNet 10 = .ok (.invokestatic 82, 3) := by decide +kernel
theorem dX10_readsNet_13 : decode cX10_readsNet 13 = .ok (.ifCond .eq 19, 3) := by decide +kernel
theorem dX10_readsNet_16 : decode cX10_readsNet 16 = .ok (.aload_n 0, 1) := by decide +kernel
theorem dX10_readsNet_17 : decode cX10_readsNet 17 = .ok (.getfield 7, 3) := by decide +kernel
theorem dX10_readsNet_20 : decode cX10_readsNet 20 = .ok (.iload_n 1, 1) := by decide +kernel
theorem dX10_readsNet_21 : decode cX10_readsNet 21 = .ok (.invokestatic 35, 3) := by decide +kernel
theorem dX10_readsNet_24 : decode cX10_readsNet 24 = .ok (.iaload, 1) := by decide +kernel
theorem dX10_readsNet_25 : decode cX10_readsNet 25 = .ok (.ifCond .ge 7, 3) := by decide +kernel
theorem dX10_readsNet_28 : decode cX10_readsNet 28 = .ok (.iconst 1, 1) := by decide +kernel
theorem dX10_readsNet_29 : decode cX10_readsNet 29 = .ok (.goto 4, 3) := by decide +kernel
theorem dX10_readsNet_32 : decode cX10_readsNet 32 = .ok (.iconst 0, 1) := by decide +kernel
theorem dX10_readsNet_33 : decode cX10_readsNet 33 = .ok (.invokevirtual 129, 3) := by decide +kernel
theorem dX10_readsNet_36 : decode cX10_readsNet 36 = .ok (.aload_n 0, 1) := by decide +kernel
theorem dX10_readsNet_37 : decode cX10_readsNet 37 = .ok (.invokevirtual 125, 3) := by decide +kernel
theorem dX10_readsNet_40 : decode cX10_readsNet 40 = .ok (.istore_n 2, 1) := by decide +kernel
theorem dX10_readsNet_41 : decode cX10_readsNet 41 = .ok (.aload_n 0, 1) := by decide +kernel
theorem dX10_readsNet_42 : decode cX10_readsNet 42 = .ok (.getfield 118, 3) := by decide +kernel
theorem dX10_readsNet_45 : decode cX10_readsNet 45 = .ok (.ifCond .ne 21, 3) := by decide +kernel
theorem dX10_readsNet_48 : decode cX10_readsNet 48 = .ok (.iload_n 2, 1) := by decide +kernel
theorem dX10_readsNet_49 : decode cX10_readsNet 49 = .ok (.iconst 5, 1) := by decide +kernel
theorem dX10_readsNet_50 : decode cX10_readsNet 50 = .ok (.bipush 16, 2) := by decide +kernel
theorem dX10_readsNet_52 : decode cX10_readsNet 52 = .ok (.invokestatic 82, 3) := by decide +kernel
theorem dX10_readsNet_55 : decode cX10_readsNet 55 = .ok (.ifCond .eq 11, 3) := by decide +kernel
theorem dX10_readsNet_58 : decode cX10_readsNet 58 = .ok (.aload_n 0, 1) := by decide +kernel
theorem dX10_readsNet_59 : decode cX10_readsNet 59 = .ok (.iload_n 2, 1) := by decide +kernel
theorem dX10_readsNet_60 : decode cX10_readsNet 60 = .ok (.invokevirtual 136, 3) := by decide +kernel
theorem dX10_readsNet_63 : decode cX10_readsNet 63 = .ok (.goto 4, 3) := by decide +kernel
theorem dX10_readsNet_66 : decode cX10_readsNet 66 = .ok (.iconst (-1), 1) := by decide +kernel
theorem dX10_readsNet_67 : decode cX10_readsNet 67 = .ok (.istore_n 3, 1) := by decide +kernel
theorem dX10_readsNet_68 : decode cX10_readsNet 68 = .ok (.aload_n 0, 1) := by decide +kernel
theorem dX10_readsNet_69 : decode cX10_readsNet 69 = .ok (.iload_n 3, 1) := by decide +kernel
theorem dX10_readsNet_70 : decode cX10_readsNet 70 = .ok (.ifCond .lt 7, 3) := by decide +kernel
theorem dX10_readsNet_73 : decode cX10_readsNet 73 = .ok (.iconst 1, 1) := by decide +kernel
theorem dX10_readsNet_74 : decode cX10_readsNet 74 = .ok (.goto 4, 3) := by decide +kernel
theorem dX10_readsNet_77 : decode cX10_readsNet 77 = .ok (.iconst 0, 1) := by decide +kernel
theorem dX10_readsNet_78 : decode cX10_readsNet 78 = .ok (.invokevirtual 129, 3) := by decide +kernel
theorem dX10_readsNet_81 : decode cX10_readsNet 81 = .ok (.aload_n 0, 1) := by decide +kernel
theorem dX10_readsNet_82 : decode cX10_readsNet 82 = .ok (.getfield 118, 3) := by decide +kernel
theorem dX10_readsNet_85 : decode cX10_readsNet 85 = .ok (.ifCond .ne 25, 3) := by decide +kernel
theorem dX10_readsNet_88 : decode cX10_readsNet 88 = .ok (.aload_n 0, 1) := by decide +kernel
theorem dX10_readsNet_89 : decode cX10_readsNet 89 = .ok (.getfield 7, 3) := by decide +kernel
theorem dX10_readsNet_92 : decode cX10_readsNet 92 = .ok (.iload_n 1, 1) := by decide +kernel
theorem dX10_readsNet_93 : decode cX10_readsNet 93 = .ok (.invokestatic 35, 3) := by decide +kernel
theorem dX10_readsNet_96 : decode cX10_readsNet 96 = .ok (.iload_n 3, 1) := by decide +kernel
theorem dX10_readsNet_97 : decode cX10_readsNet 97 = .ok (.iastore, 1) := by decide +kernel
theorem dX10_readsNet_98 : decode cX10_readsNet 98 = .ok (.aload_n 0, 1) := by decide +kernel
theorem dX10_readsNet_99 : decode cX10_readsNet 99 = .ok (.getfield 7, 3) := by decide +kernel
theorem dX10_readsNet_102 : decode cX10_readsNet 102 = .ok (.iload_n 1, 1) := by decide +kernel
theorem dX10_readsNet_103 : decode cX10_readsNet 103 = .ok (.invokestatic 35, 3) := by decide +kernel
theorem dX10_readsNet_106 : decode cX10_readsNet 106 = .ok (.iconst 1, 1) := by decide +kernel
theorem dX10_readsNet_107 : decode cX10_readsNet 107 = .ok (.iadd, 1) := by decide +kernel
theorem dX10_readsNet_108 : decode cX10_readsNet 108 = .ok (.iload_n 2, 1) := by decide +kernel
theorem dX10_readsNet_109 : decode cX10_readsNet 109 = .ok (.iastore, 1) := by decide +kernel
theorem dX10_readsNet_110 : decode cX10_readsNet 110 = .ok (.return_, 1) := by decide +kernel
theorem dX10_readsHost_0 : decode cX10_readsHost 0 = .ok (.aload_n 0, 1) := by decide +kernel
theorem dX10_readsHost_1 : decode cX10_readsHost 1 = .ok (.invokevirtual 125, 3) := by decide +kernel
theorem dX10_readsHost_4 : decode cX10_readsHost 4 = .ok (.istore_n 1, 1) := by decide +kernel
theorem dX10_readsHost_5 : decode cX10_readsHost 5 = .ok (.aload_n 0, 1) := by decide +kernel
theorem dX10_readsHost_6 : decode cX10_readsHost 6 = .ok (.iload_n 1, 1) := by decide +kernel
theorem dX10_readsHost_7 : decode cX10_readsHost 7 = .ok (.iconst 0, 1) := by decide +kernel
theorem dX10_readsHost_8 : decode cX10_readsHost 8 = .ok (.bipush 15, 2) := by decide +kernel
theorem dX10_readsHost_10 : decode cX10_readsHost 10 = .ok (.invokestatic 82, 3) := by decide +kernel
theorem dX10_readsHost_13 : decode cX10_readsHost 13 = .ok (.ifCond .eq 19, 3) := by decide +kernel
theorem dX10_readsHost_16 : decode cX10_readsHost 16 = .ok (.aload_n 0, 1) := by decide +kernel
theorem dX10_readsHost_17 : decode cX10_readsHost 17 = .ok (.getfield 7, 3) := by decide +kernel
theorem dX10_readsHost_20 : decode cX10_readsHost 20 = .ok (.iload_n 1, 1) := by decide +kernel
theorem dX10_readsHost_21 : decode cX10_readsHost 21 = .ok (.invokestatic 43, 3) := by decide +kernel
theorem dX10_readsHost_24 : decode cX10_readsHost 24 = .ok (.iaload, 1) := by decide +kernel
theorem dX10_readsHost_25 : decode cX10_readsHost 25 = .ok (.ifCond .ge 7, 3) := by decide +kernel
theorem dX10_readsHost_28 : decode cX10_readsHost 28 = .ok (.iconst 1, 1) := by decide +kernel
theorem dX10_readsHost_29 : decode cX10_readsHost 29 = .ok (.goto 4, 3) := by decide +kernel
theorem dX10_readsHost_32 : decode cX10_readsHost 32 = .ok (.iconst 0, 1) := by decide +kernel
theorem dX10_readsHost_33 : decode cX10_readsHost 33 = .ok (.invokevirtual 129, 3) := by decide +kernel
theorem dX10_readsHost_36 : decode cX10_readsHost 36 = .ok (.aload_n 0, 1) := by decide +kernel
theorem dX10_readsHost_37 : decode cX10_readsHost 37 = .ok (.invokevirtual 125, 3) := by decide +kernel
theorem dX10_readsHost_40 : decode cX10_readsHost 40 = .ok (.istore_n 2, 1) := by decide +kernel
theorem dX10_readsHost_41 : decode cX10_readsHost 41 = .ok (.aload_n 0, 1) := by decide +kernel
theorem dX10_readsHost_42 : decode cX10_readsHost 42 = .ok (.iload_n 2, 1) := by decide +kernel
theorem dX10_readsHost_43 : decode cX10_readsHost 43 = .ok (.iconst 0, 1) := by decide +kernel
theorem dX10_readsHost_44 : decode cX10_readsHost 44 = .ok (.bipush 11, 2) := by decide +kernel
theorem dX10_readsHost_46 : decode cX10_readsHost 46 = .ok (.invokestatic 82, 3) := by decide +kernel
theorem dX10_readsHost_49 : decode cX10_readsHost 49 = .ok (.ifCond .eq 19, 3) := by decide +kernel
theorem dX10_readsHost_52 : decode cX10_readsHost 52 = .ok (.aload_n 0, 1) := by decide +kernel
theorem dX10_readsHost_53 : decode cX10_readsHost 53 = .ok (.getfield 7, 3) := by decide +kernel
theorem dX10_readsHost_56 : decode cX10_readsHost 56 = .ok (.iload_n 2, 1) := by decide +kernel
theorem dX10_readsHost_57 : decode cX10_readsHost 57 = .ok (.invokestatic 35, 3) := by decide +kernel
theorem dX10_readsHost_60 : decode cX10_readsHost 60 = .ok (.iaload, 1) := by decide +kernel
theorem dX10_readsHost_61 : decode cX10_readsHost 61 = .ok (.ifCond .lt 7, 3) := by decide +kernel
theorem dX10_readsHost_64 : decode cX10_readsHost 64 = .ok (.iconst 1, 1) := by decide +kernel
theorem dX10_readsHost_65 : decode cX10_readsHost 65 = .ok (.goto 4, 3) := by decide +kernel
theorem dX10_readsHost_68 : decode cX10_readsHost 68 = .ok (.iconst 0, 1) := by decide +kernel
theorem dX10_readsHost_69 : decode cX10_readsHost 69 = .ok (.invokevirtual 129, 3) := by decide +kernel
theorem dX10_readsHost_72 : decode cX10_readsHost 72 = .ok (.aload_n 0, 1) := by decide +kernel
theorem dX10_readsHost_73 : decode cX10_readsHost 73 = .ok (.getfield 118, 3) := by decide +kernel
theorem dX10_readsHost_76 : decode cX10_readsHost 76 = .ok (.ifCond .ne 15, 3) := by decide +kernel
theorem dX10_readsHost_79 : decode cX10_readsHost 79 = .ok (.aload_n 0, 1) := by decide +kernel
theorem dX10_readsHost_80 : decode cX10_readsHost 80 = .ok (.getfield 103, 3) := by decide +kernel
theorem dX10_readsHost_83 : decode cX10_readsHost 83 = .ok (.iconst 1, 1) := by decide +kernel
theorem dX10_readsHost_84 : decode cX10_readsHost 84 = .ok (.if_icmp .ne 7, 3) := by decide +kernel
theorem dX10_readsHost_87 : decode cX10_readsHost 87 = .ok (.iconst 1, 1) := by decide +kernel
theorem dX10_readsHost_88 : decode cX10_readsHost 88 = .ok (.goto 4, 3) := by decide +kernel
theorem dX10_readsHost_91 : decode cX10_readsHost 91 = .ok (.iconst 0, 1) := by decide +kernel
theorem dX10_readsHost_92 : decode cX10_readsHost 92 = .ok (.istore_n 3, 1) := by decide +kernel
theorem dX10_readsHost_93 : decode cX10_readsHost 93 = .ok (.iload_n 3, 1) := by decide +kernel
theorem dX10_readsHost_94 : decode cX10_readsHost 94 = .ok (.ifCond .eq 23, 3) := by decide +kernel
theorem dX10_readsHost_97 : decode cX10_readsHost 97 = .ok (.aload_n 0, 1) := by decide +kernel
theorem dX10_readsHost_98 : decode cX10_readsHost 98 = .ok (.aload_n 0, 1) := by decide +kernel
theorem dX10_readsHost_99 : decode cX10_readsHost 99 = .ok (.getfield 99, 3) := by decide +kernel
theorem dX10_readsHost_102 : decode cX10_readsHost 102 = .ok (.ldc2_w 139, 3) := by decide +kernel
theorem dX10_readsHost_105 : decode cX10_readsHost 105 = .ok (.lcmp, 1) := by decide +kernel
theorem dX10_readsHost_106 : decode cX10_readsHost 106 = .ok (.ifCond .ne 7, 3) := by decide +kernel
theorem dX10_readsHost_109 : decode cX10_readsHost 109 = .ok (.iconst 1, 1) := by decide +kernel
theorem dX10_readsHost_110 : decode cX10_readsHost 110 = .ok (.goto 4, 3) := by decide +kernel
theorem dX10_readsHost_113 : decode cX10_readsHost 113 = .ok (.iconst 0, 1) := by decide +kernel
theorem dX10_readsHost_114 : decode cX10_readsHost 114 = .ok (.invokevirtual 129, 3) := by decide +kernel
theorem dX10_readsHost_117 : decode cX10_readsHost 117 = .ok (.aload_n 0, 1) := by decide +kernel
theorem dX10_readsHost_118 : decode cX10_readsHost 118 = .ok (.getfield 118, 3) := by decide +kernel
theorem dX10_readsHost_121 : decode cX10_readsHost 121 = .ok (.ifCond .ne 33, 3) := by decide +kernel
theorem dX10_readsHost_124 : decode cX10_readsHost 124 = .ok (.aload_n 0, 1) := by decide +kernel
theorem dX10_readsHost_125 : decode cX10_readsHost 125 = .ok (.getfield 7, 3) := by decide +kernel
theorem dX10_readsHost_128 : decode cX10_readsHost 128 = .ok (.iload_n 1, 1) := by decide +kernel
theorem dX10_readsHost_129 : decode cX10_readsHost 129 = .ok (.invokestatic 43, 3) := by decide +kernel
theorem dX10_readsHost_132 : decode cX10_readsHost 132 = .ok (.iload_n 2, 1) := by decide +kernel
theorem dX10_readsHost_133 : decode cX10_readsHost 133 = .ok (.iastore, 1) := by decide +kernel
theorem dX10_readsHost_134 : decode cX10_readsHost 134 = .ok (.aload_n 0, 1) := by decide +kernel
theorem dX10_readsHost_135 : decode cX10_readsHost 135 = .ok (.getfield 7, 3) := by decide +kernel
theorem dX10_readsHost_138 : decode cX10_readsHost 138 = .ok (.iload_n 1, 1) := by decide +kernel
theorem dX10_readsHost_139 : decode cX10_readsHost 139 = .ok (.invokestatic 43, 3) := by decide +kernel
theorem dX10_readsHost_142 : decode cX10_readsHost 142 = .ok (.iconst 1, 1) := by decide +kernel
theorem dX10_readsHost_143 : decode cX10_readsHost 143 = .ok (.iadd, 1) := by decide +kernel
theorem dX10_readsHost_144 : decode cX10_readsHost 144 = .ok (.iload_n 3, 1) := by decide +kernel
theorem dX10_readsHost_145 : decode cX10_readsHost 145 = .ok (.ifCond .eq 7, 3) := by decide +kernel
theorem dX10_readsHost_148 : decode cX10_readsHost 148 = .ok (.iconst 1, 1) := by decide +kernel
theorem dX10_readsHost_149 : decode cX10_readsHost 149 = .ok (.goto 4, 3) := by decide +kernel
theorem dX10_readsHost_152 : decode cX10_readsHost 152 = .ok (.iconst 0, 1) := by decide +kernel
theorem dX10_readsHost_153 : decode cX10_readsHost 153 = .ok (.iastore, 1) := by decide +kernel
theorem dX10_readsHost_154 : decode cX10_readsHost 154 = .ok (.return_, 1) := by decide +kernel
theorem dX10_readsPolicy_0 : decode cX10_readsPolicy 0 = .ok (.aload_n 0, 1) := by decide +kernel
theorem dX10_readsPolicy_1 : decode cX10_readsPolicy 1 = .ok (.invokevirtual 125, 3) := by decide +kernel
theorem dX10_readsPolicy_4 : decode cX10_readsPolicy 4 = .ok (.istore_n 1, 1) := by decide +kernel
theorem dX10_readsPolicy_5 : decode cX10_readsPolicy 5 = .ok (.aload_n 0, 1) := by decide +kernel
theorem dX10_readsPolicy_6 : decode cX10_readsPolicy 6 = .ok (.iload_n 1, 1) := by decide +kernel
theorem dX10_readsPolicy_7 : decode cX10_readsPolicy 7 = .ok (.iconst 0, 1) := by decide +kernel
theorem dX10_readsPolicy_8 : decode cX10_readsPolicy 8 = .ok (.iconst 3, 1) := by decide +kernel
theorem dX10_readsPolicy_9 : decode cX10_readsPolicy 9 = .ok (.invokestatic 82, 3) := by decide +kernel
theorem dX10_readsPolicy_12 : decode cX10_readsPolicy 12 = .ok (.invokevirtual 129, 3) := by decide +kernel
theorem dX10_readsPolicy_15 : decode cX10_readsPolicy 15 = .ok (.aload_n 0, 1) := by decide +kernel
theorem dX10_readsPolicy_16 : decode cX10_readsPolicy 16 = .ok (.getfield 7, 3) := by decide +kernel
theorem dX10_readsPolicy_19 : decode cX10_readsPolicy 19 = .ok (.iconst 3, 1) := by decide +kernel
theorem dX10_readsPolicy_20 : decode cX10_readsPolicy 20 = .ok (.aload_n 0, 1) := by decide +kernel
theorem dX10_readsPolicy_21 : decode cX10_readsPolicy 21 = .ok (.getfield 118, 3) := by decide +kernel
theorem dX10_readsPolicy_24 : decode cX10_readsPolicy 24 = .ok (.ifCond .eq 12, 3) := by decide +kernel
theorem dX10_readsPolicy_27 : decode cX10_readsPolicy 27 = .ok (.aload_n 0, 1) := by decide +kernel
theorem dX10_readsPolicy_28 : decode cX10_readsPolicy 28 = .ok (.getfield 7, 3) := by decide +kernel
theorem dX10_readsPolicy_31 : decode cX10_readsPolicy 31 = .ok (.iconst 3, 1) := by decide +kernel
theorem dX10_readsPolicy_32 : decode cX10_readsPolicy 32 = .ok (.iaload, 1) := by decide +kernel
theorem dX10_readsPolicy_33 : decode cX10_readsPolicy 33 = .ok (.goto 4, 3) := by decide +kernel
theorem dX10_readsPolicy_36 : decode cX10_readsPolicy 36 = .ok (.iload_n 1, 1) := by decide +kernel
theorem dX10_readsPolicy_37 : decode cX10_readsPolicy 37 = .ok (.iastore, 1) := by decide +kernel
theorem dX10_readsPolicy_38 : decode cX10_readsPolicy 38 = .ok (.return_, 1) := by decide +kernel
theorem dX10_readsItem_0 : decode cX10_readsItem 0 = .ok (.aload_n 0, 1) := by decide +kernel
theorem dX10_readsItem_1 : decode cX10_readsItem 1 = .ok (.getfield 103, 3) := by decide +kernel
theorem dX10_readsItem_4 : decode cX10_readsItem 4 = .ok (.iconst 1, 1) := by decide +kernel
theorem dX10_readsItem_5 : decode cX10_readsItem 5 = .ok (.if_icmp .ne 10, 3) := by decide +kernel
theorem dX10_readsItem_8 : decode cX10_readsItem 8 = .ok (.aload_n 0, 1) := by decide +kernel
theorem dX10_readsItem_9 : decode cX10_readsItem 9 = .ok (.getfield 99, 3) := by decide +kernel
theorem dX10_readsItem_12 : decode cX10_readsItem 12 = .ok (.goto 6, 3) := by decide +kernel
theorem dX10_readsItem_15 : decode cX10_readsItem 15 = .ok (.ldc2_w 110, 3) := by decide +kernel
theorem dX10_readsItem_18 : decode cX10_readsItem 18 = .ok (.lstore_n 1, 1) := by decide +kernel
theorem dX10_readsItem_19 : decode cX10_readsItem 19 = .ok (.lload_n 1, 1) := by decide +kernel
theorem dX10_readsItem_20 : decode cX10_readsItem 20 = .ok (.ldc2_w 141, 3) := by decide +kernel
theorem dX10_readsItem_23 : decode cX10_readsItem 23 = .ok (.lcmp, 1) := by decide +kernel
theorem dX10_readsItem_24 : decode cX10_readsItem 24 = .ok (.ifCond .ne 29, 3) := by decide +kernel
theorem dX10_readsItem_27 : decode cX10_readsItem 27 = .ok (.aload_n 0, 1) := by decide +kernel
theorem dX10_readsItem_28 : decode cX10_readsItem 28 = .ok (.aload_n 0, 1) := by decide +kernel
theorem dX10_readsItem_29 : decode cX10_readsItem 29 = .ok (.getfield 7, 3) := by decide +kernel
theorem dX10_readsItem_32 : decode cX10_readsItem 32 = .ok (.iconst 5, 1) := by decide +kernel
theorem dX10_readsItem_33 : decode cX10_readsItem 33 = .ok (.iaload, 1) := by decide +kernel
theorem dX10_readsItem_34 : decode cX10_readsItem 34 = .ok (.iconst 4, 1) := by decide +kernel
theorem dX10_readsItem_35 : decode cX10_readsItem 35 = .ok (.if_icmp .ge 7, 3) := by decide +kernel
theorem dX10_readsItem_38 : decode cX10_readsItem 38 = .ok (.iconst 1, 1) := by decide +kernel
theorem dX10_readsItem_39 : decode cX10_readsItem 39 = .ok (.goto 4, 3) := by decide +kernel
theorem dX10_readsItem_42 : decode cX10_readsItem 42 = .ok (.iconst 0, 1) := by decide +kernel
theorem dX10_readsItem_43 : decode cX10_readsItem 43 = .ok (.invokevirtual 129, 3) := by decide +kernel
theorem dX10_readsItem_46 : decode cX10_readsItem 46 = .ok (.aload_n 0, 1) := by decide +kernel
theorem dX10_readsItem_47 : decode cX10_readsItem 47 = .ok (.invokevirtual 143, 3) := by decide +kernel
theorem dX10_readsItem_50 : decode cX10_readsItem 50 = .ok (.goto 64, 3) := by decide +kernel
theorem dX10_readsItem_53 : decode cX10_readsItem 53 = .ok (.lload_n 1, 1) := by decide +kernel
theorem dX10_readsItem_54 : decode cX10_readsItem 54 = .ok (.ldc2_w 146, 3) := by decide +kernel
theorem dX10_readsItem_57 : decode cX10_readsItem 57 = .ok (.lcmp, 1) := by decide +kernel
theorem dX10_readsItem_58 : decode cX10_readsItem 58 = .ok (.ifCond .ne 15, 3) := by decide +kernel
theorem dX10_readsItem_61 : decode cX10_readsItem 61 = .ok (.aload_n 0, 1) := by decide +kernel
theorem dX10_readsItem_62 : decode cX10_readsItem 62 = .ok (.iconst 1, 1) := by decide +kernel
theorem dX10_readsItem_63 : decode cX10_readsItem 63 = .ok (.invokevirtual 129, 3) := by decide +kernel
theorem dX10_readsItem_66 : decode cX10_readsItem 66 = .ok (.aload_n 0, 1) := by decide +kernel
theorem dX10_readsItem_67 : decode cX10_readsItem 67 = .ok (.invokevirtual 148, 3) := by decide +kernel
theorem dX10_readsItem_70 : decode cX10_readsItem 70 = .ok (.goto 44, 3) := by decide +kernel
theorem dX10_readsItem_73 : decode cX10_readsItem 73 = .ok (.lload_n 1, 1) := by decide +kernel
theorem dX10_readsItem_74 : decode cX10_readsItem 74 = .ok (.ldc2_w 151, 3) := by decide +kernel
theorem dX10_readsItem_77 : decode cX10_readsItem 77 = .ok (.lcmp, 1) := by decide +kernel
theorem dX10_readsItem_78 : decode cX10_readsItem 78 = .ok (.ifCond .ne 15, 3) := by decide +kernel
theorem dX10_readsItem_81 : decode cX10_readsItem 81 = .ok (.aload_n 0, 1) := by decide +kernel
theorem dX10_readsItem_82 : decode cX10_readsItem 82 = .ok (.iconst 1, 1) := by decide +kernel
theorem dX10_readsItem_83 : decode cX10_readsItem 83 = .ok (.invokevirtual 129, 3) := by decide +kernel
theorem dX10_readsItem_86 : decode cX10_readsItem 86 = .ok (.aload_n 0, 1) := by decide +kernel
theorem dX10_readsItem_87 : decode cX10_readsItem 87 = .ok (.invokevirtual 153, 3) := by decide +kernel
theorem dX10_readsItem_90 : decode cX10_readsItem 90 = .ok (.goto 24, 3) := by decide +kernel
theorem dX10_readsItem_93 : decode cX10_readsItem 93 = .ok (.aload_n 0, 1) := by decide +kernel
theorem dX10_readsItem_94 : decode cX10_readsItem 94 = .ok (.lload_n 1, 1) := by decide +kernel
theorem dX10_readsItem_95 : decode cX10_readsItem 95 = .ok (.ldc2_w 156, 3) := by decide +kernel
theorem dX10_readsItem_98 : decode cX10_readsItem 98 = .ok (.lcmp, 1) := by decide +kernel
theorem dX10_readsItem_99 : decode cX10_readsItem 99 = .ok (.ifCond .ne 7, 3) := by decide +kernel
theorem dX10_readsItem_102 : decode cX10_readsItem 102 = .ok (.iconst 1, 1) := by decide +kernel
theorem dX10_readsItem_103 : decode cX10_readsItem 103 = .ok (.goto 4, 3) := by decide +kernel
theorem dX10_readsItem_106 : decode cX10_readsItem 106 = .ok (.iconst 0, 1) := by decide +kernel
theorem dX10_readsItem_107 : decode cX10_readsItem 107 = .ok (.invokevirtual 129, 3) := by decide +kernel
theorem dX10_readsItem_110 : decode cX10_readsItem 110 = .ok (.aload_n 0, 1) := by decide +kernel
theorem dX10_readsItem_111 : decode cX10_readsItem 111 = .ok (.invokevirtual 158, 3) := by decide +kernel
theorem dX10_readsItem_114 : decode cX10_readsItem 114 = .ok (.aload_n 0, 1) := by decide +kernel
theorem dX10_readsItem_115 : decode cX10_readsItem 115 = .ok (.aload_n 0, 1) := by decide +kernel
theorem dX10_readsItem_116 : decode cX10_readsItem 116 = .ok (.getfield 103, 3) := by decide +kernel
theorem dX10_readsItem_119 : decode cX10_readsItem 119 = .ok (.iconst 3, 1) := by decide +kernel
theorem dX10_readsItem_120 : decode cX10_readsItem 120 = .ok (.if_icmp .ne 7, 3) := by decide +kernel
theorem dX10_readsItem_123 : decode cX10_readsItem 123 = .ok (.iconst 1, 1) := by decide +kernel
theorem dX10_readsItem_124 : decode cX10_readsItem 124 = .ok (.goto 4, 3) := by decide +kernel
theorem dX10_readsItem_127 : decode cX10_readsItem 127 = .ok (.iconst 0, 1) := by decide +kernel
theorem dX10_readsItem_128 : decode cX10_readsItem 128 = .ok (.invokevirtual 129, 3) := by decide +kernel
theorem dX10_readsItem_131 : decode cX10_readsItem 131 = .ok (.return_, 1) := by decide +kernel
theorem dX10_load_0 : decode cX10_load 0 = .ok (.aload_n 0, 1) := by decide +kernel
theorem dX10_load_1 : decode cX10_load 1 = .ok (.invokevirtual 161, 3) := by decide +kernel
theorem dX10_load_4 : decode cX10_load 4 = .ok (.aload_n 0, 1) := by decide +kernel
theorem dX10_load_5 : decode cX10_load 5 = .ok (.invokevirtual 32, 3) := by decide +kernel
theorem dX10_load_8 : decode cX10_load 8 = .ok (.aload_n 0, 1) := by decide +kernel
theorem dX10_load_9 : decode cX10_load 9 = .ok (.iconst 0, 1) := by decide +kernel
theorem dX10_load_10 : decode cX10_load 10 = .ok (.putfield 89, 3) := by decide +kernel
theorem dX10_load_13 : decode cX10_load 13 = .ok (.aload_n 0, 1) := by decide +kernel
theorem dX10_load_14 : decode cX10_load 14 = .ok (.iconst 0, 1) := by decide +kernel
theorem dX10_load_15 : decode cX10_load 15 = .ok (.putfield 118, 3) := by decide +kernel
theorem dX10_load_18 : decode cX10_load 18 = .ok (.iconst 0, 1) := by decide +kernel
theorem dX10_load_19 : decode cX10_load 19 = .ok (.istore_n 1, 1) := by decide +kernel
theorem dX10_load_20 : decode cX10_load 20 = .ok (.aload_n 0, 1) := by decide +kernel
theorem dX10_load_21 : decode cX10_load 21 = .ok (.invokevirtual 122, 3) := by decide +kernel
theorem dX10_load_24 : decode cX10_load 24 = .ok (.aload_n 0, 1) := by decide +kernel
theorem dX10_load_25 : decode cX10_load 25 = .ok (.getfield 118, 3) := by decide +kernel
theorem dX10_load_28 : decode cX10_load 28 = .ok (.ifCond .ne 20, 3) := by decide +kernel
theorem dX10_load_31 : decode cX10_load 31 = .ok (.aload_n 0, 1) := by decide +kernel
theorem dX10_load_32 : decode cX10_load 32 = .ok (.getfield 103, 3) := by decide +kernel
theorem dX10_load_35 : decode cX10_load 35 = .ok (.ifCond .eq 13, 3) := by decide +kernel
theorem dX10_load_38 : decode cX10_load 38 = .ok (.aload_n 0, 1) := by decide +kernel
theorem dX10_load_39 : decode cX10_load 39 = .ok (.invokevirtual 164, 3) := by decide +kernel
theorem dX10_load_42 : decode cX10_load 42 = .ok (.iinc 1 1, 3) := by decide +kernel
theorem dX10_load_45 : decode cX10_load 45 = .ok (.goto (-21), 3) := by decide +kernel
theorem dX10_load_48 : decode cX10_load 48 = .ok (.aload_n 0, 1) := by decide +kernel
theorem dX10_load_49 : decode cX10_load 49 = .ok (.invokevirtual 167, 3) := by decide +kernel
theorem dX10_load_52 : decode cX10_load 52 = .ok (.aload_n 0, 1) := by decide +kernel
theorem dX10_load_53 : decode cX10_load 53 = .ok (.getfield 118, 3) := by decide +kernel
theorem dX10_load_56 : decode cX10_load 56 = .ok (.ifCond .eq 11, 3) := by decide +kernel
theorem dX10_load_59 : decode cX10_load 59 = .ok (.bipush (-10), 2) := by decide +kernel
theorem dX10_load_61 : decode cX10_load 61 = .ok (.aload_n 0, 1) := by decide +kernel
theorem dX10_load_62 : decode cX10_load 62 = .ok (.getfield 96, 3) := by decide +kernel
theorem dX10_load_65 : decode cX10_load 65 = .ok (.isub, 1) := by decide +kernel
theorem dX10_load_66 : decode cX10_load 66 = .ok (.ireturn, 1) := by decide +kernel
theorem dX10_load_67 : decode cX10_load 67 = .ok (.aload_n 0, 1) := by decide +kernel
theorem dX10_load_68 : decode cX10_load 68 = .ok (.invokevirtual 170, 3) := by decide +kernel
theorem dX10_load_71 : decode cX10_load 71 = .ok (.aload_n 0, 1) := by decide +kernel
theorem dX10_load_72 : decode cX10_load 72 = .ok (.invokevirtual 167, 3) := by decide +kernel
theorem dX10_load_75 : decode cX10_load 75 = .ok (.aload_n 0, 1) := by decide +kernel
theorem dX10_load_76 : decode cX10_load 76 = .ok (.iconst 0, 1) := by decide +kernel
theorem dX10_load_77 : decode cX10_load 77 = .ok (.putfield 86, 3) := by decide +kernel
theorem dX10_load_80 : decode cX10_load 80 = .ok (.iload_n 1, 1) := by decide +kernel
theorem dX10_load_81 : decode cX10_load 81 = .ok (.ireturn, 1) := by decide +kernel
theorem dX10_touchesPool_0 : decode cX10_touchesPool 0 = .ok (.iconst 0, 1) := by decide +kernel
theorem dX10_touchesPool_1 : decode cX10_touchesPool 1 = .ok (.istore_n 3, 1) := by decide +kernel
theorem dX10_touchesPool_2 : decode cX10_touchesPool 2 = .ok (.iconst 0, 1) := by decide +kernel
theorem dX10_touchesPool_3 : decode cX10_touchesPool 3 = .ok (.istore 4, 2) := by decide +kernel
theorem dX10_touchesPool_5 : decode cX10_touchesPool 5 = .ok (.iload 4, 2) := by decide +kernel
theorem dX10_touchesPool_7 : decode cX10_touchesPool 7 = .ok (.aload_n 0, 1) := by decide +kernel
theorem dX10_touchesPool_8 : decode cX10_touchesPool 8 = .ok (.getfield 7, 3) := by decide +kernel
theorem dX10_touchesPool_11 : decode cX10_touchesPool 11 = .ok (.iconst 5, 1) := by decide +kernel
theorem dX10_touchesPool_12 : decode cX10_touchesPool 12 = .ok (.iaload, 1) := by decide +kernel
theorem dX10_touchesPool_13 : decode cX10_touchesPool 13 = .ok (.if_icmp .ge 68, 3) := by decide +kernel
theorem dX10_touchesPool_16 : decode cX10_touchesPool 16 = .ok (.aload_n 0, 1) := by decide +kernel
theorem dX10_touchesPool_17 : decode cX10_touchesPool 17 = .ok (.getfield 7, 3) := by decide +kernel
theorem dX10_touchesPool_20 : decode cX10_touchesPool 20 = .ok (.bipush 6, 2) := by decide +kernel
theorem dX10_touchesPool_22 : decode cX10_touchesPool 22 = .ok (.iconst 2, 1) := by decide +kernel
theorem dX10_touchesPool_23 : decode cX10_touchesPool 23 = .ok (.iload 4, 2) := by decide +kernel
theorem dX10_touchesPool_25 : decode cX10_touchesPool 25 = .ok (.imul, 1) := by decide +kernel
theorem dX10_touchesPool_26 : decode cX10_touchesPool 26 = .ok (.iadd, 1) := by decide +kernel
theorem dX10_touchesPool_27 : decode cX10_touchesPool 27 = .ok (.iaload, 1) := by decide +kernel
theorem dX10_touchesPool_28 : decode cX10_touchesPool 28 = .ok (.istore 5, 2) := by decide +kernel
theorem dX10_touchesPool_30 : decode cX10_touchesPool 30 = .ok (.iload_n 3, 1) := by decide +kernel
theorem dX10_touchesPool_31 : decode cX10_touchesPool 31 = .ok (.ifCond .ne 38, 3) := by decide +kernel
theorem dX10_touchesPool_34 : decode cX10_touchesPool 34 = .ok (.iload 5, 2) := by decide +kernel
theorem dX10_touchesPool_36 : decode cX10_touchesPool 36 = .ok (.iload_n 1, 1) := by decide +kernel
theorem dX10_touchesPool_37 : decode cX10_touchesPool 37 = .ok (.iload_n 2, 1) := by decide +kernel
theorem dX10_touchesPool_38 : decode cX10_touchesPool 38 = .ok (.invokestatic 56, 3) := by decide +kernel
theorem dX10_touchesPool_41 : decode cX10_touchesPool 41 = .ok (.iadd, 1) := by decide +kernel
theorem dX10_touchesPool_42 : decode cX10_touchesPool 42 = .ok (.if_icmp .ge 31, 3) := by decide +kernel
theorem dX10_touchesPool_45 : decode cX10_touchesPool 45 = .ok (.iload_n 1, 1) := by decide +kernel
theorem dX10_touchesPool_46 : decode cX10_touchesPool 46 = .ok (.iload 5, 2) := by decide +kernel
theorem dX10_touchesPool_48 : decode cX10_touchesPool 48 = .ok (.aload_n 0, 1) := by decide +kernel
theorem dX10_touchesPool_49 : decode cX10_touchesPool 49 = .ok (.getfield 7, 3) := by decide +kernel
theorem dX10_touchesPool_52 : decode cX10_touchesPool 52 = .ok (.bipush 6, 2) := by decide +kernel
theorem dX10_touchesPool_54 : decode cX10_touchesPool 54 = .ok (.iconst 2, 1) := by decide +kernel
theorem dX10_touchesPool_55 : decode cX10_touchesPool 55 = .ok (.iload 4, 2) := by decide +kernel
theorem dX10_touchesPool_57 : decode cX10_touchesPool 57 = .ok (.imul, 1) := by decide +kernel
theorem dX10_touchesPool_58 : decode cX10_touchesPool 58 = .ok (.iadd, 1) := by decide +kernel
theorem dX10_touchesPool_59 : decode cX10_touchesPool 59 = .ok (.iconst 1, 1) := by decide +kernel
theorem dX10_touchesPool_60 : decode cX10_touchesPool 60 = .ok (.iadd, 1) := by decide +kernel
theorem dX10_touchesPool_61 : decode cX10_touchesPool 61 = .ok (.iaload, 1) := by decide +kernel
theorem dX10_touchesPool_62 : decode cX10_touchesPool 62 = .ok (.invokestatic 56, 3) := by decide +kernel
theorem dX10_touchesPool_65 : decode cX10_touchesPool 65 = .ok (.iadd, 1) := by decide +kernel
theorem dX10_touchesPool_66 : decode cX10_touchesPool 66 = .ok (.if_icmp .ge 7, 3) := by decide +kernel
theorem dX10_touchesPool_69 : decode cX10_touchesPool 69 = .ok (.iconst 1, 1) := by decide +kernel
theorem dX10_touchesPool_70 : decode cX10_touchesPool 70 = .ok (.goto 4, 3) := by decide +kernel
theorem dX10_touchesPool_73 : decode cX10_touchesPool 73 = .ok (.iconst 0, 1) := by decide +kernel
theorem dX10_touchesPool_74 : decode cX10_touchesPool 74 = .ok (.istore_n 3, 1) := by decide +kernel
theorem dX10_touchesPool_75 : decode cX10_touchesPool 75 = .ok (.iinc 4 1, 3) := by decide +kernel
theorem dX10_touchesPool_78 : decode cX10_touchesPool 78 = .ok (.goto (-73), 3) := by decide +kernel
theorem dX10_touchesPool_81 : decode cX10_touchesPool 81 = .ok (.iload_n 3, 1) := by decide +kernel
theorem dX10_touchesPool_82 : decode cX10_touchesPool 82 = .ok (.ireturn, 1) := by decide +kernel
theorem dX10_addPool_0 : decode cX10_addPool 0 = .ok (.iload_n 1, 1) := by decide +kernel
theorem dX10_addPool_1 : decode cX10_addPool 1 = .ok (.iconst 0, 1) := by decide +kernel
theorem dX10_addPool_2 : decode cX10_addPool 2 = .ok (.ldc 128, 2) := by decide +kernel
theorem dX10_addPool_4 : decode cX10_addPool 4 = .ok (.invokestatic 82, 3) := by decide +kernel
theorem dX10_addPool_7 : decode cX10_addPool 7 = .ok (.ifCond .eq 22, 3) := by decide +kernel
theorem dX10_addPool_10 : decode cX10_addPool 10 = .ok (.iload_n 2, 1) := by decide +kernel
theorem dX10_addPool_11 : decode cX10_addPool 11 = .ok (.iconst 4, 1) := by decide +kernel
theorem dX10_addPool_12 : decode cX10_addPool 12 = .ok (.bipush 14, 2) := by decide +kernel
theorem dX10_addPool_14 : decode cX10_addPool 14 = .ok (.invokestatic 82, 3) := by decide +kernel
theorem dX10_addPool_17 : decode cX10_addPool 17 = .ok (.ifCond .eq 12, 3) := by decide +kernel
theorem dX10_addPool_20 : decode cX10_addPool 20 = .ok (.iload_n 1, 1) := by decide +kernel
theorem dX10_addPool_21 : decode cX10_addPool 21 = .ok (.iload_n 2, 1) := by decide +kernel
theorem dX10_addPool_22 : decode cX10_addPool 22 = .ok (.invokestatic 56, 3) := by decide +kernel
theorem dX10_addPool_25 : decode cX10_addPool 25 = .ok (.irem, 1) := by decide +kernel
theorem dX10_addPool_26 : decode cX10_addPool 26 = .ok (.ifCond .eq 5, 3) := by decide +kernel
theorem dX10_addPool_29 : decode cX10_addPool 29 = .ok (.iconst (-1), 1) := by decide +kernel
theorem dX10_addPool_30 : decode cX10_addPool 30 = .ok (.ireturn, 1) := by decide +kernel
theorem dX10_addPool_31 : decode cX10_addPool 31 = .ok (.aload_n 0, 1) := by decide +kernel
theorem dX10_addPool_32 : decode cX10_addPool 32 = .ok (.iload_n 1, 1) := by decide +kernel
theorem dX10_addPool_33 : decode cX10_addPool 33 = .ok (.iload_n 2, 1) := by decide +kernel
theorem dX10_addPool_34 : decode cX10_addPool 34 = .ok (.invokevirtual 133, 3) := by decide +kernel
theorem dX10_addPool_37 : decode cX10_addPool 37 = .ok (.ifCond .eq 6, 3) := by decide +kernel
theorem dX10_addPool_40 : decode cX10_addPool 40 = .ok (.bipush (-2), 2) := by decide +kernel
theorem dX10_addPool_42 : decode cX10_addPool 42 = .ok (.ireturn, 1) := by decide +kernel
theorem dX10_addPool_43 : decode cX10_addPool 43 = .ok (.aload_n 0, 1) := by decide +kernel
theorem dX10_addPool_44 : decode cX10_addPool 44 = .ok (.getfield 7, 3) := by decide +kernel
theorem dX10_addPool_47 : decode cX10_addPool 47 = .ok (.iconst 5, 1) := by decide +kernel
theorem dX10_addPool_48 : decode cX10_addPool 48 = .ok (.iaload, 1) := by decide +kernel
theorem dX10_addPool_49 : decode cX10_addPool 49 = .ok (.iconst 4, 1) := by decide +kernel
theorem dX10_addPool_50 : decode cX10_addPool 50 = .ok (.if_icmp .ne 6, 3) := by decide +kernel
theorem dX10_addPool_53 : decode cX10_addPool 53 = .ok (.bipush (-3), 2) := by decide +kernel
theorem dX10_addPool_55 : decode cX10_addPool 55 = .ok (.ireturn, 1) := by decide +kernel
theorem dX10_addPool_56 : decode cX10_addPool 56 = .ok (.aload_n 0, 1) := by decide +kernel
theorem dX10_addPool_57 : decode cX10_addPool 57 = .ok (.invokevirtual 170, 3) := by decide +kernel
theorem dX10_addPool_60 : decode cX10_addPool 60 = .ok (.aload_n 0, 1) := by decide +kernel
theorem dX10_addPool_61 : decode cX10_addPool 61 = .ok (.getfield 7, 3) := by decide +kernel
theorem dX10_addPool_64 : decode cX10_addPool 64 = .ok (.bipush 6, 2) := by decide +kernel
theorem dX10_addPool_66 : decode cX10_addPool 66 = .ok (.iconst 2, 1) := by decide +kernel
theorem dX10_addPool_67 : decode cX10_addPool 67 = .ok (.aload_n 0, 1) := by decide +kernel
theorem dX10_addPool_68 : decode cX10_addPool 68 = .ok (.getfield 7, 3) := by decide +kernel
theorem dX10_addPool_71 : decode cX10_addPool 71 = .ok (.iconst 5, 1) := by decide +kernel
theorem dX10_addPool_72 : decode cX10_addPool 72 = .ok (.iaload, 1) := by decide +kernel
theorem dX10_addPool_73 : decode cX10_addPool 73 = .ok (.imul, 1) := by decide +kernel
theorem dX10_addPool_74 : decode cX10_addPool 74 = .ok (.iadd, 1) := by decide +kernel
theorem dX10_addPool_75 : decode cX10_addPool 75 = .ok (.iload_n 1, 1) := by decide +kernel
theorem dX10_addPool_76 : decode cX10_addPool 76 = .ok (.iastore, 1) := by decide +kernel
theorem dX10_addPool_77 : decode cX10_addPool 77 = .ok (.aload_n 0, 1) := by decide +kernel
theorem dX10_addPool_78 : decode cX10_addPool 78 = .ok (.getfield 7, 3) := by decide +kernel
theorem dX10_addPool_81 : decode cX10_addPool 81 = .ok (.bipush 6, 2) := by decide +kernel
theorem dX10_addPool_83 : decode cX10_addPool 83 = .ok (.iconst 2, 1) := by decide +kernel
theorem dX10_addPool_84 : decode cX10_addPool 84 = .ok (.aload_n 0, 1) := by decide +kernel
theorem dX10_addPool_85 : decode cX10_addPool 85 = .ok (.getfield 7, 3) := by decide +kernel
theorem dX10_addPool_88 : decode cX10_addPool 88 = .ok (.iconst 5, 1) := by decide +kernel
theorem dX10_addPool_89 : decode cX10_addPool 89 = .ok (.iaload, 1) := by decide +kernel
theorem dX10_addPool_90 : decode cX10_addPool 90 = .ok (.imul, 1) := by decide +kernel
theorem dX10_addPool_91 : decode cX10_addPool 91 = .ok (.iadd, 1) := by decide +kernel
theorem dX10_addPool_92 : decode cX10_addPool 92 = .ok (.iconst 1, 1) := by decide +kernel
theorem dX10_addPool_93 : decode cX10_addPool 93 = .ok (.iadd, 1) := by decide +kernel
theorem dX10_addPool_94 : decode cX10_addPool 94 = .ok (.iload_n 2, 1) := by decide +kernel
theorem dX10_addPool_95 : decode cX10_addPool 95 = .ok (.iastore, 1) := by decide +kernel
theorem dX10_addPool_96 : decode cX10_addPool 96 = .ok (.aload_n 0, 1) := by decide +kernel
theorem dX10_addPool_97 : decode cX10_addPool 97 = .ok (.getfield 7, 3) := by decide +kernel
theorem dX10_addPool_100 : decode cX10_addPool 100 = .ok (.iconst 5, 1) := by decide +kernel
theorem dX10_addPool_101 : decode cX10_addPool 101 = .ok (.dup2, 1) := by decide +kernel
theorem dX10_addPool_102 : decode cX10_addPool 102 = .ok (.iaload, 1) := by decide +kernel
theorem dX10_addPool_103 : decode cX10_addPool 103 = .ok (.iconst 1, 1) := by decide +kernel
theorem dX10_addPool_104 : decode cX10_addPool 104 = .ok (.iadd, 1) := by decide +kernel
theorem dX10_addPool_105 : decode cX10_addPool 105 = .ok (.iastore, 1) := by decide +kernel
theorem dX10_addPool_106 : decode cX10_addPool 106 = .ok (.aload_n 0, 1) := by decide +kernel
theorem dX10_addPool_107 : decode cX10_addPool 107 = .ok (.getfield 7, 3) := by decide +kernel
theorem dX10_addPool_110 : decode cX10_addPool 110 = .ok (.iconst 5, 1) := by decide +kernel
theorem dX10_addPool_111 : decode cX10_addPool 111 = .ok (.iaload, 1) := by decide +kernel
theorem dX10_addPool_112 : decode cX10_addPool 112 = .ok (.iconst 1, 1) := by decide +kernel
theorem dX10_addPool_113 : decode cX10_addPool 113 = .ok (.isub, 1) := by decide +kernel
theorem dX10_addPool_114 : decode cX10_addPool 114 = .ok (.ireturn, 1) := by decide +kernel
theorem dX10_removePool_0 : decode cX10_removePool 0 = .ok (.aload_n 0, 1) := by decide +kernel
theorem dX10_removePool_1 : decode cX10_removePool 1 = .ok (.iload_n 1, 1) := by decide +kernel
theorem dX10_removePool_2 : decode cX10_removePool 2 = .ok (.invokevirtual 173, 3) := by decide +kernel
theorem dX10_removePool_5 : decode cX10_removePool 5 = .ok (.ifCond .ne 5, 3) := by decide +kernel
theorem dX10_removePool_8 : decode cX10_removePool 8 = .ok (.iconst (-1), 1) := by decide +kernel
theorem dX10_removePool_9 : decode cX10_removePool 9 = .ok (.ireturn, 1) := by decide +kernel
theorem dX10_removePool_10 : decode cX10_removePool 10 = .ok (.aload_n 0, 1) := by decide +kernel
theorem dX10_removePool_11 : decode cX10_removePool 11 = .ok (.aload_n 0, 1) := by decide +kernel
theorem dX10_removePool_12 : decode cX10_removePool 12 = .ok (.getfield 7, 3) := by decide +kernel
theorem dX10_removePool_15 : decode cX10_removePool 15 = .ok (.bipush 6, 2) := by decide +kernel
theorem dX10_removePool_17 : decode cX10_removePool 17 = .ok (.iconst 2, 1) := by decide +kernel
theorem dX10_removePool_18 : decode cX10_removePool 18 = .ok (.iload_n 1, 1) := by decide +kernel
theorem dX10_removePool_19 : decode cX10_removePool 19 = .ok (.imul, 1) := by decide +kernel
theorem dX10_removePool_20 : decode cX10_removePool 20 = .ok (.iadd, 1) := by decide +kernel
theorem dX10_removePool_21 : decode cX10_removePool 21 = .ok (.iaload, 1) := by decide +kernel
theorem dX10_removePool_22 : decode cX10_removePool 22 = .ok (.aload_n 0, 1) := by decide +kernel
theorem dX10_removePool_23 : decode cX10_removePool 23 = .ok (.getfield 7, 3) := by decide +kernel
theorem dX10_removePool_26 : decode cX10_removePool 26 = .ok (.bipush 6, 2) := by decide +kernel
theorem dX10_removePool_28 : decode cX10_removePool 28 = .ok (.iconst 2, 1) := by decide +kernel
theorem dX10_removePool_29 : decode cX10_removePool 29 = .ok (.iload_n 1, 1) := by decide +kernel
theorem dX10_removePool_30 : decode cX10_removePool 30 = .ok (.imul, 1) := by decide +kernel
theorem dX10_removePool_31 : decode cX10_removePool 31 = .ok (.iadd, 1) := by decide +kernel
theorem dX10_removePool_32 : decode cX10_removePool 32 = .ok (.iconst 1, 1) := by decide +kernel
theorem dX10_removePool_33 : decode cX10_removePool 33 = .ok (.iadd, 1) := by decide +kernel
theorem dX10_removePool_34 : decode cX10_removePool 34 = .ok (.iaload, 1) := by decide +kernel
theorem dX10_removePool_35 : decode cX10_removePool 35 = .ok (.invokevirtual 59, 3) := by decide +kernel
theorem dX10_removePool_38 : decode cX10_removePool 38 = .ok (.ifCond .le 6, 3) := by decide +kernel
theorem dX10_removePool_41 : decode cX10_removePool 41 = .ok (.bipush (-2), 2) := by decide +kernel
theorem dX10_removePool_43 : decode cX10_removePool 43 = .ok (.ireturn, 1) := by decide +kernel
theorem dX10_removePool_44 : decode cX10_removePool 44 = .ok (.aload_n 0, 1) := by decide +kernel
theorem dX10_removePool_45 : decode cX10_removePool 45 = .ok (.invokevirtual 170, 3) := by decide +kernel
theorem dX10_removePool_48 : decode cX10_removePool 48 = .ok (.aload_n 0, 1) := by decide +kernel
theorem dX10_removePool_49 : decode cX10_removePool 49 = .ok (.getfield 7, 3) := by decide +kernel
theorem dX10_removePool_52 : decode cX10_removePool 52 = .ok (.iconst 5, 1) := by decide +kernel
theorem dX10_removePool_53 : decode cX10_removePool 53 = .ok (.dup2, 1) := by decide +kernel
theorem dX10_removePool_54 : decode cX10_removePool 54 = .ok (.iaload, 1) := by decide +kernel
theorem dX10_removePool_55 : decode cX10_removePool 55 = .ok (.iconst 1, 1) := by decide +kernel
theorem dX10_removePool_56 : decode cX10_removePool 56 = .ok (.isub, 1) := by decide +kernel
theorem dX10_removePool_57 : decode cX10_removePool 57 = .ok (.iastore, 1) := by decide +kernel
theorem dX10_removePool_58 : decode cX10_removePool 58 = .ok (.bipush 6, 2) := by decide +kernel
theorem dX10_removePool_60 : decode cX10_removePool 60 = .ok (.iconst 2, 1) := by decide +kernel
theorem dX10_removePool_61 : decode cX10_removePool 61 = .ok (.iload_n 1, 1) := by decide +kernel
theorem dX10_removePool_62 : decode cX10_removePool 62 = .ok (.imul, 1) := by decide +kernel
theorem dX10_removePool_63 : decode cX10_removePool 63 = .ok (.iadd, 1) := by decide +kernel
theorem dX10_removePool_64 : decode cX10_removePool 64 = .ok (.istore_n 2, 1) := by decide +kernel
theorem dX10_removePool_65 : decode cX10_removePool 65 = .ok (.iload_n 2, 1) := by decide +kernel
theorem dX10_removePool_66 : decode cX10_removePool 66 = .ok (.bipush 6, 2) := by decide +kernel
theorem dX10_removePool_68 : decode cX10_removePool 68 = .ok (.iconst 2, 1) := by decide +kernel
theorem dX10_removePool_69 : decode cX10_removePool 69 = .ok (.aload_n 0, 1) := by decide +kernel

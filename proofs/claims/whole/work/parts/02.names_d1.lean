theorem dX0_init_0 : decode cX0_init 0 = .ok (.aload_n 0, 1) := by decide +kernel
theorem dX0_init_1 : decode cX0_init 1 = .ok (.invokespecial 3, 3) := by decide +kernel
theorem dX0_init_4 : decode cX0_init 4 = .ok (.aload_n 0, 1) := by decide +kernel
theorem dX0_init_5 : decode cX0_init 5 = .ok (.sipush 292, 3) := by decide +kernel
theorem dX0_init_8 : decode cX0_init 8 = .ok (.newarray .int, 2) := by decide +kernel
theorem dX0_init_10 : decode cX0_init 10 = .ok (.putfield 9, 3) := by decide +kernel
theorem dX0_init_13 : decode cX0_init 13 = .ok (.aload_n 0, 1) := by decide +kernel
theorem dX0_init_14 : decode cX0_init 14 = .ok (.sipush 292, 3) := by decide +kernel
theorem dX0_init_17 : decode cX0_init 17 = .ok (.newarray .int, 2) := by decide +kernel
theorem dX0_init_19 : decode cX0_init 19 = .ok (.putfield 15, 3) := by decide +kernel
theorem dX0_init_22 : decode cX0_init 22 = .ok (.return_, 1) := by decide +kernel
theorem dX0_holds_0 : decode cX0_holds 0 = .ok (.iload_n 1, 1) := by decide +kernel
theorem dX0_holds_1 : decode cX0_holds 1 = .ok (.ifCond .lt 22, 3) := by decide +kernel
theorem dX0_holds_4 : decode cX0_holds 4 = .ok (.iload_n 1, 1) := by decide +kernel
theorem dX0_holds_5 : decode cX0_holds 5 = .ok (.aload_n 0, 1) := by decide +kernel
theorem dX0_holds_6 : decode cX0_holds 6 = .ok (.getfield 18, 3) := by decide +kernel
theorem dX0_holds_9 : decode cX0_holds 9 = .ok (.if_icmp .ge 14, 3) := by decide +kernel
theorem dX0_holds_12 : decode cX0_holds 12 = .ok (.iload_n 1, 1) := by decide +kernel
theorem dX0_holds_13 : decode cX0_holds 13 = .ok (.sipush 292, 3) := by decide +kernel
theorem dX0_holds_16 : decode cX0_holds 16 = .ok (.if_icmp .ge 7, 3) := by decide +kernel
theorem dX0_holds_19 : decode cX0_holds 19 = .ok (.iconst 1, 1) := by decide +kernel
theorem dX0_holds_20 : decode cX0_holds 20 = .ok (.goto 4, 3) := by decide +kernel
theorem dX0_holds_23 : decode cX0_holds 23 = .ok (.iconst 0, 1) := by decide +kernel
theorem dX0_holds_24 : decode cX0_holds 24 = .ok (.ireturn, 1) := by decide +kernel
theorem dX0_addStretch_0 : decode cX0_addStretch 0 = .ok (.iload_n 1, 1) := by decide +kernel
theorem dX0_addStretch_1 : decode cX0_addStretch 1 = .ok (.istore_n 3, 1) := by decide +kernel
theorem dX0_addStretch_2 : decode cX0_addStretch 2 = .ok (.iload_n 3, 1) := by decide +kernel
theorem dX0_addStretch_3 : decode cX0_addStretch 3 = .ok (.iload_n 2, 1) := by decide +kernel
theorem dX0_addStretch_4 : decode cX0_addStretch 4 = .ok (.if_icmp .ge 100, 3) := by decide +kernel
theorem dX0_addStretch_7 : decode cX0_addStretch 7 = .ok (.aload_n 0, 1) := by decide +kernel
theorem dX0_addStretch_8 : decode cX0_addStretch 8 = .ok (.getfield 18, 3) := by decide +kernel
theorem dX0_addStretch_11 : decode cX0_addStretch 11 = .ok (.ifCond .lt 93, 3) := by decide +kernel
theorem dX0_addStretch_14 : decode cX0_addStretch 14 = .ok (.aload_n 0, 1) := by decide +kernel
theorem dX0_addStretch_15 : decode cX0_addStretch 15 = .ok (.getfield 18, 3) := by decide +kernel
theorem dX0_addStretch_18 : decode cX0_addStretch 18 = .ok (.sipush 292, 3) := by decide +kernel
theorem dX0_addStretch_21 : decode cX0_addStretch 21 = .ok (.if_icmp .ge 83, 3) := by decide +kernel
theorem dX0_addStretch_24 : decode cX0_addStretch 24 = .ok (.iconst 1, 1) := by decide +kernel
theorem dX0_addStretch_25 : decode cX0_addStretch 25 = .ok (.istore 4, 2) := by decide +kernel
theorem dX0_addStretch_27 : decode cX0_addStretch 27 = .ok (.bipush 16, 2) := by decide +kernel
theorem dX0_addStretch_29 : decode cX0_addStretch 29 = .ok (.istore 5, 2) := by decide +kernel
theorem dX0_addStretch_31 : decode cX0_addStretch 31 = .ok (.iload 5, 2) := by decide +kernel
theorem dX0_addStretch_33 : decode cX0_addStretch 33 = .ok (.ifCond .le 32, 3) := by decide +kernel
theorem dX0_addStretch_36 : decode cX0_addStretch 36 = .ok (.iload_n 3, 1) := by decide +kernel
theorem dX0_addStretch_37 : decode cX0_addStretch 37 = .ok (.iload 4, 2) := by decide +kernel
theorem dX0_addStretch_39 : decode cX0_addStretch 39 = .ok (.iand, 1) := by decide +kernel
theorem dX0_addStretch_40 : decode cX0_addStretch 40 = .ok (.ifCond .ne 25, 3) := by decide +kernel
theorem dX0_addStretch_43 : decode cX0_addStretch 43 = .ok (.iload_n 3, 1) := by decide +kernel
theorem dX0_addStretch_44 : decode cX0_addStretch 44 = .ok (.iconst 2, 1) := by decide +kernel
theorem dX0_addStretch_45 : decode cX0_addStretch 45 = .ok (.iload 4, 2) := by decide +kernel
theorem dX0_addStretch_47 : decode cX0_addStretch 47 = .ok (.imul, 1) := by decide +kernel
theorem dX0_addStretch_48 : decode cX0_addStretch 48 = .ok (.iadd, 1) := by decide +kernel
theorem dX0_addStretch_49 : decode cX0_addStretch 49 = .ok (.iload_n 2, 1) := by decide +kernel
theorem dX0_addStretch_50 : decode cX0_addStretch 50 = .ok (.if_icmp .gt 15, 3) := by decide +kernel
theorem dX0_addStretch_53 : decode cX0_addStretch 53 = .ok (.iload 4, 2) := by decide +kernel
theorem dX0_addStretch_55 : decode cX0_addStretch 55 = .ok (.iconst 2, 1) := by decide +kernel
theorem dX0_addStretch_56 : decode cX0_addStretch 56 = .ok (.imul, 1) := by decide +kernel
theorem dX0_addStretch_57 : decode cX0_addStretch 57 = .ok (.istore 4, 2) := by decide +kernel
theorem dX0_addStretch_59 : decode cX0_addStretch 59 = .ok (.iinc 5 (-1), 3) := by decide +kernel
theorem dX0_addStretch_62 : decode cX0_addStretch 62 = .ok (.goto (-31), 3) := by decide +kernel
theorem dX0_addStretch_65 : decode cX0_addStretch 65 = .ok (.aload_n 0, 1) := by decide +kernel
theorem dX0_addStretch_66 : decode cX0_addStretch 66 = .ok (.getfield 9, 3) := by decide +kernel
theorem dX0_addStretch_69 : decode cX0_addStretch 69 = .ok (.aload_n 0, 1) := by decide +kernel
theorem dX0_addStretch_70 : decode cX0_addStretch 70 = .ok (.getfield 18, 3) := by decide +kernel
theorem dX0_addStretch_73 : decode cX0_addStretch 73 = .ok (.iload_n 3, 1) := by decide +kernel
theorem dX0_addStretch_74 : decode cX0_addStretch 74 = .ok (.iastore, 1) := by decide +kernel
theorem dX0_addStretch_75 : decode cX0_addStretch 75 = .ok (.aload_n 0, 1) := by decide +kernel
theorem dX0_addStretch_76 : decode cX0_addStretch 76 = .ok (.getfield 15, 3) := by decide +kernel
theorem dX0_addStretch_79 : decode cX0_addStretch 79 = .ok (.aload_n 0, 1) := by decide +kernel
theorem dX0_addStretch_80 : decode cX0_addStretch 80 = .ok (.getfield 18, 3) := by decide +kernel
theorem dX0_addStretch_83 : decode cX0_addStretch 83 = .ok (.iload 5, 2) := by decide +kernel
theorem dX0_addStretch_85 : decode cX0_addStretch 85 = .ok (.iastore, 1) := by decide +kernel
theorem dX0_addStretch_86 : decode cX0_addStretch 86 = .ok (.aload_n 0, 1) := by decide +kernel
theorem dX0_addStretch_87 : decode cX0_addStretch 87 = .ok (.dup, 1) := by decide +kernel
theorem dX0_addStretch_88 : decode cX0_addStretch 88 = .ok (.getfield 18, 3) := by decide +kernel
theorem dX0_addStretch_91 : decode cX0_addStretch 91 = .ok (.iconst 1, 1) := by decide +kernel
theorem dX0_addStretch_92 : decode cX0_addStretch 92 = .ok (.iadd, 1) := by decide +kernel
theorem dX0_addStretch_93 : decode cX0_addStretch 93 = .ok (.putfield 18, 3) := by decide +kernel
theorem dX0_addStretch_96 : decode cX0_addStretch 96 = .ok (.iload_n 3, 1) := by decide +kernel
theorem dX0_addStretch_97 : decode cX0_addStretch 97 = .ok (.iload 4, 2) := by decide +kernel
theorem dX0_addStretch_99 : decode cX0_addStretch 99 = .ok (.iadd, 1) := by decide +kernel
theorem dX0_addStretch_100 : decode cX0_addStretch 100 = .ok (.istore_n 3, 1) := by decide +kernel
theorem dX0_addStretch_101 : decode cX0_addStretch 101 = .ok (.goto (-99), 3) := by decide +kernel
theorem dX0_addStretch_104 : decode cX0_addStretch 104 = .ok (.return_, 1) := by decide +kernel
theorem dX0_addresses_0 : decode cX0_addresses 0 = .ok (.iconst 0, 1) := by decide +kernel
theorem dX0_addresses_1 : decode cX0_addresses 1 = .ok (.istore_n 1, 1) := by decide +kernel
theorem dX0_addresses_2 : decode cX0_addresses 2 = .ok (.iconst 0, 1) := by decide +kernel
theorem dX0_addresses_3 : decode cX0_addresses 3 = .ok (.istore_n 2, 1) := by decide +kernel
theorem dX0_addresses_4 : decode cX0_addresses 4 = .ok (.iload_n 2, 1) := by decide +kernel
theorem dX0_addresses_5 : decode cX0_addresses 5 = .ok (.sipush 292, 3) := by decide +kernel
theorem dX0_addresses_8 : decode cX0_addresses 8 = .ok (.if_icmp .ge 29, 3) := by decide +kernel
theorem dX0_addresses_11 : decode cX0_addresses 11 = .ok (.iload_n 2, 1) := by decide +kernel
theorem dX0_addresses_12 : decode cX0_addresses 12 = .ok (.aload_n 0, 1) := by decide +kernel
theorem dX0_addresses_13 : decode cX0_addresses 13 = .ok (.getfield 18, 3) := by decide +kernel
theorem dX0_addresses_16 : decode cX0_addresses 16 = .ok (.if_icmp .ge 21, 3) := by decide +kernel
theorem dX0_addresses_19 : decode cX0_addresses 19 = .ok (.iload_n 1, 1) := by decide +kernel
theorem dX0_addresses_20 : decode cX0_addresses 20 = .ok (.aload_n 0, 1) := by decide +kernel
theorem dX0_addresses_21 : decode cX0_addresses 21 = .ok (.getfield 15, 3) := by decide +kernel
theorem dX0_addresses_24 : decode cX0_addresses 24 = .ok (.iload_n 2, 1) := by decide +kernel
theorem dX0_addresses_25 : decode cX0_addresses 25 = .ok (.iaload, 1) := by decide +kernel
theorem dX0_addresses_26 : decode cX0_addresses 26 = .ok (.invokestatic 22, 3) := by decide +kernel
theorem dX0_addresses_29 : decode cX0_addresses 29 = .ok (.iadd, 1) := by decide +kernel
theorem dX0_addresses_30 : decode cX0_addresses 30 = .ok (.istore_n 1, 1) := by decide +kernel
theorem dX0_addresses_31 : decode cX0_addresses 31 = .ok (.iinc 2 1, 3) := by decide +kernel
theorem dX0_addresses_34 : decode cX0_addresses 34 = .ok (.goto (-30), 3) := by decide +kernel
theorem dX0_addresses_37 : decode cX0_addresses 37 = .ok (.iload_n 1, 1) := by decide +kernel
theorem dX0_addresses_38 : decode cX0_addresses 38 = .ok (.ireturn, 1) := by decide +kernel
theorem dX0_addressesIn_0 : decode cX0_addressesIn 0 = .ok (.iconst 0, 1) := by decide +kernel
theorem dX0_addressesIn_1 : decode cX0_addressesIn 1 = .ok (.istore_n 3, 1) := by decide +kernel
theorem dX0_addressesIn_2 : decode cX0_addressesIn 2 = .ok (.iconst 0, 1) := by decide +kernel
theorem dX0_addressesIn_3 : decode cX0_addressesIn 3 = .ok (.istore 4, 2) := by decide +kernel
theorem dX0_addressesIn_5 : decode cX0_addressesIn 5 = .ok (.iload 4, 2) := by decide +kernel
theorem dX0_addressesIn_7 : decode cX0_addressesIn 7 = .ok (.sipush 292, 3) := by decide +kernel
theorem dX0_addressesIn_10 : decode cX0_addressesIn 10 = .ok (.if_icmp .ge 50, 3) := by decide +kernel
theorem dX0_addressesIn_13 : decode cX0_addressesIn 13 = .ok (.iload 4, 2) := by decide +kernel
theorem dX0_addressesIn_15 : decode cX0_addressesIn 15 = .ok (.aload_n 0, 1) := by decide +kernel
theorem dX0_addressesIn_16 : decode cX0_addressesIn 16 = .ok (.getfield 18, 3) := by decide +kernel
theorem dX0_addressesIn_19 : decode cX0_addressesIn 19 = .ok (.if_icmp .ge 41, 3) := by decide +kernel
theorem dX0_addressesIn_22 : decode cX0_addressesIn 22 = .ok (.iload_n 3, 1) := by decide +kernel
theorem dX0_addressesIn_23 : decode cX0_addressesIn 23 = .ok (.iload_n 1, 1) := by decide +kernel
theorem dX0_addressesIn_24 : decode cX0_addressesIn 24 = .ok (.iload_n 2, 1) := by decide +kernel
theorem dX0_addressesIn_25 : decode cX0_addressesIn 25 = .ok (.aload_n 0, 1) := by decide +kernel
theorem dX0_addressesIn_26 : decode cX0_addressesIn 26 = .ok (.getfield 9, 3) := by decide +kernel
theorem dX0_addressesIn_29 : decode cX0_addressesIn 29 = .ok (.iload 4, 2) := by decide +kernel
theorem dX0_addressesIn_31 : decode cX0_addressesIn 31 = .ok (.iaload, 1) := by decide +kernel
theorem dX0_addressesIn_32 : decode cX0_addressesIn 32 = .ok (.invokestatic 26, 3) := by decide +kernel
theorem dX0_addressesIn_35 : decode cX0_addressesIn 35 = .ok (.ifCond .eq 16, 3) := by decide +kernel
theorem dX0_addressesIn_38 : decode cX0_addressesIn 38 = .ok (.aload_n 0, 1) := by decide +kernel
theorem dX0_addressesIn_39 : decode cX0_addressesIn 39 = .ok (.getfield 15, 3) := by decide +kernel
theorem dX0_addressesIn_42 : decode cX0_addressesIn 42 = .ok (.iload 4, 2) := by decide +kernel
theorem dX0_addressesIn_44 : decode cX0_addressesIn 44 = .ok (.iaload, 1) := by decide +kernel
theorem dX0_addressesIn_45 : decode cX0_addressesIn 45 = .ok (.invokestatic 22, 3) := by decide +kernel
theorem dX0_addressesIn_48 : decode cX0_addressesIn 48 = .ok (.goto 4, 3) := by decide +kernel
theorem dX0_addressesIn_51 : decode cX0_addressesIn 51 = .ok (.iconst 0, 1) := by decide +kernel
theorem dX0_addressesIn_52 : decode cX0_addressesIn 52 = .ok (.iadd, 1) := by decide +kernel
theorem dX0_addressesIn_53 : decode cX0_addressesIn 53 = .ok (.istore_n 3, 1) := by decide +kernel
theorem dX0_addressesIn_54 : decode cX0_addressesIn 54 = .ok (.iinc 4 1, 3) := by decide +kernel
theorem dX0_addressesIn_57 : decode cX0_addressesIn 57 = .ok (.goto (-52), 3) := by decide +kernel
theorem dX0_addressesIn_60 : decode cX0_addressesIn 60 = .ok (.iload_n 3, 1) := by decide +kernel
theorem dX0_addressesIn_61 : decode cX0_addressesIn 61 = .ok (.ireturn, 1) := by decide +kernel
theorem dX0_blocksIn_0 : decode cX0_blocksIn 0 = .ok (.iconst 0, 1) := by decide +kernel
theorem dX0_blocksIn_1 : decode cX0_blocksIn 1 = .ok (.istore_n 3, 1) := by decide +kernel
theorem dX0_blocksIn_2 : decode cX0_blocksIn 2 = .ok (.iconst 0, 1) := by decide +kernel
theorem dX0_blocksIn_3 : decode cX0_blocksIn 3 = .ok (.istore 4, 2) := by decide +kernel
theorem dX0_blocksIn_5 : decode cX0_blocksIn 5 = .ok (.iload 4, 2) := by decide +kernel
theorem dX0_blocksIn_7 : decode cX0_blocksIn 7 = .ok (.sipush 292, 3) := by decide +kernel
theorem dX0_blocksIn_10 : decode cX0_blocksIn 10 = .ok (.if_icmp .ge 41, 3) := by decide +kernel
theorem dX0_blocksIn_13 : decode cX0_blocksIn 13 = .ok (.iload 4, 2) := by decide +kernel
theorem dX0_blocksIn_15 : decode cX0_blocksIn 15 = .ok (.aload_n 0, 1) := by decide +kernel
theorem dX0_blocksIn_16 : decode cX0_blocksIn 16 = .ok (.getfield 18, 3) := by decide +kernel
theorem dX0_blocksIn_19 : decode cX0_blocksIn 19 = .ok (.if_icmp .ge 32, 3) := by decide +kernel
theorem dX0_blocksIn_22 : decode cX0_blocksIn 22 = .ok (.iload_n 3, 1) := by decide +kernel
theorem dX0_blocksIn_23 : decode cX0_blocksIn 23 = .ok (.iload_n 1, 1) := by decide +kernel
theorem dX0_blocksIn_24 : decode cX0_blocksIn 24 = .ok (.iload_n 2, 1) := by decide +kernel
theorem dX0_blocksIn_25 : decode cX0_blocksIn 25 = .ok (.aload_n 0, 1) := by decide +kernel
theorem dX0_blocksIn_26 : decode cX0_blocksIn 26 = .ok (.getfield 9, 3) := by decide +kernel
theorem dX0_blocksIn_29 : decode cX0_blocksIn 29 = .ok (.iload 4, 2) := by decide +kernel
theorem dX0_blocksIn_31 : decode cX0_blocksIn 31 = .ok (.iaload, 1) := by decide +kernel
theorem dX0_blocksIn_32 : decode cX0_blocksIn 32 = .ok (.invokestatic 26, 3) := by decide +kernel
theorem dX0_blocksIn_35 : decode cX0_blocksIn 35 = .ok (.ifCond .eq 7, 3) := by decide +kernel
theorem dX0_blocksIn_38 : decode cX0_blocksIn 38 = .ok (.iconst 1, 1) := by decide +kernel
theorem dX0_blocksIn_39 : decode cX0_blocksIn 39 = .ok (.goto 4, 3) := by decide +kernel
theorem dX0_blocksIn_42 : decode cX0_blocksIn 42 = .ok (.iconst 0, 1) := by decide +kernel
theorem dX0_blocksIn_43 : decode cX0_blocksIn 43 = .ok (.iadd, 1) := by decide +kernel
theorem dX0_blocksIn_44 : decode cX0_blocksIn 44 = .ok (.istore_n 3, 1) := by decide +kernel
theorem dX0_blocksIn_45 : decode cX0_blocksIn 45 = .ok (.iinc 4 1, 3) := by decide +kernel
theorem dX0_blocksIn_48 : decode cX0_blocksIn 48 = .ok (.goto (-43), 3) := by decide +kernel
theorem dX0_blocksIn_51 : decode cX0_blocksIn 51 = .ok (.iload_n 3, 1) := by decide +kernel
theorem dX0_blocksIn_52 : decode cX0_blocksIn 52 = .ok (.ireturn, 1) := by decide +kernel
theorem dX0_blocksOf_0 : decode cX0_blocksOf 0 = .ok (.iconst 0, 1) := by decide +kernel
theorem dX0_blocksOf_1 : decode cX0_blocksOf 1 = .ok (.istore_n 2, 1) := by decide +kernel
theorem dX0_blocksOf_2 : decode cX0_blocksOf 2 = .ok (.iconst 0, 1) := by decide +kernel
theorem dX0_blocksOf_3 : decode cX0_blocksOf 3 = .ok (.istore_n 3, 1) := by decide +kernel
theorem dX0_blocksOf_4 : decode cX0_blocksOf 4 = .ok (.iload_n 3, 1) := by decide +kernel
theorem dX0_blocksOf_5 : decode cX0_blocksOf 5 = .ok (.sipush 292, 3) := by decide +kernel
theorem dX0_blocksOf_8 : decode cX0_blocksOf 8 = .ok (.if_icmp .ge 35, 3) := by decide +kernel
theorem dX0_blocksOf_11 : decode cX0_blocksOf 11 = .ok (.iload_n 3, 1) := by decide +kernel
theorem dX0_blocksOf_12 : decode cX0_blocksOf 12 = .ok (.aload_n 0, 1) := by decide +kernel
theorem dX0_blocksOf_13 : decode cX0_blocksOf 13 = .ok (.getfield 18, 3) := by decide +kernel
theorem dX0_blocksOf_16 : decode cX0_blocksOf 16 = .ok (.if_icmp .ge 27, 3) := by decide +kernel
theorem dX0_blocksOf_19 : decode cX0_blocksOf 19 = .ok (.iload_n 2, 1) := by decide +kernel
theorem dX0_blocksOf_20 : decode cX0_blocksOf 20 = .ok (.aload_n 0, 1) := by decide +kernel
theorem dX0_blocksOf_21 : decode cX0_blocksOf 21 = .ok (.getfield 15, 3) := by decide +kernel
theorem dX0_blocksOf_24 : decode cX0_blocksOf 24 = .ok (.iload_n 3, 1) := by decide +kernel
theorem dX0_blocksOf_25 : decode cX0_blocksOf 25 = .ok (.iaload, 1) := by decide +kernel
theorem dX0_blocksOf_26 : decode cX0_blocksOf 26 = .ok (.iload_n 1, 1) := by decide +kernel
theorem dX0_blocksOf_27 : decode cX0_blocksOf 27 = .ok (.if_icmp .ne 7, 3) := by decide +kernel
theorem dX0_blocksOf_30 : decode cX0_blocksOf 30 = .ok (.iconst 1, 1) := by decide +kernel
theorem dX0_blocksOf_31 : decode cX0_blocksOf 31 = .ok (.goto 4, 3) := by decide +kernel
theorem dX0_blocksOf_34 : decode cX0_blocksOf 34 = .ok (.iconst 0, 1) := by decide +kernel
theorem dX0_blocksOf_35 : decode cX0_blocksOf 35 = .ok (.iadd, 1) := by decide +kernel
theorem dX0_blocksOf_36 : decode cX0_blocksOf 36 = .ok (.istore_n 2, 1) := by decide +kernel
theorem dX0_blocksOf_37 : decode cX0_blocksOf 37 = .ok (.iinc 3 1, 3) := by decide +kernel
theorem dX0_blocksOf_40 : decode cX0_blocksOf 40 = .ok (.goto (-36), 3) := by decide +kernel
theorem dX0_blocksOf_43 : decode cX0_blocksOf 43 = .ok (.iload_n 2, 1) := by decide +kernel
theorem dX0_blocksOf_44 : decode cX0_blocksOf 44 = .ok (.ireturn, 1) := by decide +kernel
theorem dX0_shortest_0 : decode cX0_shortest 0 = .ok (.iconst (-1), 1) := by decide +kernel
theorem dX0_shortest_1 : decode cX0_shortest 1 = .ok (.istore_n 1, 1) := by decide +kernel
theorem dX0_shortest_2 : decode cX0_shortest 2 = .ok (.iconst 0, 1) := by decide +kernel
theorem dX0_shortest_3 : decode cX0_shortest 3 = .ok (.istore_n 2, 1) := by decide +kernel
theorem dX0_shortest_4 : decode cX0_shortest 4 = .ok (.iload_n 2, 1) := by decide +kernel
theorem dX0_shortest_5 : decode cX0_shortest 5 = .ok (.sipush 292, 3) := by decide +kernel
theorem dX0_shortest_8 : decode cX0_shortest 8 = .ok (.if_icmp .ge 39, 3) := by decide +kernel
theorem dX0_shortest_11 : decode cX0_shortest 11 = .ok (.iload_n 2, 1) := by decide +kernel
theorem dX0_shortest_12 : decode cX0_shortest 12 = .ok (.aload_n 0, 1) := by decide +kernel
theorem dX0_shortest_13 : decode cX0_shortest 13 = .ok (.getfield 18, 3) := by decide +kernel
theorem dX0_shortest_16 : decode cX0_shortest 16 = .ok (.if_icmp .ge 31, 3) := by decide +kernel
theorem dX0_shortest_19 : decode cX0_shortest 19 = .ok (.iload_n 1, 1) := by decide +kernel
theorem dX0_shortest_20 : decode cX0_shortest 20 = .ok (.iconst (-1), 1) := by decide +kernel
theorem dX0_shortest_21 : decode cX0_shortest 21 = .ok (.if_icmp .eq 13, 3) := by decide +kernel
theorem dX0_shortest_24 : decode cX0_shortest 24 = .ok (.aload_n 0, 1) := by decide +kernel
theorem dX0_shortest_25 : decode cX0_shortest 25 = .ok (.getfield 15, 3) := by decide +kernel
theorem dX0_shortest_28 : decode cX0_shortest 28 = .ok (.iload_n 2, 1) := by decide +kernel
theorem dX0_shortest_29 : decode cX0_shortest 29 = .ok (.iaload, 1) := by decide +kernel
theorem dX0_shortest_30 : decode cX0_shortest 30 = .ok (.iload_n 1, 1) := by decide +kernel
theorem dX0_shortest_31 : decode cX0_shortest 31 = .ok (.if_icmp .ge 10, 3) := by decide +kernel
theorem dX0_shortest_34 : decode cX0_shortest 34 = .ok (.aload_n 0, 1) := by decide +kernel
theorem dX0_shortest_35 : decode cX0_shortest 35 = .ok (.getfield 15, 3) := by decide +kernel
theorem dX0_shortest_38 : decode cX0_shortest 38 = .ok (.iload_n 2, 1) := by decide +kernel
theorem dX0_shortest_39 : decode cX0_shortest 39 = .ok (.iaload, 1) := by decide +kernel
theorem dX0_shortest_40 : decode cX0_shortest 40 = .ok (.istore_n 1, 1) := by decide +kernel
theorem dX0_shortest_41 : decode cX0_shortest 41 = .ok (.iinc 2 1, 3) := by decide +kernel
theorem dX0_shortest_44 : decode cX0_shortest 44 = .ok (.goto (-40), 3) := by decide +kernel
theorem dX0_shortest_47 : decode cX0_shortest 47 = .ok (.iload_n 1, 1) := by decide +kernel
theorem dX0_shortest_48 : decode cX0_shortest 48 = .ok (.ireturn, 1) := by decide +kernel
theorem dX0_roomFor_0 : decode cX0_roomFor 0 = .ok (.iconst 0, 1) := by decide +kernel
theorem dX0_roomFor_1 : decode cX0_roomFor 1 = .ok (.istore_n 2, 1) := by decide +kernel
theorem dX0_roomFor_2 : decode cX0_roomFor 2 = .ok (.iconst 0, 1) := by decide +kernel
theorem dX0_roomFor_3 : decode cX0_roomFor 3 = .ok (.istore_n 3, 1) := by decide +kernel
theorem dX0_roomFor_4 : decode cX0_roomFor 4 = .ok (.iload_n 3, 1) := by decide +kernel
theorem dX0_roomFor_5 : decode cX0_roomFor 5 = .ok (.sipush 292, 3) := by decide +kernel
theorem dX0_roomFor_8 : decode cX0_roomFor 8 = .ok (.if_icmp .ge 44, 3) := by decide +kernel
theorem dX0_roomFor_11 : decode cX0_roomFor 11 = .ok (.iload_n 3, 1) := by decide +kernel
theorem dX0_roomFor_12 : decode cX0_roomFor 12 = .ok (.aload_n 0, 1) := by decide +kernel
theorem dX0_roomFor_13 : decode cX0_roomFor 13 = .ok (.getfield 18, 3) := by decide +kernel
theorem dX0_roomFor_16 : decode cX0_roomFor 16 = .ok (.if_icmp .ge 36, 3) := by decide +kernel
theorem dX0_roomFor_19 : decode cX0_roomFor 19 = .ok (.iload_n 2, 1) := by decide +kernel
theorem dX0_roomFor_20 : decode cX0_roomFor 20 = .ok (.aload_n 0, 1) := by decide +kernel
theorem dX0_roomFor_21 : decode cX0_roomFor 21 = .ok (.getfield 15, 3) := by decide +kernel
theorem dX0_roomFor_24 : decode cX0_roomFor 24 = .ok (.iload_n 3, 1) := by decide +kernel
theorem dX0_roomFor_25 : decode cX0_roomFor 25 = .ok (.iaload, 1) := by decide +kernel
theorem dX0_roomFor_26 : decode cX0_roomFor 26 = .ok (.iload_n 1, 1) := by decide +kernel
theorem dX0_roomFor_27 : decode cX0_roomFor 27 = .ok (.if_icmp .gt 16, 3) := by decide +kernel
theorem dX0_roomFor_30 : decode cX0_roomFor 30 = .ok (.iconst 1, 1) := by decide +kernel
theorem dX0_roomFor_31 : decode cX0_roomFor 31 = .ok (.iload_n 1, 1) := by decide +kernel
theorem dX0_roomFor_32 : decode cX0_roomFor 32 = .ok (.aload_n 0, 1) := by decide +kernel
theorem dX0_roomFor_33 : decode cX0_roomFor 33 = .ok (.getfield 15, 3) := by decide +kernel
theorem dX0_roomFor_36 : decode cX0_roomFor 36 = .ok (.iload_n 3, 1) := by decide +kernel
theorem dX0_roomFor_37 : decode cX0_roomFor 37 = .ok (.iaload, 1) := by decide +kernel
theorem dX0_roomFor_38 : decode cX0_roomFor 38 = .ok (.isub, 1) := by decide +kernel
theorem dX0_roomFor_39 : decode cX0_roomFor 39 = .ok (.ishl, 1) := by decide +kernel
theorem dX0_roomFor_40 : decode cX0_roomFor 40 = .ok (.goto 4, 3) := by decide +kernel
theorem dX0_roomFor_43 : decode cX0_roomFor 43 = .ok (.iconst 0, 1) := by decide +kernel
theorem dX0_roomFor_44 : decode cX0_roomFor 44 = .ok (.iadd, 1) := by decide +kernel
theorem dX0_roomFor_45 : decode cX0_roomFor 45 = .ok (.istore_n 2, 1) := by decide +kernel
theorem dX0_roomFor_46 : decode cX0_roomFor 46 = .ok (.iinc 3 1, 3) := by decide +kernel
theorem dX0_roomFor_49 : decode cX0_roomFor 49 = .ok (.goto (-45), 3) := by decide +kernel
theorem dX0_roomFor_52 : decode cX0_roomFor 52 = .ok (.iload_n 2, 1) := by decide +kernel
theorem dX0_roomFor_53 : decode cX0_roomFor 53 = .ok (.ireturn, 1) := by decide +kernel
theorem dX0_fragmentationIndex_0 : decode cX0_fragmentationIndex 0 = .ok (.aload_n 0, 1) := by decide +kernel
theorem dX0_fragmentationIndex_1 : decode cX0_fragmentationIndex 1 = .ok (.invokevirtual 30, 3) := by decide +kernel
theorem dX0_fragmentationIndex_4 : decode cX0_fragmentationIndex 4 = .ok (.istore_n 1, 1) := by decide +kernel
theorem dX0_fragmentationIndex_5 : decode cX0_fragmentationIndex 5 = .ok (.iload_n 1, 1) := by decide +kernel
theorem dX0_fragmentationIndex_6 : decode cX0_fragmentationIndex 6 = .ok (.ifCond .gt 7, 3) := by decide +kernel
theorem dX0_fragmentationIndex_9 : decode cX0_fragmentationIndex 9 = .ok (.iconst 0, 1) := by decide +kernel
theorem dX0_fragmentationIndex_10 : decode cX0_fragmentationIndex 10 = .ok (.goto 20, 3) := by decide +kernel
theorem dX0_fragmentationIndex_13 : decode cX0_fragmentationIndex 13 = .ok (.sipush 1000, 3) := by decide +kernel
theorem dX0_fragmentationIndex_16 : decode cX0_fragmentationIndex 16 = .ok (.sipush 1000, 3) := by decide +kernel
theorem dX0_fragmentationIndex_19 : decode cX0_fragmentationIndex 19 = .ok (.aload_n 0, 1) := by decide +kernel
theorem dX0_fragmentationIndex_20 : decode cX0_fragmentationIndex 20 = .ok (.invokevirtual 34, 3) := by decide +kernel
theorem dX0_fragmentationIndex_23 : decode cX0_fragmentationIndex 23 = .ok (.invokestatic 22, 3) := by decide +kernel
theorem dX0_fragmentationIndex_26 : decode cX0_fragmentationIndex 26 = .ok (.imul, 1) := by decide +kernel
theorem dX0_fragmentationIndex_27 : decode cX0_fragmentationIndex 27 = .ok (.iload_n 1, 1) := by decide +kernel
theorem dX0_fragmentationIndex_28 : decode cX0_fragmentationIndex 28 = .ok (.idiv, 1) := by decide +kernel
theorem dX0_fragmentationIndex_29 : decode cX0_fragmentationIndex 29 = .ok (.isub, 1) := by decide +kernel
theorem dX0_fragmentationIndex_30 : decode cX0_fragmentationIndex 30 = .ok (.ireturn, 1) := by decide +kernel
theorem dX0_placeBy_0 : decode cX0_placeBy 0 = .ok (.iconst (-1), 1) := by decide +kernel
theorem dX0_placeBy_1 : decode cX0_placeBy 1 = .ok (.istore_n 3, 1) := by decide +kernel
theorem dX0_placeBy_2 : decode cX0_placeBy 2 = .ok (.iconst 0, 1) := by decide +kernel
theorem dX0_placeBy_3 : decode cX0_placeBy 3 = .ok (.istore 4, 2) := by decide +kernel
theorem dX0_placeBy_5 : decode cX0_placeBy 5 = .ok (.iload 4, 2) := by decide +kernel
theorem dX0_placeBy_7 : decode cX0_placeBy 7 = .ok (.sipush 292, 3) := by decide +kernel
theorem dX0_placeBy_10 : decode cX0_placeBy 10 = .ok (.if_icmp .ge 48, 3) := by decide +kernel
theorem dX0_placeBy_13 : decode cX0_placeBy 13 = .ok (.iload 4, 2) := by decide +kernel
theorem dX0_placeBy_15 : decode cX0_placeBy 15 = .ok (.aload_n 0, 1) := by decide +kernel
theorem dX0_placeBy_16 : decode cX0_placeBy 16 = .ok (.getfield 18, 3) := by decide +kernel
theorem dX0_placeBy_19 : decode cX0_placeBy 19 = .ok (.if_icmp .ge 39, 3) := by decide +kernel
theorem dX0_placeBy_22 : decode cX0_placeBy 22 = .ok (.aload_n 0, 1) := by decide +kernel
theorem dX0_placeBy_23 : decode cX0_placeBy 23 = .ok (.getfield 15, 3) := by decide +kernel
theorem dX0_placeBy_26 : decode cX0_placeBy 26 = .ok (.iload 4, 2) := by decide +kernel
theorem dX0_placeBy_28 : decode cX0_placeBy 28 = .ok (.iaload, 1) := by decide +kernel
theorem dX0_placeBy_29 : decode cX0_placeBy 29 = .ok (.iload_n 2, 1) := by decide +kernel
theorem dX0_placeBy_30 : decode cX0_placeBy 30 = .ok (.if_icmp .gt 22, 3) := by decide +kernel
theorem dX0_placeBy_33 : decode cX0_placeBy 33 = .ok (.iload_n 3, 1) := by decide +kernel
theorem dX0_placeBy_34 : decode cX0_placeBy 34 = .ok (.iconst (-1), 1) := by decide +kernel
theorem dX0_placeBy_35 : decode cX0_placeBy 35 = .ok (.if_icmp .eq 14, 3) := by decide +kernel
theorem dX0_placeBy_38 : decode cX0_placeBy 38 = .ok (.aload_n 0, 1) := by decide +kernel
theorem dX0_placeBy_39 : decode cX0_placeBy 39 = .ok (.iload_n 1, 1) := by decide +kernel
theorem dX0_placeBy_40 : decode cX0_placeBy 40 = .ok (.iload 4, 2) := by decide +kernel
theorem dX0_placeBy_42 : decode cX0_placeBy 42 = .ok (.iload_n 3, 1) := by decide +kernel
theorem dX0_placeBy_43 : decode cX0_placeBy 43 = .ok (.invokevirtual 37, 3) := by decide +kernel
theorem dX0_placeBy_46 : decode cX0_placeBy 46 = .ok (.ifCond .eq 6, 3) := by decide +kernel
theorem dX0_placeBy_49 : decode cX0_placeBy 49 = .ok (.iload 4, 2) := by decide +kernel
theorem dX0_placeBy_51 : decode cX0_placeBy 51 = .ok (.istore_n 3, 1) := by decide +kernel
theorem dX0_placeBy_52 : decode cX0_placeBy 52 = .ok (.iinc 4 1, 3) := by decide +kernel
theorem dX0_placeBy_55 : decode cX0_placeBy 55 = .ok (.goto (-50), 3) := by decide +kernel
theorem dX0_placeBy_58 : decode cX0_placeBy 58 = .ok (.aload_n 0, 1) := by decide +kernel
theorem dX0_placeBy_59 : decode cX0_placeBy 59 = .ok (.iload_n 3, 1) := by decide +kernel
theorem dX0_placeBy_60 : decode cX0_placeBy 60 = .ok (.invokevirtual 40, 3) := by decide +kernel
theorem dX0_placeBy_63 : decode cX0_placeBy 63 = .ok (.ifCond .ne 5, 3) := by decide +kernel
theorem dX0_placeBy_66 : decode cX0_placeBy 66 = .ok (.iconst (-1), 1) := by decide +kernel
theorem dX0_placeBy_67 : decode cX0_placeBy 67 = .ok (.ireturn, 1) := by decide +kernel
theorem dX0_placeBy_68 : decode cX0_placeBy 68 = .ok (.iload_n 1, 1) := by decide +kernel
theorem dX0_placeBy_69 : decode cX0_placeBy 69 = .ok (.iconst 3, 1) := by decide +kernel
theorem dX0_placeBy_70 : decode cX0_placeBy 70 = .ok (.if_icmp .ne 20, 3) := by decide +kernel
theorem dX0_placeBy_73 : decode cX0_placeBy 73 = .ok (.aload_n 0, 1) := by decide +kernel
theorem dX0_placeBy_74 : decode cX0_placeBy 74 = .ok (.getfield 15, 3) := by decide +kernel
theorem dX0_placeBy_77 : decode cX0_placeBy 77 = .ok (.iload_n 3, 1) := by decide +kernel
theorem dX0_placeBy_78 : decode cX0_placeBy 78 = .ok (.iaload, 1) := by decide +kernel
theorem dX0_placeBy_79 : decode cX0_placeBy 79 = .ok (.invokestatic 22, 3) := by decide +kernel
theorem dX0_placeBy_82 : decode cX0_placeBy 82 = .ok (.iload_n 2, 1) := by decide +kernel
theorem dX0_placeBy_83 : decode cX0_placeBy 83 = .ok (.invokestatic 22, 3) := by decide +kernel
theorem dX0_placeBy_86 : decode cX0_placeBy 86 = .ok (.isub, 1) := by decide +kernel
theorem dX0_placeBy_87 : decode cX0_placeBy 87 = .ok (.goto 4, 3) := by decide +kernel
theorem dX0_placeBy_90 : decode cX0_placeBy 90 = .ok (.iconst 0, 1) := by decide +kernel
theorem dX0_placeBy_91 : decode cX0_placeBy 91 = .ok (.istore 4, 2) := by decide +kernel
theorem dX0_placeBy_93 : decode cX0_placeBy 93 = .ok (.aload_n 0, 1) := by decide +kernel
theorem dX0_placeBy_94 : decode cX0_placeBy 94 = .ok (.getfield 9, 3) := by decide +kernel
theorem dX0_placeBy_97 : decode cX0_placeBy 97 = .ok (.iload_n 3, 1) := by decide +kernel
theorem dX0_placeBy_98 : decode cX0_placeBy 98 = .ok (.iaload, 1) := by decide +kernel
theorem dX0_placeBy_99 : decode cX0_placeBy 99 = .ok (.iload 4, 2) := by decide +kernel
theorem dX0_placeBy_101 : decode cX0_placeBy 101 = .ok (.iadd, 1) := by decide +kernel
theorem dX0_placeBy_102 : decode cX0_placeBy 102 = .ok (.ireturn, 1) := by decide +kernel
theorem dX0_isBetter_0 : decode cX0_isBetter 0 = .ok (.aload_n 0, 1) := by decide +kernel
theorem dX0_isBetter_1 : decode cX0_isBetter 1 = .ok (.getfield 9, 3) := by decide +kernel
theorem dX0_isBetter_4 : decode cX0_isBetter 4 = .ok (.iload_n 2, 1) := by decide +kernel
theorem dX0_isBetter_5 : decode cX0_isBetter 5 = .ok (.iaload, 1) := by decide +kernel
theorem dX0_isBetter_6 : decode cX0_isBetter 6 = .ok (.aload_n 0, 1) := by decide +kernel
theorem dX0_isBetter_7 : decode cX0_isBetter 7 = .ok (.getfield 9, 3) := by decide +kernel
theorem dX0_isBetter_10 : decode cX0_isBetter 10 = .ok (.iload_n 3, 1) := by decide +kernel
theorem dX0_isBetter_11 : decode cX0_isBetter 11 = .ok (.iaload, 1) := by decide +kernel
theorem dX0_isBetter_12 : decode cX0_isBetter 12 = .ok (.if_icmp .ge 7, 3) := by decide +kernel
theorem dX0_isBetter_15 : decode cX0_isBetter 15 = .ok (.iconst 1, 1) := by decide +kernel
theorem dX0_isBetter_16 : decode cX0_isBetter 16 = .ok (.goto 4, 3) := by decide +kernel
theorem dX0_isBetter_19 : decode cX0_isBetter 19 = .ok (.iconst 0, 1) := by decide +kernel
theorem dX0_isBetter_20 : decode cX0_isBetter 20 = .ok (.istore 4, 2) := by decide +kernel
theorem dX0_isBetter_22 : decode cX0_isBetter 22 = .ok (.aload_n 0, 1) := by decide +kernel
theorem dX0_isBetter_23 : decode cX0_isBetter 23 = .ok (.getfield 15, 3) := by decide +kernel
theorem dX0_isBetter_26 : decode cX0_isBetter 26 = .ok (.iload_n 2, 1) := by decide +kernel
theorem dX0_isBetter_27 : decode cX0_isBetter 27 = .ok (.iaload, 1) := by decide +kernel
theorem dX0_isBetter_28 : decode cX0_isBetter 28 = .ok (.aload_n 0, 1) := by decide +kernel
theorem dX0_isBetter_29 : decode cX0_isBetter 29 = .ok (.getfield 15, 3) := by decide +kernel
theorem dX0_isBetter_32 : decode cX0_isBetter 32 = .ok (.iload_n 3, 1) := by decide +kernel
theorem dX0_isBetter_33 : decode cX0_isBetter 33 = .ok (.iaload, 1) := by decide +kernel
theorem dX0_isBetter_34 : decode cX0_isBetter 34 = .ok (.if_icmp .ne 7, 3) := by decide +kernel
theorem dX0_isBetter_37 : decode cX0_isBetter 37 = .ok (.iconst 1, 1) := by decide +kernel
theorem dX0_isBetter_38 : decode cX0_isBetter 38 = .ok (.goto 4, 3) := by decide +kernel
theorem dX0_isBetter_41 : decode cX0_isBetter 41 = .ok (.iconst 0, 1) := by decide +kernel
theorem dX0_isBetter_42 : decode cX0_isBetter 42 = .ok (.istore 5, 2) := by decide +kernel
theorem dX0_isBetter_44 : decode cX0_isBetter 44 = .ok (.aload_n 0, 1) := by decide +kernel
theorem dX0_isBetter_45 : decode cX0_isBetter 45 = .ok (.getfield 15, 3) := by decide +kernel
theorem dX0_isBetter_48 : decode cX0_isBetter 48 = .ok (.iload_n 2, 1) := by decide +kernel
theorem dX0_isBetter_49 : decode cX0_isBetter 49 = .ok (.iaload, 1) := by decide +kernel
theorem dX0_isBetter_50 : decode cX0_isBetter 50 = .ok (.aload_n 0, 1) := by decide +kernel
theorem dX0_isBetter_51 : decode cX0_isBetter 51 = .ok (.getfield 15, 3) := by decide +kernel
theorem dX0_isBetter_54 : decode cX0_isBetter 54 = .ok (.iload_n 3, 1) := by decide +kernel
theorem dX0_isBetter_55 : decode cX0_isBetter 55 = .ok (.iaload, 1) := by decide +kernel
theorem dX0_isBetter_56 : decode cX0_isBetter 56 = .ok (.if_icmp .le 7, 3) := by decide +kernel
theorem dX0_isBetter_59 : decode cX0_isBetter 59 = .ok (.iconst 1, 1) := by decide +kernel
theorem dX0_isBetter_60 : decode cX0_isBetter 60 = .ok (.goto 4, 3) := by decide +kernel
theorem dX0_isBetter_63 : decode cX0_isBetter 63 = .ok (.iconst 0, 1) := by decide +kernel
theorem dX0_isBetter_64 : decode cX0_isBetter 64 = .ok (.istore 6, 2) := by decide +kernel
theorem dX0_isBetter_66 : decode cX0_isBetter 66 = .ok (.iload_n 1, 1) := by decide +kernel
theorem dX0_isBetter_67 : decode cX0_isBetter 67 = .ok (.tableswitch 70 0 2 #[25, 28, 49], 25) := by decide +kernel
theorem dX0_isBetter_92 : decode cX0_isBetter 92 = .ok (.iload 4, 2) := by decide +kernel
theorem dX0_isBetter_94 : decode cX0_isBetter 94 = .ok (.ireturn, 1) := by decide +kernel
theorem dX0_isBetter_95 : decode cX0_isBetter 95 = .ok (.iload 6, 2) := by decide +kernel
theorem dX0_isBetter_97 : decode cX0_isBetter 97 = .ok (.ifCond .ne 13, 3) := by decide +kernel
theorem dX0_isBetter_100 : decode cX0_isBetter 100 = .ok (.iload 5, 2) := by decide +kernel
theorem dX0_isBetter_102 : decode cX0_isBetter 102 = .ok (.ifCond .eq 12, 3) := by decide +kernel
theorem dX0_isBetter_105 : decode cX0_isBetter 105 = .ok (.iload 4, 2) := by decide +kernel
theorem dX0_isBetter_107 : decode cX0_isBetter 107 = .ok (.ifCond .eq 7, 3) := by decide +kernel
theorem dX0_isBetter_110 : decode cX0_isBetter 110 = .ok (.iconst 1, 1) := by decide +kernel
theorem dX0_isBetter_111 : decode cX0_isBetter 111 = .ok (.goto 4, 3) := by decide +kernel
theorem dX0_isBetter_114 : decode cX0_isBetter 114 = .ok (.iconst 0, 1) := by decide +kernel
theorem dX0_isBetter_115 : decode cX0_isBetter 115 = .ok (.ireturn, 1) := by decide +kernel
theorem dX0_isBetter_116 : decode cX0_isBetter 116 = .ok (.iload 6, 2) := by decide +kernel
theorem dX0_isBetter_118 : decode cX0_isBetter 118 = .ok (.ifCond .ne 17, 3) := by decide +kernel
theorem dX0_isBetter_121 : decode cX0_isBetter 121 = .ok (.iload 5, 2) := by decide +kernel
theorem dX0_isBetter_123 : decode cX0_isBetter 123 = .ok (.ifCond .eq 8, 3) := by decide +kernel
theorem dX0_isBetter_126 : decode cX0_isBetter 126 = .ok (.iload 4, 2) := by decide +kernel
theorem dX0_isBetter_128 : decode cX0_isBetter 128 = .ok (.ifCond .eq 7, 3) := by decide +kernel
theorem dX0_isBetter_131 : decode cX0_isBetter 131 = .ok (.iconst 1, 1) := by decide +kernel
theorem dX0_isBetter_132 : decode cX0_isBetter 132 = .ok (.goto 4, 3) := by decide +kernel
theorem dX0_isBetter_135 : decode cX0_isBetter 135 = .ok (.iconst 0, 1) := by decide +kernel
theorem dX0_isBetter_136 : decode cX0_isBetter 136 = .ok (.ireturn, 1) := by decide +kernel
theorem dX0_isBetter_137 : decode cX0_isBetter 137 = .ok (.iload 6, 2) := by decide +kernel
theorem dX0_isBetter_139 : decode cX0_isBetter 139 = .ok (.ifCond .ne 13, 3) := by decide +kernel
theorem dX0_isBetter_142 : decode cX0_isBetter 142 = .ok (.iload 5, 2) := by decide +kernel
theorem dX0_isBetter_144 : decode cX0_isBetter 144 = .ok (.ifCond .eq 12, 3) := by decide +kernel
theorem dX0_isBetter_147 : decode cX0_isBetter 147 = .ok (.iload 4, 2) := by decide +kernel
theorem dX0_isBetter_149 : decode cX0_isBetter 149 = .ok (.ifCond .ne 7, 3) := by decide +kernel
theorem dX0_isBetter_152 : decode cX0_isBetter 152 = .ok (.iconst 1, 1) := by decide +kernel
theorem dX0_isBetter_153 : decode cX0_isBetter 153 = .ok (.goto 4, 3) := by decide +kernel
theorem dX0_isBetter_156 : decode cX0_isBetter 156 = .ok (.iconst 0, 1) := by decide +kernel
theorem dX0_isBetter_157 : decode cX0_isBetter 157 = .ok (.ireturn, 1) := by decide +kernel
theorem dX1_init_0 : decode cX1_init 0 = .ok (.aload_n 0, 1) := by decide +kernel
theorem dX1_init_1 : decode cX1_init 1 = .ok (.invokespecial 3, 3) := by decide +kernel
theorem dX1_init_4 : decode cX1_init 4 = .ok (.aload_n 0, 1) := by decide +kernel
theorem dX1_init_5 : decode cX1_init 5 = .ok (.bipush 6, 2) := by decide +kernel
theorem dX1_init_7 : decode cX1_init 7 = .ok (.anewarray 9, 3) := by decide +kernel
theorem dX1_init_10 : decode cX1_init 10 = .ok (.putfield 11, 3) := by decide +kernel
theorem dX1_init_13 : decode cX1_init 13 = .ok (.iconst 0, 1) := by decide +kernel
theorem dX1_init_14 : decode cX1_init 14 = .ok (.istore_n 1, 1) := by decide +kernel
theorem dX1_init_15 : decode cX1_init 15 = .ok (.iload_n 1, 1) := by decide +kernel
theorem dX1_init_16 : decode cX1_init 16 = .ok (.bipush 6, 2) := by decide +kernel
theorem dX1_init_18 : decode cX1_init 18 = .ok (.if_icmp .ge 22, 3) := by decide +kernel
theorem dX1_init_21 : decode cX1_init 21 = .ok (.aload_n 0, 1) := by decide +kernel
theorem dX1_init_22 : decode cX1_init 22 = .ok (.getfield 11, 3) := by decide +kernel
theorem dX1_init_25 : decode cX1_init 25 = .ok (.iload_n 1, 1) := by decide +kernel
theorem dX1_init_26 : decode cX1_init 26 = .ok (.new 9, 3) := by decide +kernel
theorem dX1_init_29 : decode cX1_init 29 = .ok (.dup, 1) := by decide +kernel
theorem dX1_init_30 : decode cX1_init 30 = .ok (.invokespecial 17, 3) := by decide +kernel
theorem dX1_init_33 : decode cX1_init 33 = .ok (.aastore, 1) := by decide +kernel
theorem dX1_init_34 : decode cX1_init 34 = .ok (.iinc 1 1, 3) := by decide +kernel
theorem dX1_init_37 : decode cX1_init 37 = .ok (.goto (-22), 3) := by decide +kernel
theorem dX1_init_40 : decode cX1_init 40 = .ok (.return_, 1) := by decide +kernel
theorem dX1_keep_0 : decode cX1_keep 0 = .ok (.aload_n 0, 1) := by decide +kernel
theorem dX1_keep_1 : decode cX1_keep 1 = .ok (.aload_n 0, 1) := by decide +kernel
theorem dX1_keep_2 : decode cX1_keep 2 = .ok (.getfield 18, 3) := by decide +kernel
theorem dX1_keep_5 : decode cX1_keep 5 = .ok (.invokevirtual 22, 3) := by decide +kernel
theorem dX1_keep_8 : decode cX1_keep 8 = .ok (.astore_n 2, 1) := by decide +kernel
theorem dX1_keep_9 : decode cX1_keep 9 = .ok (.aload_n 2, 1) := by decide +kernel
theorem dX1_keep_10 : decode cX1_keep 10 = .ok (.ifnull 36, 3) := by decide +kernel
theorem dX1_keep_13 : decode cX1_keep 13 = .ok (.aload_n 2, 1) := by decide +kernel
theorem dX1_keep_14 : decode cX1_keep 14 = .ok (.aload_n 1, 1) := by decide +kernel
theorem dX1_keep_15 : decode cX1_keep 15 = .ok (.invokevirtual 26, 3) := by decide +kernel
theorem dX1_keep_18 : decode cX1_keep 18 = .ok (.aload_n 0, 1) := by decide +kernel
theorem dX1_keep_19 : decode cX1_keep 19 = .ok (.aload_n 0, 1) := by decide +kernel
theorem dX1_keep_20 : decode cX1_keep 20 = .ok (.getfield 18, 3) := by decide +kernel
theorem dX1_keep_23 : decode cX1_keep 23 = .ok (.iconst 1, 1) := by decide +kernel
theorem dX1_keep_24 : decode cX1_keep 24 = .ok (.iadd, 1) := by decide +kernel
theorem dX1_keep_25 : decode cX1_keep 25 = .ok (.bipush 6, 2) := by decide +kernel
theorem dX1_keep_27 : decode cX1_keep 27 = .ok (.irem, 1) := by decide +kernel
theorem dX1_keep_28 : decode cX1_keep 28 = .ok (.putfield 18, 3) := by decide +kernel
theorem dX1_keep_31 : decode cX1_keep 31 = .ok (.aload_n 0, 1) := by decide +kernel
theorem dX1_keep_32 : decode cX1_keep 32 = .ok (.aload_n 0, 1) := by decide +kernel
theorem dX1_keep_33 : decode cX1_keep 33 = .ok (.getfield 30, 3) := by decide +kernel
theorem dX1_keep_36 : decode cX1_keep 36 = .ok (.iconst 1, 1) := by decide +kernel
theorem dX1_keep_37 : decode cX1_keep 37 = .ok (.iadd, 1) := by decide +kernel
theorem dX1_keep_38 : decode cX1_keep 38 = .ok (.bipush 6, 2) := by decide +kernel
theorem dX1_keep_40 : decode cX1_keep 40 = .ok (.invokestatic 33, 3) := by decide +kernel
theorem dX1_keep_43 : decode cX1_keep 43 = .ok (.putfield 30, 3) := by decide +kernel
theorem dX1_keep_46 : decode cX1_keep 46 = .ok (.return_, 1) := by decide +kernel
theorem dX1_giveBack_0 : decode cX1_giveBack 0 = .ok (.aload_n 0, 1) := by decide +kernel
theorem dX1_giveBack_1 : decode cX1_giveBack 1 = .ok (.getfield 18, 3) := by decide +kernel
theorem dX1_giveBack_4 : decode cX1_giveBack 4 = .ok (.bipush 6, 2) := by decide +kernel
theorem dX1_giveBack_6 : decode cX1_giveBack 6 = .ok (.iadd, 1) := by decide +kernel
theorem dX1_giveBack_7 : decode cX1_giveBack 7 = .ok (.iconst 1, 1) := by decide +kernel
theorem dX1_giveBack_8 : decode cX1_giveBack 8 = .ok (.isub, 1) := by decide +kernel
theorem dX1_giveBack_9 : decode cX1_giveBack 9 = .ok (.bipush 6, 2) := by decide +kernel
theorem dX1_giveBack_11 : decode cX1_giveBack 11 = .ok (.irem, 1) := by decide +kernel
theorem dX1_giveBack_12 : decode cX1_giveBack 12 = .ok (.istore_n 2, 1) := by decide +kernel
theorem dX1_giveBack_13 : decode cX1_giveBack 13 = .ok (.aload_n 0, 1) := by decide +kernel
theorem dX1_giveBack_14 : decode cX1_giveBack 14 = .ok (.iload_n 2, 1) := by decide +kernel
theorem dX1_giveBack_15 : decode cX1_giveBack 15 = .ok (.invokevirtual 22, 3) := by decide +kernel
theorem dX1_giveBack_18 : decode cX1_giveBack 18 = .ok (.astore_n 3, 1) := by decide +kernel
theorem dX1_giveBack_19 : decode cX1_giveBack 19 = .ok (.aload_n 3, 1) := by decide +kernel
theorem dX1_giveBack_20 : decode cX1_giveBack 20 = .ok (.ifnull 30, 3) := by decide +kernel
theorem dX1_giveBack_23 : decode cX1_giveBack 23 = .ok (.aload_n 0, 1) := by decide +kernel
theorem dX1_giveBack_24 : decode cX1_giveBack 24 = .ok (.getfield 30, 3) := by decide +kernel
theorem dX1_giveBack_27 : decode cX1_giveBack 27 = .ok (.ifCond .le 23, 3) := by decide +kernel
theorem dX1_giveBack_30 : decode cX1_giveBack 30 = .ok (.aload_n 1, 1) := by decide +kernel
theorem dX1_giveBack_31 : decode cX1_giveBack 31 = .ok (.aload_n 3, 1) := by decide +kernel
theorem dX1_giveBack_32 : decode cX1_giveBack 32 = .ok (.invokevirtual 26, 3) := by decide +kernel
theorem dX1_giveBack_35 : decode cX1_giveBack 35 = .ok (.aload_n 0, 1) := by decide +kernel
theorem dX1_giveBack_36 : decode cX1_giveBack 36 = .ok (.iload_n 2, 1) := by decide +kernel
theorem dX1_giveBack_37 : decode cX1_giveBack 37 = .ok (.putfield 18, 3) := by decide +kernel
theorem dX1_giveBack_40 : decode cX1_giveBack 40 = .ok (.aload_n 0, 1) := by decide +kernel
theorem dX1_giveBack_41 : decode cX1_giveBack 41 = .ok (.dup, 1) := by decide +kernel
theorem dX1_giveBack_42 : decode cX1_giveBack 42 = .ok (.getfield 30, 3) := by decide +kernel
theorem dX1_giveBack_45 : decode cX1_giveBack 45 = .ok (.iconst 1, 1) := by decide +kernel
theorem dX1_giveBack_46 : decode cX1_giveBack 46 = .ok (.isub, 1) := by decide +kernel
theorem dX1_giveBack_47 : decode cX1_giveBack 47 = .ok (.putfield 30, 3) := by decide +kernel
theorem dX1_giveBack_50 : decode cX1_giveBack 50 = .ok (.return_, 1) := by decide +kernel
theorem dX1_stateAt_0 : decode cX1_stateAt 0 = .ok (.iload_n 1, 1) := by decide +kernel
theorem dX1_stateAt_1 : decode cX1_stateAt 1 = .ok (.iconst 0, 1) := by decide +kernel
theorem dX1_stateAt_2 : decode cX1_stateAt 2 = .ok (.iconst 5, 1) := by decide +kernel
theorem dX1_stateAt_3 : decode cX1_stateAt 3 = .ok (.invokestatic 39, 3) := by decide +kernel
theorem dX1_stateAt_6 : decode cX1_stateAt 6 = .ok (.ifCond .eq 12, 3) := by decide +kernel
theorem dX1_stateAt_9 : decode cX1_stateAt 9 = .ok (.aload_n 0, 1) := by decide +kernel
theorem dX1_stateAt_10 : decode cX1_stateAt 10 = .ok (.getfield 11, 3) := by decide +kernel
theorem dX1_stateAt_13 : decode cX1_stateAt 13 = .ok (.iload_n 1, 1) := by decide +kernel
theorem dX1_stateAt_14 : decode cX1_stateAt 14 = .ok (.aaload, 1) := by decide +kernel
theorem dX1_stateAt_15 : decode cX1_stateAt 15 = .ok (.goto 4, 3) := by decide +kernel
theorem dX1_stateAt_18 : decode cX1_stateAt 18 = .ok (.aconst_null, 1) := by decide +kernel
theorem dX1_stateAt_19 : decode cX1_stateAt 19 = .ok (.areturn, 1) := by decide +kernel
theorem dX2_init_0 : decode cX2_init 0 = .ok (.aload_n 0, 1) := by decide +kernel
theorem dX2_init_1 : decode cX2_init 1 = .ok (.invokespecial 3, 3) := by decide +kernel
theorem dX2_init_4 : decode cX2_init 4 = .ok (.aload_n 0, 1) := by decide +kernel
theorem dX2_init_5 : decode cX2_init 5 = .ok (.bipush 16, 2) := by decide +kernel
theorem dX2_init_7 : decode cX2_init 7 = .ok (.newarray .int, 2) := by decide +kernel
theorem dX2_init_9 : decode cX2_init 9 = .ok (.putfield 9, 3) := by decide +kernel
theorem dX2_init_12 : decode cX2_init 12 = .ok (.aload_n 0, 1) := by decide +kernel
theorem dX2_init_13 : decode cX2_init 13 = .ok (.bipush 16, 2) := by decide +kernel
theorem dX2_init_15 : decode cX2_init 15 = .ok (.newarray .int, 2) := by decide +kernel
theorem dX2_init_17 : decode cX2_init 17 = .ok (.putfield 15, 3) := by decide +kernel
theorem dX2_init_20 : decode cX2_init 20 = .ok (.aload_n 0, 1) := by decide +kernel
theorem dX2_init_21 : decode cX2_init 21 = .ok (.bipush 16, 2) := by decide +kernel
theorem dX2_init_23 : decode cX2_init 23 = .ok (.newarray .int, 2) := by decide +kernel
theorem dX2_init_25 : decode cX2_init 25 = .ok (.putfield 18, 3) := by decide +kernel
theorem dX2_init_28 : decode cX2_init 28 = .ok (.aload_n 0, 1) := by decide +kernel
theorem dX2_init_29 : decode cX2_init 29 = .ok (.bipush 16, 2) := by decide +kernel
theorem dX2_init_31 : decode cX2_init 31 = .ok (.newarray .int, 2) := by decide +kernel
theorem dX2_init_33 : decode cX2_init 33 = .ok (.putfield 21, 3) := by decide +kernel
theorem dX2_init_36 : decode cX2_init 36 = .ok (.aload_n 0, 1) := by decide +kernel
theorem dX2_init_37 : decode cX2_init 37 = .ok (.bipush 16, 2) := by decide +kernel
theorem dX2_init_39 : decode cX2_init 39 = .ok (.newarray .int, 2) := by decide +kernel
theorem dX2_init_41 : decode cX2_init 41 = .ok (.putfield 24, 3) := by decide +kernel
theorem dX2_init_44 : decode cX2_init 44 = .ok (.aload_n 0, 1) := by decide +kernel
theorem dX2_init_45 : decode cX2_init 45 = .ok (.bipush 16, 2) := by decide +kernel
theorem dX2_init_47 : decode cX2_init 47 = .ok (.newarray .int, 2) := by decide +kernel
theorem dX2_init_49 : decode cX2_init 49 = .ok (.putfield 27, 3) := by decide +kernel
theorem dX2_init_52 : decode cX2_init 52 = .ok (.aload_n 0, 1) := by decide +kernel
theorem dX2_init_53 : decode cX2_init 53 = .ok (.invokevirtual 30, 3) := by decide +kernel
theorem dX2_init_56 : decode cX2_init 56 = .ok (.return_, 1) := by decide +kernel
theorem dX2_reset_0 : decode cX2_reset 0 = .ok (.iconst 0, 1) := by decide +kernel
theorem dX2_reset_1 : decode cX2_reset 1 = .ok (.istore_n 1, 1) := by decide +kernel
theorem dX2_reset_2 : decode cX2_reset 2 = .ok (.iload_n 1, 1) := by decide +kernel
theorem dX2_reset_3 : decode cX2_reset 3 = .ok (.bipush 16, 2) := by decide +kernel
theorem dX2_reset_5 : decode cX2_reset 5 = .ok (.if_icmp .ge 14, 3) := by decide +kernel
theorem dX2_reset_8 : decode cX2_reset 8 = .ok (.aload_n 0, 1) := by decide +kernel
theorem dX2_reset_9 : decode cX2_reset 9 = .ok (.iload_n 1, 1) := by decide +kernel
theorem dX2_reset_10 : decode cX2_reset 10 = .ok (.invokevirtual 33, 3) := by decide +kernel
theorem dX2_reset_13 : decode cX2_reset 13 = .ok (.iinc 1 1, 3) := by decide +kernel
theorem dX2_reset_16 : decode cX2_reset 16 = .ok (.goto (-14), 3) := by decide +kernel
theorem dX2_reset_19 : decode cX2_reset 19 = .ok (.return_, 1) := by decide +kernel
theorem dX2_copyFrom_0 : decode cX2_copyFrom 0 = .ok (.aload_n 1, 1) := by decide +kernel
theorem dX2_copyFrom_1 : decode cX2_copyFrom 1 = .ok (.getfield 9, 3) := by decide +kernel
theorem dX2_copyFrom_4 : decode cX2_copyFrom 4 = .ok (.aload_n 0, 1) := by decide +kernel
theorem dX2_copyFrom_5 : decode cX2_copyFrom 5 = .ok (.getfield 9, 3) := by decide +kernel
theorem dX2_copyFrom_8 : decode cX2_copyFrom 8 = .ok (.invokestatic 37, 3) := by decide +kernel
theorem dX2_copyFrom_11 : decode cX2_copyFrom 11 = .ok (.aload_n 1, 1) := by decide +kernel
theorem dX2_copyFrom_12 : decode cX2_copyFrom 12 = .ok (.getfield 15, 3) := by decide +kernel
theorem dX2_copyFrom_15 : decode cX2_copyFrom 15 = .ok (.aload_n 0, 1) := by decide +kernel
theorem dX2_copyFrom_16 : decode cX2_copyFrom 16 = .ok (.getfield 15, 3) := by decide +kernel
theorem dX2_copyFrom_19 : decode cX2_copyFrom 19 = .ok (.invokestatic 37, 3) := by decide +kernel
theorem dX2_copyFrom_22 : decode cX2_copyFrom 22 = .ok (.aload_n 1, 1) := by decide +kernel
theorem dX2_copyFrom_23 : decode cX2_copyFrom 23 = .ok (.getfield 18, 3) := by decide +kernel
theorem dX2_copyFrom_26 : decode cX2_copyFrom 26 = .ok (.aload_n 0, 1) := by decide +kernel
theorem dX2_copyFrom_27 : decode cX2_copyFrom 27 = .ok (.getfield 18, 3) := by decide +kernel
theorem dX2_copyFrom_30 : decode cX2_copyFrom 30 = .ok (.invokestatic 37, 3) := by decide +kernel
theorem dX2_copyFrom_33 : decode cX2_copyFrom 33 = .ok (.aload_n 1, 1) := by decide +kernel
theorem dX2_copyFrom_34 : decode cX2_copyFrom 34 = .ok (.getfield 21, 3) := by decide +kernel
theorem dX2_copyFrom_37 : decode cX2_copyFrom 37 = .ok (.aload_n 0, 1) := by decide +kernel
theorem dX2_copyFrom_38 : decode cX2_copyFrom 38 = .ok (.getfield 21, 3) := by decide +kernel
theorem dX2_copyFrom_41 : decode cX2_copyFrom 41 = .ok (.invokestatic 37, 3) := by decide +kernel
theorem dX2_copyFrom_44 : decode cX2_copyFrom 44 = .ok (.aload_n 1, 1) := by decide +kernel
theorem dX2_copyFrom_45 : decode cX2_copyFrom 45 = .ok (.getfield 24, 3) := by decide +kernel
theorem dX2_copyFrom_48 : decode cX2_copyFrom 48 = .ok (.aload_n 0, 1) := by decide +kernel
theorem dX2_copyFrom_49 : decode cX2_copyFrom 49 = .ok (.getfield 24, 3) := by decide +kernel
theorem dX2_copyFrom_52 : decode cX2_copyFrom 52 = .ok (.invokestatic 37, 3) := by decide +kernel
theorem dX2_copyFrom_55 : decode cX2_copyFrom 55 = .ok (.aload_n 1, 1) := by decide +kernel
theorem dX2_copyFrom_56 : decode cX2_copyFrom 56 = .ok (.getfield 27, 3) := by decide +kernel
theorem dX2_copyFrom_59 : decode cX2_copyFrom 59 = .ok (.aload_n 0, 1) := by decide +kernel
theorem dX2_copyFrom_60 : decode cX2_copyFrom 60 = .ok (.getfield 27, 3) := by decide +kernel
theorem dX2_copyFrom_63 : decode cX2_copyFrom 63 = .ok (.invokestatic 37, 3) := by decide +kernel
theorem dX2_copyFrom_66 : decode cX2_copyFrom 66 = .ok (.return_, 1) := by decide +kernel
theorem dX2_isMember_0 : decode cX2_isMember 0 = .ok (.aload_n 0, 1) := by decide +kernel
theorem dX2_isMember_1 : decode cX2_isMember 1 = .ok (.getfield 9, 3) := by decide +kernel
theorem dX2_isMember_4 : decode cX2_isMember 4 = .ok (.iload_n 1, 1) := by decide +kernel
theorem dX2_isMember_5 : decode cX2_isMember 5 = .ok (.iaload, 1) := by decide +kernel
theorem dX2_isMember_6 : decode cX2_isMember 6 = .ok (.iconst (-1), 1) := by decide +kernel
theorem dX2_isMember_7 : decode cX2_isMember 7 = .ok (.if_icmp .eq 7, 3) := by decide +kernel
theorem dX2_isMember_10 : decode cX2_isMember 10 = .ok (.iconst 1, 1) := by decide +kernel
theorem dX2_isMember_11 : decode cX2_isMember 11 = .ok (.goto 4, 3) := by decide +kernel
theorem dX2_isMember_14 : decode cX2_isMember 14 = .ok (.iconst 0, 1) := by decide +kernel
theorem dX2_isMember_15 : decode cX2_isMember 15 = .ok (.ireturn, 1) := by decide +kernel
theorem dX2_enrol_0 : decode cX2_enrol 0 = .ok (.aload_n 0, 1) := by decide +kernel
theorem dX2_enrol_1 : decode cX2_enrol 1 = .ok (.getfield 9, 3) := by decide +kernel
theorem dX2_enrol_4 : decode cX2_enrol 4 = .ok (.iload_n 1, 1) := by decide +kernel
theorem dX2_enrol_5 : decode cX2_enrol 5 = .ok (.iload_n 2, 1) := by decide +kernel
theorem dX2_enrol_6 : decode cX2_enrol 6 = .ok (.iastore, 1) := by decide +kernel
theorem dX2_enrol_7 : decode cX2_enrol 7 = .ok (.aload_n 0, 1) := by decide +kernel
theorem dX2_enrol_8 : decode cX2_enrol 8 = .ok (.getfield 15, 3) := by decide +kernel
theorem dX2_enrol_11 : decode cX2_enrol 11 = .ok (.iload_n 1, 1) := by decide +kernel
theorem dX2_enrol_12 : decode cX2_enrol 12 = .ok (.iload_n 3, 1) := by decide +kernel
theorem dX2_enrol_13 : decode cX2_enrol 13 = .ok (.iastore, 1) := by decide +kernel
theorem dX2_enrol_14 : decode cX2_enrol 14 = .ok (.return_, 1) := by decide +kernel
theorem dX2_dismiss_0 : decode cX2_dismiss 0 = .ok (.aload_n 0, 1) := by decide +kernel
theorem dX2_dismiss_1 : decode cX2_dismiss 1 = .ok (.getfield 9, 3) := by decide +kernel
theorem dX2_dismiss_4 : decode cX2_dismiss 4 = .ok (.iload_n 1, 1) := by decide +kernel
theorem dX2_dismiss_5 : decode cX2_dismiss 5 = .ok (.iconst (-1), 1) := by decide +kernel
theorem dX2_dismiss_6 : decode cX2_dismiss 6 = .ok (.iastore, 1) := by decide +kernel
theorem dX2_dismiss_7 : decode cX2_dismiss 7 = .ok (.aload_n 0, 1) := by decide +kernel
theorem dX2_dismiss_8 : decode cX2_dismiss 8 = .ok (.getfield 18, 3) := by decide +kernel
theorem dX2_dismiss_11 : decode cX2_dismiss 11 = .ok (.iload_n 1, 1) := by decide +kernel
theorem dX2_dismiss_12 : decode cX2_dismiss 12 = .ok (.iconst (-1), 1) := by decide +kernel
theorem dX2_dismiss_13 : decode cX2_dismiss 13 = .ok (.iastore, 1) := by decide +kernel
theorem dX2_dismiss_14 : decode cX2_dismiss 14 = .ok (.aload_n 0, 1) := by decide +kernel
theorem dX2_dismiss_15 : decode cX2_dismiss 15 = .ok (.getfield 24, 3) := by decide +kernel
theorem dX2_dismiss_18 : decode cX2_dismiss 18 = .ok (.iload_n 1, 1) := by decide +kernel
theorem dX2_dismiss_19 : decode cX2_dismiss 19 = .ok (.iconst (-1), 1) := by decide +kernel
theorem dX2_dismiss_20 : decode cX2_dismiss 20 = .ok (.iastore, 1) := by decide +kernel
theorem dX2_dismiss_21 : decode cX2_dismiss 21 = .ok (.return_, 1) := by decide +kernel
theorem dX2_dismissMembers_0 : decode cX2_dismissMembers 0 = .ok (.iconst 0, 1) := by decide +kernel
theorem dX2_dismissMembers_1 : decode cX2_dismissMembers 1 = .ok (.istore_n 2, 1) := by decide +kernel
theorem dX2_dismissMembers_2 : decode cX2_dismissMembers 2 = .ok (.iconst 0, 1) := by decide +kernel
theorem dX2_dismissMembers_3 : decode cX2_dismissMembers 3 = .ok (.istore_n 3, 1) := by decide +kernel
theorem dX2_dismissMembers_4 : decode cX2_dismissMembers 4 = .ok (.iload_n 3, 1) := by decide +kernel
theorem dX2_dismissMembers_5 : decode cX2_dismissMembers 5 = .ok (.bipush 16, 2) := by decide +kernel
theorem dX2_dismissMembers_7 : decode cX2_dismissMembers 7 = .ok (.if_icmp .ge 27, 3) := by decide +kernel
theorem dX2_dismissMembers_10 : decode cX2_dismissMembers 10 = .ok (.aload_n 0, 1) := by decide +kernel
theorem dX2_dismissMembers_11 : decode cX2_dismissMembers 11 = .ok (.getfield 9, 3) := by decide +kernel
theorem dX2_dismissMembers_14 : decode cX2_dismissMembers 14 = .ok (.iload_n 3, 1) := by decide +kernel
theorem dX2_dismissMembers_15 : decode cX2_dismissMembers 15 = .ok (.iaload, 1) := by decide +kernel
theorem dX2_dismissMembers_16 : decode cX2_dismissMembers 16 = .ok (.iload_n 1, 1) := by decide +kernel
theorem dX2_dismissMembers_17 : decode cX2_dismissMembers 17 = .ok (.if_icmp .ne 11, 3) := by decide +kernel
theorem dX2_dismissMembers_20 : decode cX2_dismissMembers 20 = .ok (.aload_n 0, 1) := by decide +kernel
theorem dX2_dismissMembers_21 : decode cX2_dismissMembers 21 = .ok (.iload_n 3, 1) := by decide +kernel
theorem dX2_dismissMembers_22 : decode cX2_dismissMembers 22 = .ok (.invokevirtual 33, 3) := by decide +kernel
theorem dX2_dismissMembers_25 : decode cX2_dismissMembers 25 = .ok (.iinc 2 1, 3) := by decide +kernel
theorem dX2_dismissMembers_28 : decode cX2_dismissMembers 28 = .ok (.iinc 3 1, 3) := by decide +kernel
theorem dX2_dismissMembers_31 : decode cX2_dismissMembers 31 = .ok (.goto (-27), 3) := by decide +kernel
theorem dX2_dismissMembers_34 : decode cX2_dismissMembers 34 = .ok (.iload_n 2, 1) := by decide +kernel
theorem dX2_dismissMembers_35 : decode cX2_dismissMembers 35 = .ok (.ireturn, 1) := by decide +kernel
theorem dX2_membersOf_0 : decode cX2_membersOf 0 = .ok (.iconst 0, 1) := by decide +kernel
theorem dX2_membersOf_1 : decode cX2_membersOf 1 = .ok (.istore_n 2, 1) := by decide +kernel
theorem dX2_membersOf_2 : decode cX2_membersOf 2 = .ok (.iconst 0, 1) := by decide +kernel
theorem dX2_membersOf_3 : decode cX2_membersOf 3 = .ok (.istore_n 3, 1) := by decide +kernel
theorem dX2_membersOf_4 : decode cX2_membersOf 4 = .ok (.iload_n 3, 1) := by decide +kernel
theorem dX2_membersOf_5 : decode cX2_membersOf 5 = .ok (.bipush 16, 2) := by decide +kernel
theorem dX2_membersOf_7 : decode cX2_membersOf 7 = .ok (.if_icmp .ge 27, 3) := by decide +kernel
theorem dX2_membersOf_10 : decode cX2_membersOf 10 = .ok (.iload_n 2, 1) := by decide +kernel
theorem dX2_membersOf_11 : decode cX2_membersOf 11 = .ok (.aload_n 0, 1) := by decide +kernel
theorem dX2_membersOf_12 : decode cX2_membersOf 12 = .ok (.getfield 9, 3) := by decide +kernel
theorem dX2_membersOf_15 : decode cX2_membersOf 15 = .ok (.iload_n 3, 1) := by decide +kernel
theorem dX2_membersOf_16 : decode cX2_membersOf 16 = .ok (.iaload, 1) := by decide +kernel
theorem dX2_membersOf_17 : decode cX2_membersOf 17 = .ok (.iload_n 1, 1) := by decide +kernel
theorem dX2_membersOf_18 : decode cX2_membersOf 18 = .ok (.if_icmp .ne 7, 3) := by decide +kernel
theorem dX2_membersOf_21 : decode cX2_membersOf 21 = .ok (.iconst 1, 1) := by decide +kernel
theorem dX2_membersOf_22 : decode cX2_membersOf 22 = .ok (.goto 4, 3) := by decide +kernel
theorem dX2_membersOf_25 : decode cX2_membersOf 25 = .ok (.iconst 0, 1) := by decide +kernel
theorem dX2_membersOf_26 : decode cX2_membersOf 26 = .ok (.iadd, 1) := by decide +kernel
theorem dX2_membersOf_27 : decode cX2_membersOf 27 = .ok (.istore_n 2, 1) := by decide +kernel
theorem dX2_membersOf_28 : decode cX2_membersOf 28 = .ok (.iinc 3 1, 3) := by decide +kernel
theorem dX2_membersOf_31 : decode cX2_membersOf 31 = .ok (.goto (-27), 3) := by decide +kernel
theorem dX2_membersOf_34 : decode cX2_membersOf 34 = .ok (.iload_n 2, 1) := by decide +kernel
theorem dX2_membersOf_35 : decode cX2_membersOf 35 = .ok (.ireturn, 1) := by decide +kernel
theorem dX2_members_0 : decode cX2_members 0 = .ok (.bipush 16, 2) := by decide +kernel
theorem dX2_members_2 : decode cX2_members 2 = .ok (.aload_n 0, 1) := by decide +kernel
theorem dX2_members_3 : decode cX2_members 3 = .ok (.iconst (-1), 1) := by decide +kernel
theorem dX2_members_4 : decode cX2_members 4 = .ok (.invokevirtual 41, 3) := by decide +kernel
theorem dX2_members_7 : decode cX2_members 7 = .ok (.isub, 1) := by decide +kernel
theorem dX2_members_8 : decode cX2_members 8 = .ok (.ireturn, 1) := by decide +kernel
theorem dX2_leasesHeld_0 : decode cX2_leasesHeld 0 = .ok (.aload_n 0, 1) := by decide +kernel
theorem dX2_leasesHeld_1 : decode cX2_leasesHeld 1 = .ok (.getfield 18, 3) := by decide +kernel
theorem dX2_leasesHeld_4 : decode cX2_leasesHeld 4 = .ok (.iload_n 1, 1) := by decide +kernel
theorem dX2_leasesHeld_5 : decode cX2_leasesHeld 5 = .ok (.iaload, 1) := by decide +kernel
theorem dX2_leasesHeld_6 : decode cX2_leasesHeld 6 = .ok (.iconst (-1), 1) := by decide +kernel
theorem dX2_leasesHeld_7 : decode cX2_leasesHeld 7 = .ok (.if_icmp .eq 7, 3) := by decide +kernel
theorem dX2_leasesHeld_10 : decode cX2_leasesHeld 10 = .ok (.iconst 1, 1) := by decide +kernel
theorem dX2_leasesHeld_11 : decode cX2_leasesHeld 11 = .ok (.goto 4, 3) := by decide +kernel
theorem dX2_leasesHeld_14 : decode cX2_leasesHeld 14 = .ok (.iconst 0, 1) := by decide +kernel
theorem dX2_leasesHeld_15 : decode cX2_leasesHeld 15 = .ok (.aload_n 0, 1) := by decide +kernel
theorem dX2_leasesHeld_16 : decode cX2_leasesHeld 16 = .ok (.getfield 24, 3) := by decide +kernel
theorem dX2_leasesHeld_19 : decode cX2_leasesHeld 19 = .ok (.iload_n 1, 1) := by decide +kernel
theorem dX2_leasesHeld_20 : decode cX2_leasesHeld 20 = .ok (.iaload, 1) := by decide +kernel
theorem dX2_leasesHeld_21 : decode cX2_leasesHeld 21 = .ok (.iconst (-1), 1) := by decide +kernel
theorem dX2_leasesHeld_22 : decode cX2_leasesHeld 22 = .ok (.if_icmp .eq 7, 3) := by decide +kernel
theorem dX2_leasesHeld_25 : decode cX2_leasesHeld 25 = .ok (.iconst 1, 1) := by decide +kernel
theorem dX2_leasesHeld_26 : decode cX2_leasesHeld 26 = .ok (.goto 4, 3) := by decide +kernel
theorem dX2_leasesHeld_29 : decode cX2_leasesHeld 29 = .ok (.iconst 0, 1) := by decide +kernel
theorem dX2_leasesHeld_30 : decode cX2_leasesHeld 30 = .ok (.iadd, 1) := by decide +kernel
theorem dX2_leasesHeld_31 : decode cX2_leasesHeld 31 = .ok (.ireturn, 1) := by decide +kernel
theorem dX2_leasesOf_0 : decode cX2_leasesOf 0 = .ok (.iconst 0, 1) := by decide +kernel
theorem dX2_leasesOf_1 : decode cX2_leasesOf 1 = .ok (.istore_n 2, 1) := by decide +kernel
theorem dX2_leasesOf_2 : decode cX2_leasesOf 2 = .ok (.iconst 0, 1) := by decide +kernel
theorem dX2_leasesOf_3 : decode cX2_leasesOf 3 = .ok (.istore_n 3, 1) := by decide +kernel
theorem dX2_leasesOf_4 : decode cX2_leasesOf 4 = .ok (.iload_n 3, 1) := by decide +kernel
theorem dX2_leasesOf_5 : decode cX2_leasesOf 5 = .ok (.bipush 16, 2) := by decide +kernel
theorem dX2_leasesOf_7 : decode cX2_leasesOf 7 = .ok (.if_icmp .ge 31, 3) := by decide +kernel
theorem dX2_leasesOf_10 : decode cX2_leasesOf 10 = .ok (.iload_n 2, 1) := by decide +kernel
theorem dX2_leasesOf_11 : decode cX2_leasesOf 11 = .ok (.aload_n 0, 1) := by decide +kernel
theorem dX2_leasesOf_12 : decode cX2_leasesOf 12 = .ok (.getfield 9, 3) := by decide +kernel
theorem dX2_leasesOf_15 : decode cX2_leasesOf 15 = .ok (.iload_n 3, 1) := by decide +kernel
theorem dX2_leasesOf_16 : decode cX2_leasesOf 16 = .ok (.iaload, 1) := by decide +kernel
theorem dX2_leasesOf_17 : decode cX2_leasesOf 17 = .ok (.iload_n 1, 1) := by decide +kernel
theorem dX2_leasesOf_18 : decode cX2_leasesOf 18 = .ok (.if_icmp .ne 11, 3) := by decide +kernel
theorem dX2_leasesOf_21 : decode cX2_leasesOf 21 = .ok (.aload_n 0, 1) := by decide +kernel
theorem dX2_leasesOf_22 : decode cX2_leasesOf 22 = .ok (.iload_n 3, 1) := by decide +kernel
theorem dX2_leasesOf_23 : decode cX2_leasesOf 23 = .ok (.invokevirtual 45, 3) := by decide +kernel
theorem dX2_leasesOf_26 : decode cX2_leasesOf 26 = .ok (.goto 4, 3) := by decide +kernel
theorem dX2_leasesOf_29 : decode cX2_leasesOf 29 = .ok (.iconst 0, 1) := by decide +kernel
theorem dX2_leasesOf_30 : decode cX2_leasesOf 30 = .ok (.iadd, 1) := by decide +kernel
theorem dX2_leasesOf_31 : decode cX2_leasesOf 31 = .ok (.istore_n 2, 1) := by decide +kernel
theorem dX2_leasesOf_32 : decode cX2_leasesOf 32 = .ok (.iinc 3 1, 3) := by decide +kernel
theorem dX2_leasesOf_35 : decode cX2_leasesOf 35 = .ok (.goto (-31), 3) := by decide +kernel
theorem dX2_leasesOf_38 : decode cX2_leasesOf 38 = .ok (.iload_n 2, 1) := by decide +kernel
theorem dX2_leasesOf_39 : decode cX2_leasesOf 39 = .ok (.ireturn, 1) := by decide +kernel
theorem dX2_leases_0 : decode cX2_leases 0 = .ok (.iconst 0, 1) := by decide +kernel
theorem dX2_leases_1 : decode cX2_leases 1 = .ok (.istore_n 1, 1) := by decide +kernel
theorem dX2_leases_2 : decode cX2_leases 2 = .ok (.iconst 0, 1) := by decide +kernel
theorem dX2_leases_3 : decode cX2_leases 3 = .ok (.istore_n 2, 1) := by decide +kernel
theorem dX2_leases_4 : decode cX2_leases 4 = .ok (.iload_n 2, 1) := by decide +kernel
theorem dX2_leases_5 : decode cX2_leases 5 = .ok (.bipush 16, 2) := by decide +kernel
theorem dX2_leases_7 : decode cX2_leases 7 = .ok (.if_icmp .ge 17, 3) := by decide +kernel
theorem dX2_leases_10 : decode cX2_leases 10 = .ok (.iload_n 1, 1) := by decide +kernel
theorem dX2_leases_11 : decode cX2_leases 11 = .ok (.aload_n 0, 1) := by decide +kernel
theorem dX2_leases_12 : decode cX2_leases 12 = .ok (.iload_n 2, 1) := by decide +kernel
theorem dX2_leases_13 : decode cX2_leases 13 = .ok (.invokevirtual 45, 3) := by decide +kernel
theorem dX2_leases_16 : decode cX2_leases 16 = .ok (.iadd, 1) := by decide +kernel
theorem dX2_leases_17 : decode cX2_leases 17 = .ok (.istore_n 1, 1) := by decide +kernel
theorem dX2_leases_18 : decode cX2_leases 18 = .ok (.iinc 2 1, 3) := by decide +kernel
theorem dX2_leases_21 : decode cX2_leases 21 = .ok (.goto (-17), 3) := by decide +kernel
theorem dX2_leases_24 : decode cX2_leases 24 = .ok (.iload_n 1, 1) := by decide +kernel
theorem dX2_leases_25 : decode cX2_leases 25 = .ok (.ireturn, 1) := by decide +kernel
theorem dX2_holderOf_0 : decode cX2_holderOf 0 = .ok (.iconst 0, 1) := by decide +kernel
theorem dX2_holderOf_1 : decode cX2_holderOf 1 = .ok (.istore_n 2, 1) := by decide +kernel
theorem dX2_holderOf_2 : decode cX2_holderOf 2 = .ok (.iload_n 2, 1) := by decide +kernel
theorem dX2_holderOf_3 : decode cX2_holderOf 3 = .ok (.bipush 16, 2) := by decide +kernel
theorem dX2_holderOf_5 : decode cX2_holderOf 5 = .ok (.if_icmp .ge 31, 3) := by decide +kernel
theorem dX2_holderOf_8 : decode cX2_holderOf 8 = .ok (.aload_n 0, 1) := by decide +kernel
theorem dX2_holderOf_9 : decode cX2_holderOf 9 = .ok (.getfield 18, 3) := by decide +kernel
theorem dX2_holderOf_12 : decode cX2_holderOf 12 = .ok (.iload_n 2, 1) := by decide +kernel
theorem dX2_holderOf_13 : decode cX2_holderOf 13 = .ok (.iaload, 1) := by decide +kernel
theorem dX2_holderOf_14 : decode cX2_holderOf 14 = .ok (.iload_n 1, 1) := by decide +kernel
theorem dX2_holderOf_15 : decode cX2_holderOf 15 = .ok (.if_icmp .eq 13, 3) := by decide +kernel
theorem dX2_holderOf_18 : decode cX2_holderOf 18 = .ok (.aload_n 0, 1) := by decide +kernel
theorem dX2_holderOf_19 : decode cX2_holderOf 19 = .ok (.getfield 24, 3) := by decide +kernel
theorem dX2_holderOf_22 : decode cX2_holderOf 22 = .ok (.iload_n 2, 1) := by decide +kernel
theorem dX2_holderOf_23 : decode cX2_holderOf 23 = .ok (.iaload, 1) := by decide +kernel
theorem dX2_holderOf_24 : decode cX2_holderOf 24 = .ok (.iload_n 1, 1) := by decide +kernel
theorem dX2_holderOf_25 : decode cX2_holderOf 25 = .ok (.if_icmp .ne 5, 3) := by decide +kernel
theorem dX2_holderOf_28 : decode cX2_holderOf 28 = .ok (.iload_n 2, 1) := by decide +kernel
theorem dX2_holderOf_29 : decode cX2_holderOf 29 = .ok (.ireturn, 1) := by decide +kernel
theorem dX2_holderOf_30 : decode cX2_holderOf 30 = .ok (.iinc 2 1, 3) := by decide +kernel
theorem dX2_holderOf_33 : decode cX2_holderOf 33 = .ok (.goto (-31), 3) := by decide +kernel
theorem dX2_holderOf_36 : decode cX2_holderOf 36 = .ok (.iconst (-1), 1) := by decide +kernel
theorem dX2_holderOf_37 : decode cX2_holderOf 37 = .ok (.ireturn, 1) := by decide +kernel
theorem dX2_renewsOld_0 : decode cX2_renewsOld 0 = .ok (.aload_n 0, 1) := by decide +kernel
theorem dX2_renewsOld_1 : decode cX2_renewsOld 1 = .ok (.getfield 18, 3) := by decide +kernel
theorem dX2_renewsOld_4 : decode cX2_renewsOld 4 = .ok (.iload_n 1, 1) := by decide +kernel
theorem dX2_renewsOld_5 : decode cX2_renewsOld 5 = .ok (.iaload, 1) := by decide +kernel
theorem dX2_renewsOld_6 : decode cX2_renewsOld 6 = .ok (.iconst (-1), 1) := by decide +kernel
theorem dX2_renewsOld_7 : decode cX2_renewsOld 7 = .ok (.if_icmp .ne 27, 3) := by decide +kernel
theorem dX2_renewsOld_10 : decode cX2_renewsOld 10 = .ok (.aload_n 0, 1) := by decide +kernel
theorem dX2_renewsOld_11 : decode cX2_renewsOld 11 = .ok (.getfield 15, 3) := by decide +kernel
theorem dX2_renewsOld_14 : decode cX2_renewsOld 14 = .ok (.iload_n 1, 1) := by decide +kernel
theorem dX2_renewsOld_15 : decode cX2_renewsOld 15 = .ok (.iaload, 1) := by decide +kernel
theorem dX2_renewsOld_16 : decode cX2_renewsOld 16 = .ok (.iconst 1, 1) := by decide +kernel
theorem dX2_renewsOld_17 : decode cX2_renewsOld 17 = .ok (.if_icmp .ne 17, 3) := by decide +kernel
theorem dX2_renewsOld_20 : decode cX2_renewsOld 20 = .ok (.aload_n 0, 1) := by decide +kernel
theorem dX2_renewsOld_21 : decode cX2_renewsOld 21 = .ok (.getfield 24, 3) := by decide +kernel
theorem dX2_renewsOld_24 : decode cX2_renewsOld 24 = .ok (.iload_n 1, 1) := by decide +kernel
theorem dX2_renewsOld_25 : decode cX2_renewsOld 25 = .ok (.iaload, 1) := by decide +kernel
theorem dX2_renewsOld_26 : decode cX2_renewsOld 26 = .ok (.iconst (-1), 1) := by decide +kernel
theorem dX2_renewsOld_27 : decode cX2_renewsOld 27 = .ok (.if_icmp .eq 7, 3) := by decide +kernel
theorem dX2_renewsOld_30 : decode cX2_renewsOld 30 = .ok (.iconst 1, 1) := by decide +kernel
theorem dX2_renewsOld_31 : decode cX2_renewsOld 31 = .ok (.goto 4, 3) := by decide +kernel
theorem dX2_renewsOld_34 : decode cX2_renewsOld 34 = .ok (.iconst 0, 1) := by decide +kernel
theorem dX2_renewsOld_35 : decode cX2_renewsOld 35 = .ok (.ireturn, 1) := by decide +kernel
theorem dX2_smallestFree_0 : decode cX2_smallestFree 0 = .ok (.iload_n 1, 1) := by decide +kernel
theorem dX2_smallestFree_1 : decode cX2_smallestFree 1 = .ok (.iload_n 2, 1) := by decide +kernel
theorem dX2_smallestFree_2 : decode cX2_smallestFree 2 = .ok (.invokestatic 48, 3) := by decide +kernel
theorem dX2_smallestFree_5 : decode cX2_smallestFree 5 = .ok (.iadd, 1) := by decide +kernel
theorem dX2_smallestFree_6 : decode cX2_smallestFree 6 = .ok (.istore_n 3, 1) := by decide +kernel
theorem dX2_smallestFree_7 : decode cX2_smallestFree 7 = .ok (.iload_n 1, 1) := by decide +kernel
theorem dX2_smallestFree_8 : decode cX2_smallestFree 8 = .ok (.istore 4, 2) := by decide +kernel
theorem dX2_smallestFree_10 : decode cX2_smallestFree 10 = .ok (.iload 4, 2) := by decide +kernel
theorem dX2_smallestFree_12 : decode cX2_smallestFree 12 = .ok (.iload_n 3, 1) := by decide +kernel
theorem dX2_smallestFree_13 : decode cX2_smallestFree 13 = .ok (.if_icmp .ge 32, 3) := by decide +kernel
theorem dX2_smallestFree_16 : decode cX2_smallestFree 16 = .ok (.iload_n 1, 1) := by decide +kernel
theorem dX2_smallestFree_17 : decode cX2_smallestFree 17 = .ok (.iload_n 2, 1) := by decide +kernel
theorem dX2_smallestFree_18 : decode cX2_smallestFree 18 = .ok (.iload 4, 2) := by decide +kernel
theorem dX2_smallestFree_20 : decode cX2_smallestFree 20 = .ok (.invokestatic 51, 3) := by decide +kernel
theorem dX2_smallestFree_23 : decode cX2_smallestFree 23 = .ok (.ifCond .eq 16, 3) := by decide +kernel
theorem dX2_smallestFree_26 : decode cX2_smallestFree 26 = .ok (.aload_n 0, 1) := by decide +kernel
theorem dX2_smallestFree_27 : decode cX2_smallestFree 27 = .ok (.iload 4, 2) := by decide +kernel
theorem dX2_smallestFree_29 : decode cX2_smallestFree 29 = .ok (.invokevirtual 55, 3) := by decide +kernel
theorem dX2_smallestFree_32 : decode cX2_smallestFree 32 = .ok (.iconst (-1), 1) := by decide +kernel
theorem dX2_smallestFree_33 : decode cX2_smallestFree 33 = .ok (.if_icmp .ne 6, 3) := by decide +kernel
theorem dX2_smallestFree_36 : decode cX2_smallestFree 36 = .ok (.iload 4, 2) := by decide +kernel
theorem dX2_smallestFree_38 : decode cX2_smallestFree 38 = .ok (.ireturn, 1) := by decide +kernel
theorem dX2_smallestFree_39 : decode cX2_smallestFree 39 = .ok (.iinc 4 1, 3) := by decide +kernel
theorem dX2_smallestFree_42 : decode cX2_smallestFree 42 = .ok (.goto (-32), 3) := by decide +kernel
theorem dX2_smallestFree_45 : decode cX2_smallestFree 45 = .ok (.iconst (-1), 1) := by decide +kernel
theorem dX2_smallestFree_46 : decode cX2_smallestFree 46 = .ok (.ireturn, 1) := by decide +kernel
theorem dX2_newLeasesFit_0 : decode cX2_newLeasesFit 0 = .ok (.iconst 0, 1) := by decide +kernel
theorem dX2_newLeasesFit_1 : decode cX2_newLeasesFit 1 = .ok (.istore 4, 2) := by decide +kernel
theorem dX2_newLeasesFit_3 : decode cX2_newLeasesFit 3 = .ok (.iload 4, 2) := by decide +kernel
theorem dX2_newLeasesFit_5 : decode cX2_newLeasesFit 5 = .ok (.bipush 16, 2) := by decide +kernel
theorem dX2_newLeasesFit_7 : decode cX2_newLeasesFit 7 = .ok (.if_icmp .ge 48, 3) := by decide +kernel
theorem dX2_newLeasesFit_10 : decode cX2_newLeasesFit 10 = .ok (.aload_n 0, 1) := by decide +kernel
theorem dX2_newLeasesFit_11 : decode cX2_newLeasesFit 11 = .ok (.getfield 9, 3) := by decide +kernel
theorem dX2_newLeasesFit_14 : decode cX2_newLeasesFit 14 = .ok (.iload 4, 2) := by decide +kernel
theorem dX2_newLeasesFit_16 : decode cX2_newLeasesFit 16 = .ok (.iaload, 1) := by decide +kernel
theorem dX2_newLeasesFit_17 : decode cX2_newLeasesFit 17 = .ok (.iload_n 1, 1) := by decide +kernel
theorem dX2_newLeasesFit_18 : decode cX2_newLeasesFit 18 = .ok (.if_icmp .ne 31, 3) := by decide +kernel
theorem dX2_newLeasesFit_21 : decode cX2_newLeasesFit 21 = .ok (.aload_n 0, 1) := by decide +kernel
theorem dX2_newLeasesFit_22 : decode cX2_newLeasesFit 22 = .ok (.getfield 18, 3) := by decide +kernel
theorem dX2_newLeasesFit_25 : decode cX2_newLeasesFit 25 = .ok (.iload 4, 2) := by decide +kernel
theorem dX2_newLeasesFit_27 : decode cX2_newLeasesFit 27 = .ok (.iaload, 1) := by decide +kernel
theorem dX2_newLeasesFit_28 : decode cX2_newLeasesFit 28 = .ok (.iconst (-1), 1) := by decide +kernel
theorem dX2_newLeasesFit_29 : decode cX2_newLeasesFit 29 = .ok (.if_icmp .eq 20, 3) := by decide +kernel
theorem dX2_newLeasesFit_32 : decode cX2_newLeasesFit 32 = .ok (.iload_n 2, 1) := by decide +kernel
theorem dX2_newLeasesFit_33 : decode cX2_newLeasesFit 33 = .ok (.iload_n 3, 1) := by decide +kernel
theorem dX2_newLeasesFit_34 : decode cX2_newLeasesFit 34 = .ok (.aload_n 0, 1) := by decide +kernel
theorem dX2_newLeasesFit_35 : decode cX2_newLeasesFit 35 = .ok (.getfield 18, 3) := by decide +kernel
theorem dX2_newLeasesFit_38 : decode cX2_newLeasesFit 38 = .ok (.iload 4, 2) := by decide +kernel
theorem dX2_newLeasesFit_40 : decode cX2_newLeasesFit 40 = .ok (.iaload, 1) := by decide +kernel
theorem dX2_newLeasesFit_41 : decode cX2_newLeasesFit 41 = .ok (.invokestatic 51, 3) := by decide +kernel
theorem dX2_newLeasesFit_44 : decode cX2_newLeasesFit 44 = .ok (.ifCond .ne 5, 3) := by decide +kernel
theorem dX2_newLeasesFit_47 : decode cX2_newLeasesFit 47 = .ok (.iconst 0, 1) := by decide +kernel
theorem dX2_newLeasesFit_48 : decode cX2_newLeasesFit 48 = .ok (.ireturn, 1) := by decide +kernel
theorem dX2_newLeasesFit_49 : decode cX2_newLeasesFit 49 = .ok (.iinc 4 1, 3) := by decide +kernel
theorem dX2_newLeasesFit_52 : decode cX2_newLeasesFit 52 = .ok (.goto (-49), 3) := by decide +kernel
theorem dX2_newLeasesFit_55 : decode cX2_newLeasesFit 55 = .ok (.iconst 1, 1) := by decide +kernel
theorem dX2_newLeasesFit_56 : decode cX2_newLeasesFit 56 = .ok (.ireturn, 1) := by decide +kernel
theorem dX2_makeLeasesOld_0 : decode cX2_makeLeasesOld 0 = .ok (.iconst 0, 1) := by decide +kernel
theorem dX2_makeLeasesOld_1 : decode cX2_makeLeasesOld 1 = .ok (.istore_n 2, 1) := by decide +kernel
theorem dX2_makeLeasesOld_2 : decode cX2_makeLeasesOld 2 = .ok (.iload_n 2, 1) := by decide +kernel
theorem dX2_makeLeasesOld_3 : decode cX2_makeLeasesOld 3 = .ok (.bipush 16, 2) := by decide +kernel
theorem dX2_makeLeasesOld_5 : decode cX2_makeLeasesOld 5 = .ok (.if_icmp .ge 50, 3) := by decide +kernel
theorem dX2_makeLeasesOld_8 : decode cX2_makeLeasesOld 8 = .ok (.aload_n 0, 1) := by decide +kernel
theorem dX2_makeLeasesOld_9 : decode cX2_makeLeasesOld 9 = .ok (.getfield 9, 3) := by decide +kernel
theorem dX2_makeLeasesOld_12 : decode cX2_makeLeasesOld 12 = .ok (.iload_n 2, 1) := by decide +kernel
theorem dX2_makeLeasesOld_13 : decode cX2_makeLeasesOld 13 = .ok (.iaload, 1) := by decide +kernel
theorem dX2_makeLeasesOld_14 : decode cX2_makeLeasesOld 14 = .ok (.iload_n 1, 1) := by decide +kernel
theorem dX2_makeLeasesOld_15 : decode cX2_makeLeasesOld 15 = .ok (.if_icmp .ne 34, 3) := by decide +kernel
theorem dX2_makeLeasesOld_18 : decode cX2_makeLeasesOld 18 = .ok (.aload_n 0, 1) := by decide +kernel
theorem dX2_makeLeasesOld_19 : decode cX2_makeLeasesOld 19 = .ok (.getfield 24, 3) := by decide +kernel
theorem dX2_makeLeasesOld_22 : decode cX2_makeLeasesOld 22 = .ok (.iload_n 2, 1) := by decide +kernel
theorem dX2_makeLeasesOld_23 : decode cX2_makeLeasesOld 23 = .ok (.aload_n 0, 1) := by decide +kernel
theorem dX2_makeLeasesOld_24 : decode cX2_makeLeasesOld 24 = .ok (.getfield 18, 3) := by decide +kernel
theorem dX2_makeLeasesOld_27 : decode cX2_makeLeasesOld 27 = .ok (.iload_n 2, 1) := by decide +kernel
theorem dX2_makeLeasesOld_28 : decode cX2_makeLeasesOld 28 = .ok (.iaload, 1) := by decide +kernel
theorem dX2_makeLeasesOld_29 : decode cX2_makeLeasesOld 29 = .ok (.iastore, 1) := by decide +kernel
theorem dX2_makeLeasesOld_30 : decode cX2_makeLeasesOld 30 = .ok (.aload_n 0, 1) := by decide +kernel
theorem dX2_makeLeasesOld_31 : decode cX2_makeLeasesOld 31 = .ok (.getfield 27, 3) := by decide +kernel
theorem dX2_makeLeasesOld_34 : decode cX2_makeLeasesOld 34 = .ok (.iload_n 2, 1) := by decide +kernel
theorem dX2_makeLeasesOld_35 : decode cX2_makeLeasesOld 35 = .ok (.aload_n 0, 1) := by decide +kernel
theorem dX2_makeLeasesOld_36 : decode cX2_makeLeasesOld 36 = .ok (.getfield 21, 3) := by decide +kernel
theorem dX2_makeLeasesOld_39 : decode cX2_makeLeasesOld 39 = .ok (.iload_n 2, 1) := by decide +kernel
theorem dX2_makeLeasesOld_40 : decode cX2_makeLeasesOld 40 = .ok (.iaload, 1) := by decide +kernel
theorem dX2_makeLeasesOld_41 : decode cX2_makeLeasesOld 41 = .ok (.iastore, 1) := by decide +kernel
theorem dX2_makeLeasesOld_42 : decode cX2_makeLeasesOld 42 = .ok (.aload_n 0, 1) := by decide +kernel
theorem dX2_makeLeasesOld_43 : decode cX2_makeLeasesOld 43 = .ok (.getfield 18, 3) := by decide +kernel
theorem dX2_makeLeasesOld_46 : decode cX2_makeLeasesOld 46 = .ok (.iload_n 2, 1) := by decide +kernel
theorem dX2_makeLeasesOld_47 : decode cX2_makeLeasesOld 47 = .ok (.iconst (-1), 1) := by decide +kernel
theorem dX2_makeLeasesOld_48 : decode cX2_makeLeasesOld 48 = .ok (.iastore, 1) := by decide +kernel
theorem dX2_makeLeasesOld_49 : decode cX2_makeLeasesOld 49 = .ok (.iinc 2 1, 3) := by decide +kernel
theorem dX2_makeLeasesOld_52 : decode cX2_makeLeasesOld 52 = .ok (.goto (-50), 3) := by decide +kernel
theorem dX2_makeLeasesOld_55 : decode cX2_makeLeasesOld 55 = .ok (.return_, 1) := by decide +kernel
theorem dX2_dropOldLeases_0 : decode cX2_dropOldLeases 0 = .ok (.iconst 0, 1) := by decide +kernel
theorem dX2_dropOldLeases_1 : decode cX2_dropOldLeases 1 = .ok (.istore_n 2, 1) := by decide +kernel
theorem dX2_dropOldLeases_2 : decode cX2_dropOldLeases 2 = .ok (.iconst 0, 1) := by decide +kernel
theorem dX2_dropOldLeases_3 : decode cX2_dropOldLeases 3 = .ok (.istore_n 3, 1) := by decide +kernel
theorem dX2_dropOldLeases_4 : decode cX2_dropOldLeases 4 = .ok (.iload_n 3, 1) := by decide +kernel
theorem dX2_dropOldLeases_5 : decode cX2_dropOldLeases 5 = .ok (.bipush 16, 2) := by decide +kernel
theorem dX2_dropOldLeases_7 : decode cX2_dropOldLeases 7 = .ok (.if_icmp .ge 39, 3) := by decide +kernel
theorem dX2_dropOldLeases_10 : decode cX2_dropOldLeases 10 = .ok (.aload_n 0, 1) := by decide +kernel
theorem dX2_dropOldLeases_11 : decode cX2_dropOldLeases 11 = .ok (.getfield 9, 3) := by decide +kernel
theorem dX2_dropOldLeases_14 : decode cX2_dropOldLeases 14 = .ok (.iload_n 3, 1) := by decide +kernel
theorem dX2_dropOldLeases_15 : decode cX2_dropOldLeases 15 = .ok (.iaload, 1) := by decide +kernel
theorem dX2_dropOldLeases_16 : decode cX2_dropOldLeases 16 = .ok (.iload_n 1, 1) := by decide +kernel
theorem dX2_dropOldLeases_17 : decode cX2_dropOldLeases 17 = .ok (.if_icmp .ne 23, 3) := by decide +kernel
theorem dX2_dropOldLeases_20 : decode cX2_dropOldLeases 20 = .ok (.aload_n 0, 1) := by decide +kernel
theorem dX2_dropOldLeases_21 : decode cX2_dropOldLeases 21 = .ok (.getfield 24, 3) := by decide +kernel
theorem dX2_dropOldLeases_24 : decode cX2_dropOldLeases 24 = .ok (.iload_n 3, 1) := by decide +kernel
theorem dX2_dropOldLeases_25 : decode cX2_dropOldLeases 25 = .ok (.iaload, 1) := by decide +kernel
theorem dX2_dropOldLeases_26 : decode cX2_dropOldLeases 26 = .ok (.iconst (-1), 1) := by decide +kernel
theorem dX2_dropOldLeases_27 : decode cX2_dropOldLeases 27 = .ok (.if_icmp .eq 13, 3) := by decide +kernel
theorem dX2_dropOldLeases_30 : decode cX2_dropOldLeases 30 = .ok (.aload_n 0, 1) := by decide +kernel
theorem dX2_dropOldLeases_31 : decode cX2_dropOldLeases 31 = .ok (.getfield 24, 3) := by decide +kernel
theorem dX2_dropOldLeases_34 : decode cX2_dropOldLeases 34 = .ok (.iload_n 3, 1) := by decide +kernel
theorem dX2_dropOldLeases_35 : decode cX2_dropOldLeases 35 = .ok (.iconst (-1), 1) := by decide +kernel
theorem dX2_dropOldLeases_36 : decode cX2_dropOldLeases 36 = .ok (.iastore, 1) := by decide +kernel
theorem dX2_dropOldLeases_37 : decode cX2_dropOldLeases 37 = .ok (.iinc 2 1, 3) := by decide +kernel
theorem dX2_dropOldLeases_40 : decode cX2_dropOldLeases 40 = .ok (.iinc 3 1, 3) := by decide +kernel
theorem dX2_dropOldLeases_43 : decode cX2_dropOldLeases 43 = .ok (.goto (-39), 3) := by decide +kernel
theorem dX2_dropOldLeases_46 : decode cX2_dropOldLeases 46 = .ok (.iload_n 2, 1) := by decide +kernel
theorem dX2_dropOldLeases_47 : decode cX2_dropOldLeases 47 = .ok (.ireturn, 1) := by decide +kernel
theorem dX2_dropEnded_0 : decode cX2_dropEnded 0 = .ok (.iconst 0, 1) := by decide +kernel
theorem dX2_dropEnded_1 : decode cX2_dropEnded 1 = .ok (.istore_n 2, 1) := by decide +kernel
theorem dX2_dropEnded_2 : decode cX2_dropEnded 2 = .ok (.iconst 0, 1) := by decide +kernel
theorem dX2_dropEnded_3 : decode cX2_dropEnded 3 = .ok (.istore_n 3, 1) := by decide +kernel
theorem dX2_dropEnded_4 : decode cX2_dropEnded 4 = .ok (.iload_n 3, 1) := by decide +kernel
theorem dX2_dropEnded_5 : decode cX2_dropEnded 5 = .ok (.bipush 16, 2) := by decide +kernel
theorem dX2_dropEnded_7 : decode cX2_dropEnded 7 = .ok (.if_icmp .ge 69, 3) := by decide +kernel
theorem dX2_dropEnded_10 : decode cX2_dropEnded 10 = .ok (.aload_n 0, 1) := by decide +kernel
theorem dX2_dropEnded_11 : decode cX2_dropEnded 11 = .ok (.getfield 18, 3) := by decide +kernel
theorem dX2_dropEnded_14 : decode cX2_dropEnded 14 = .ok (.iload_n 3, 1) := by decide +kernel
theorem dX2_dropEnded_15 : decode cX2_dropEnded 15 = .ok (.iaload, 1) := by decide +kernel
theorem dX2_dropEnded_16 : decode cX2_dropEnded 16 = .ok (.iconst (-1), 1) := by decide +kernel
theorem dX2_dropEnded_17 : decode cX2_dropEnded 17 = .ok (.if_icmp .eq 23, 3) := by decide +kernel
theorem dX2_dropEnded_20 : decode cX2_dropEnded 20 = .ok (.aload_n 0, 1) := by decide +kernel
theorem dX2_dropEnded_21 : decode cX2_dropEnded 21 = .ok (.getfield 21, 3) := by decide +kernel
theorem dX2_dropEnded_24 : decode cX2_dropEnded 24 = .ok (.iload_n 3, 1) := by decide +kernel
theorem dX2_dropEnded_25 : decode cX2_dropEnded 25 = .ok (.iaload, 1) := by decide +kernel
theorem dX2_dropEnded_26 : decode cX2_dropEnded 26 = .ok (.iload_n 1, 1) := by decide +kernel
theorem dX2_dropEnded_27 : decode cX2_dropEnded 27 = .ok (.if_icmp .gt 13, 3) := by decide +kernel
theorem dX2_dropEnded_30 : decode cX2_dropEnded 30 = .ok (.aload_n 0, 1) := by decide +kernel
theorem dX2_dropEnded_31 : decode cX2_dropEnded 31 = .ok (.getfield 18, 3) := by decide +kernel
theorem dX2_dropEnded_34 : decode cX2_dropEnded 34 = .ok (.iload_n 3, 1) := by decide +kernel
theorem dX2_dropEnded_35 : decode cX2_dropEnded 35 = .ok (.iconst (-1), 1) := by decide +kernel
theorem dX2_dropEnded_36 : decode cX2_dropEnded 36 = .ok (.iastore, 1) := by decide +kernel
theorem dX2_dropEnded_37 : decode cX2_dropEnded 37 = .ok (.iinc 2 1, 3) := by decide +kernel
theorem dX2_dropEnded_40 : decode cX2_dropEnded 40 = .ok (.aload_n 0, 1) := by decide +kernel
theorem dX2_dropEnded_41 : decode cX2_dropEnded 41 = .ok (.getfield 24, 3) := by decide +kernel
theorem dX2_dropEnded_44 : decode cX2_dropEnded 44 = .ok (.iload_n 3, 1) := by decide +kernel
theorem dX2_dropEnded_45 : decode cX2_dropEnded 45 = .ok (.iaload, 1) := by decide +kernel
theorem dX2_dropEnded_46 : decode cX2_dropEnded 46 = .ok (.iconst (-1), 1) := by decide +kernel
theorem dX2_dropEnded_47 : decode cX2_dropEnded 47 = .ok (.if_icmp .eq 23, 3) := by decide +kernel
theorem dX2_dropEnded_50 : decode cX2_dropEnded 50 = .ok (.aload_n 0, 1) := by decide +kernel
theorem dX2_dropEnded_51 : decode cX2_dropEnded 51 = .ok (.getfield 27, 3) := by decide +kernel
theorem dX2_dropEnded_54 : decode cX2_dropEnded 54 = .ok (.iload_n 3, 1) := by decide +kernel
theorem dX2_dropEnded_55 : decode cX2_dropEnded 55 = .ok (.iaload, 1) := by decide +kernel
theorem dX2_dropEnded_56 : decode cX2_dropEnded 56 = .ok (.iload_n 1, 1) := by decide +kernel
theorem dX2_dropEnded_57 : decode cX2_dropEnded 57 = .ok (.if_icmp .gt 13, 3) := by decide +kernel
theorem dX2_dropEnded_60 : decode cX2_dropEnded 60 = .ok (.aload_n 0, 1) := by decide +kernel
theorem dX2_dropEnded_61 : decode cX2_dropEnded 61 = .ok (.getfield 24, 3) := by decide +kernel
theorem dX2_dropEnded_64 : decode cX2_dropEnded 64 = .ok (.iload_n 3, 1) := by decide +kernel
theorem dX2_dropEnded_65 : decode cX2_dropEnded 65 = .ok (.iconst (-1), 1) := by decide +kernel
theorem dX2_dropEnded_66 : decode cX2_dropEnded 66 = .ok (.iastore, 1) := by decide +kernel
theorem dX2_dropEnded_67 : decode cX2_dropEnded 67 = .ok (.iinc 2 1, 3) := by decide +kernel
theorem dX2_dropEnded_70 : decode cX2_dropEnded 70 = .ok (.iinc 3 1, 3) := by decide +kernel
theorem dX2_dropEnded_73 : decode cX2_dropEnded 73 = .ok (.goto (-69), 3) := by decide +kernel
theorem dX2_dropEnded_76 : decode cX2_dropEnded 76 = .ok (.iload_n 2, 1) := by decide +kernel
theorem dX2_dropEnded_77 : decode cX2_dropEnded 77 = .ok (.ireturn, 1) := by decide +kernel
theorem dX2_firstEnd_0 : decode cX2_firstEnd 0 = .ok (.sipush 10999, 3) := by decide +kernel
theorem dX2_firstEnd_3 : decode cX2_firstEnd 3 = .ok (.istore_n 1, 1) := by decide +kernel
theorem dX2_firstEnd_4 : decode cX2_firstEnd 4 = .ok (.iconst 0, 1) := by decide +kernel
theorem dX2_firstEnd_5 : decode cX2_firstEnd 5 = .ok (.istore_n 2, 1) := by decide +kernel
theorem dX2_firstEnd_6 : decode cX2_firstEnd 6 = .ok (.iload_n 2, 1) := by decide +kernel
theorem dX2_firstEnd_7 : decode cX2_firstEnd 7 = .ok (.bipush 16, 2) := by decide +kernel
theorem dX2_firstEnd_9 : decode cX2_firstEnd 9 = .ok (.if_icmp .ge 51, 3) := by decide +kernel
theorem dX2_firstEnd_12 : decode cX2_firstEnd 12 = .ok (.aload_n 0, 1) := by decide +kernel
theorem dX2_firstEnd_13 : decode cX2_firstEnd 13 = .ok (.getfield 18, 3) := by decide +kernel
theorem dX2_firstEnd_16 : decode cX2_firstEnd 16 = .ok (.iload_n 2, 1) := by decide +kernel
theorem dX2_firstEnd_17 : decode cX2_firstEnd 17 = .ok (.iaload, 1) := by decide +kernel
theorem dX2_firstEnd_18 : decode cX2_firstEnd 18 = .ok (.iconst (-1), 1) := by decide +kernel
theorem dX2_firstEnd_19 : decode cX2_firstEnd 19 = .ok (.if_icmp .eq 14, 3) := by decide +kernel
theorem dX2_firstEnd_22 : decode cX2_firstEnd 22 = .ok (.iload_n 1, 1) := by decide +kernel
theorem dX2_firstEnd_23 : decode cX2_firstEnd 23 = .ok (.aload_n 0, 1) := by decide +kernel
theorem dX2_firstEnd_24 : decode cX2_firstEnd 24 = .ok (.getfield 21, 3) := by decide +kernel
theorem dX2_firstEnd_27 : decode cX2_firstEnd 27 = .ok (.iload_n 2, 1) := by decide +kernel
theorem dX2_firstEnd_28 : decode cX2_firstEnd 28 = .ok (.iaload, 1) := by decide +kernel
theorem dX2_firstEnd_29 : decode cX2_firstEnd 29 = .ok (.invokestatic 58, 3) := by decide +kernel
theorem dX2_firstEnd_32 : decode cX2_firstEnd 32 = .ok (.istore_n 1, 1) := by decide +kernel
theorem dX2_firstEnd_33 : decode cX2_firstEnd 33 = .ok (.aload_n 0, 1) := by decide +kernel
theorem dX2_firstEnd_34 : decode cX2_firstEnd 34 = .ok (.getfield 24, 3) := by decide +kernel
theorem dX2_firstEnd_37 : decode cX2_firstEnd 37 = .ok (.iload_n 2, 1) := by decide +kernel
theorem dX2_firstEnd_38 : decode cX2_firstEnd 38 = .ok (.iaload, 1) := by decide +kernel
theorem dX2_firstEnd_39 : decode cX2_firstEnd 39 = .ok (.iconst (-1), 1) := by decide +kernel
theorem dX2_firstEnd_40 : decode cX2_firstEnd 40 = .ok (.if_icmp .eq 14, 3) := by decide +kernel
theorem dX2_firstEnd_43 : decode cX2_firstEnd 43 = .ok (.iload_n 1, 1) := by decide +kernel
theorem dX2_firstEnd_44 : decode cX2_firstEnd 44 = .ok (.aload_n 0, 1) := by decide +kernel
theorem dX2_firstEnd_45 : decode cX2_firstEnd 45 = .ok (.getfield 27, 3) := by decide +kernel
theorem dX2_firstEnd_48 : decode cX2_firstEnd 48 = .ok (.iload_n 2, 1) := by decide +kernel
theorem dX2_firstEnd_49 : decode cX2_firstEnd 49 = .ok (.iaload, 1) := by decide +kernel
theorem dX2_firstEnd_50 : decode cX2_firstEnd 50 = .ok (.invokestatic 58, 3) := by decide +kernel
theorem dX2_firstEnd_53 : decode cX2_firstEnd 53 = .ok (.istore_n 1, 1) := by decide +kernel
theorem dX2_firstEnd_54 : decode cX2_firstEnd 54 = .ok (.iinc 2 1, 3) := by decide +kernel
theorem dX2_firstEnd_57 : decode cX2_firstEnd 57 = .ok (.goto (-51), 3) := by decide +kernel
theorem dX2_firstEnd_60 : decode cX2_firstEnd 60 = .ok (.iload_n 1, 1) := by decide +kernel
theorem dX2_firstEnd_61 : decode cX2_firstEnd 61 = .ok (.ireturn, 1) := by decide +kernel
theorem dX2_property_0 : decode cX2_property 0 = .ok (.iload_n 2, 1) := by decide +kernel
theorem dX2_property_1 : decode cX2_property 1 = .ok (.tableswitch 84 0 4 #[35, 42, 49, 56, 77], 35) := by decide +kernel
theorem dX2_property_36 : decode cX2_property 36 = .ok (.aload_n 0, 1) := by decide +kernel
theorem dX2_property_37 : decode cX2_property 37 = .ok (.getfield 9, 3) := by decide +kernel
theorem dX2_property_40 : decode cX2_property 40 = .ok (.iload_n 1, 1) := by decide +kernel
theorem dX2_property_41 : decode cX2_property 41 = .ok (.iaload, 1) := by decide +kernel
theorem dX2_property_42 : decode cX2_property 42 = .ok (.ireturn, 1) := by decide +kernel
theorem dX2_property_43 : decode cX2_property 43 = .ok (.aload_n 0, 1) := by decide +kernel
theorem dX2_property_44 : decode cX2_property 44 = .ok (.getfield 15, 3) := by decide +kernel
theorem dX2_property_47 : decode cX2_property 47 = .ok (.iload_n 1, 1) := by decide +kernel
theorem dX2_property_48 : decode cX2_property 48 = .ok (.iaload, 1) := by decide +kernel
theorem dX2_property_49 : decode cX2_property 49 = .ok (.ireturn, 1) := by decide +kernel
theorem dX2_property_50 : decode cX2_property 50 = .ok (.aload_n 0, 1) := by decide +kernel
theorem dX2_property_51 : decode cX2_property 51 = .ok (.getfield 18, 3) := by decide +kernel
theorem dX2_property_54 : decode cX2_property 54 = .ok (.iload_n 1, 1) := by decide +kernel
theorem dX2_property_55 : decode cX2_property 55 = .ok (.iaload, 1) := by decide +kernel
theorem dX2_property_56 : decode cX2_property 56 = .ok (.ireturn, 1) := by decide +kernel
theorem dX2_property_57 : decode cX2_property 57 = .ok (.aload_n 0, 1) := by decide +kernel
theorem dX2_property_58 : decode cX2_property 58 = .ok (.getfield 18, 3) := by decide +kernel
theorem dX2_property_61 : decode cX2_property 61 = .ok (.iload_n 1, 1) := by decide +kernel
theorem dX2_property_62 : decode cX2_property 62 = .ok (.iaload, 1) := by decide +kernel
theorem dX2_property_63 : decode cX2_property 63 = .ok (.iconst (-1), 1) := by decide +kernel
theorem dX2_property_64 : decode cX2_property 64 = .ok (.if_icmp .ne 7, 3) := by decide +kernel
theorem dX2_property_67 : decode cX2_property 67 = .ok (.iconst (-1), 1) := by decide +kernel
theorem dX2_property_68 : decode cX2_property 68 = .ok (.goto 9, 3) := by decide +kernel
theorem dX2_property_71 : decode cX2_property 71 = .ok (.aload_n 0, 1) := by decide +kernel
theorem dX2_property_72 : decode cX2_property 72 = .ok (.getfield 21, 3) := by decide +kernel
theorem dX2_property_75 : decode cX2_property 75 = .ok (.iload_n 1, 1) := by decide +kernel
theorem dX2_property_76 : decode cX2_property 76 = .ok (.iaload, 1) := by decide +kernel
theorem dX2_property_77 : decode cX2_property 77 = .ok (.ireturn, 1) := by decide +kernel
theorem dX2_property_78 : decode cX2_property 78 = .ok (.aload_n 0, 1) := by decide +kernel
theorem dX2_property_79 : decode cX2_property 79 = .ok (.getfield 24, 3) := by decide +kernel
theorem dX2_property_82 : decode cX2_property 82 = .ok (.iload_n 1, 1) := by decide +kernel
theorem dX2_property_83 : decode cX2_property 83 = .ok (.iaload, 1) := by decide +kernel
theorem dX2_property_84 : decode cX2_property 84 = .ok (.ireturn, 1) := by decide +kernel
theorem dX2_property_85 : decode cX2_property 85 = .ok (.aload_n 0, 1) := by decide +kernel
theorem dX2_property_86 : decode cX2_property 86 = .ok (.getfield 24, 3) := by decide +kernel
theorem dX2_property_89 : decode cX2_property 89 = .ok (.iload_n 1, 1) := by decide +kernel
theorem dX2_property_90 : decode cX2_property 90 = .ok (.iaload, 1) := by decide +kernel
theorem dX2_property_91 : decode cX2_property 91 = .ok (.iconst (-1), 1) := by decide +kernel
theorem dX2_property_92 : decode cX2_property 92 = .ok (.if_icmp .ne 7, 3) := by decide +kernel
theorem dX2_property_95 : decode cX2_property 95 = .ok (.iconst (-1), 1) := by decide +kernel
theorem dX2_property_96 : decode cX2_property 96 = .ok (.goto 9, 3) := by decide +kernel
theorem dX2_property_99 : decode cX2_property 99 = .ok (.aload_n 0, 1) := by decide +kernel
theorem dX2_property_100 : decode cX2_property 100 = .ok (.getfield 27, 3) := by decide +kernel
theorem dX2_property_103 : decode cX2_property 103 = .ok (.iload_n 1, 1) := by decide +kernel
theorem dX2_property_104 : decode cX2_property 104 = .ok (.iaload, 1) := by decide +kernel
theorem dX2_property_105 : decode cX2_property 105 = .ok (.ireturn, 1) := by decide +kernel
theorem dX3_init_0 : decode cX3_init 0 = .ok (.aload_n 0, 1) := by decide +kernel
theorem dX3_init_1 : decode cX3_init 1 = .ok (.invokespecial 3, 3) := by decide +kernel
theorem dX3_init_4 : decode cX3_init 4 = .ok (.aload_n 0, 1) := by decide +kernel
theorem dX3_init_5 : decode cX3_init 5 = .ok (.new 9, 3) := by decide +kernel
theorem dX3_init_8 : decode cX3_init 8 = .ok (.dup, 1) := by decide +kernel
theorem dX3_init_9 : decode cX3_init 9 = .ok (.invokespecial 11, 3) := by decide +kernel
theorem dX3_init_12 : decode cX3_init 12 = .ok (.putfield 12, 3) := by decide +kernel
theorem dX3_init_15 : decode cX3_init 15 = .ok (.aload_n 0, 1) := by decide +kernel
theorem dX3_init_16 : decode cX3_init 16 = .ok (.new 18, 3) := by decide +kernel
theorem dX3_init_19 : decode cX3_init 19 = .ok (.dup, 1) := by decide +kernel
theorem dX3_init_20 : decode cX3_init 20 = .ok (.invokespecial 20, 3) := by decide +kernel
theorem dX3_init_23 : decode cX3_init 23 = .ok (.putfield 21, 3) := by decide +kernel
theorem dX3_init_26 : decode cX3_init 26 = .ok (.aload_n 0, 1) := by decide +kernel
theorem dX3_init_27 : decode cX3_init 27 = .ok (.new 18, 3) := by decide +kernel
theorem dX3_init_30 : decode cX3_init 30 = .ok (.dup, 1) := by decide +kernel
theorem dX3_init_31 : decode cX3_init 31 = .ok (.invokespecial 20, 3) := by decide +kernel
theorem dX3_init_34 : decode cX3_init 34 = .ok (.putfield 25, 3) := by decide +kernel
theorem dX3_init_37 : decode cX3_init 37 = .ok (.aload_n 0, 1) := by decide +kernel
theorem dX3_init_38 : decode cX3_init 38 = .ok (.bipush 12, 2) := by decide +kernel
theorem dX3_init_40 : decode cX3_init 40 = .ok (.newarray .int, 2) := by decide +kernel
theorem dX3_init_42 : decode cX3_init 42 = .ok (.putfield 28, 3) := by decide +kernel
theorem dX3_init_45 : decode cX3_init 45 = .ok (.aload_n 0, 1) := by decide +kernel
theorem dX3_init_46 : decode cX3_init 46 = .ok (.bipush 12, 2) := by decide +kernel
theorem dX3_init_48 : decode cX3_init 48 = .ok (.newarray .int, 2) := by decide +kernel
theorem dX3_init_50 : decode cX3_init 50 = .ok (.putfield 32, 3) := by decide +kernel
theorem dX3_init_53 : decode cX3_init 53 = .ok (.aload_n 0, 1) := by decide +kernel
theorem dX3_init_54 : decode cX3_init 54 = .ok (.bipush 12, 2) := by decide +kernel
theorem dX3_init_56 : decode cX3_init 56 = .ok (.newarray .int, 2) := by decide +kernel
theorem dX3_init_58 : decode cX3_init 58 = .ok (.putfield 35, 3) := by decide +kernel
theorem dX3_init_61 : decode cX3_init 61 = .ok (.return_, 1) := by decide +kernel
theorem dX3_imagine_0 : decode cX3_imagine 0 = .ok (.aload_n 0, 1) := by decide +kernel
theorem dX3_imagine_1 : decode cX3_imagine 1 = .ok (.getfield 12, 3) := by decide +kernel
theorem dX3_imagine_4 : decode cX3_imagine 4 = .ok (.aload_n 1, 1) := by decide +kernel
theorem dX3_imagine_5 : decode cX3_imagine 5 = .ok (.invokevirtual 38, 3) := by decide +kernel
theorem dX3_imagine_8 : decode cX3_imagine 8 = .ok (.aload_n 0, 1) := by decide +kernel
theorem dX3_imagine_9 : decode cX3_imagine 9 = .ok (.getfield 21, 3) := by decide +kernel
theorem dX3_imagine_12 : decode cX3_imagine 12 = .ok (.aload_n 0, 1) := by decide +kernel
theorem dX3_imagine_13 : decode cX3_imagine 13 = .ok (.getfield 12, 3) := by decide +kernel
theorem dX3_imagine_16 : decode cX3_imagine 16 = .ok (.invokevirtual 42, 3) := by decide +kernel
theorem dX3_imagine_19 : decode cX3_imagine 19 = .ok (.return_, 1) := by decide +kernel
theorem dX3_tryMove_0 : decode cX3_tryMove 0 = .ok (.aload_n 0, 1) := by decide +kernel
theorem dX3_tryMove_1 : decode cX3_tryMove 1 = .ok (.getfield 12, 3) := by decide +kernel
theorem dX3_tryMove_4 : decode cX3_tryMove 4 = .ok (.getfield 45, 3) := by decide +kernel
theorem dX3_tryMove_7 : decode cX3_tryMove 7 = .ok (.iload_n 1, 1) := by decide +kernel
theorem dX3_tryMove_8 : decode cX3_tryMove 8 = .ok (.iaload, 1) := by decide +kernel
theorem dX3_tryMove_9 : decode cX3_tryMove 9 = .ok (.istore_n 2, 1) := by decide +kernel
theorem dX3_tryMove_10 : decode cX3_tryMove 10 = .ok (.aload_n 0, 1) := by decide +kernel
theorem dX3_tryMove_11 : decode cX3_tryMove 11 = .ok (.aload_n 0, 1) := by decide +kernel
theorem dX3_tryMove_12 : decode cX3_tryMove 12 = .ok (.getfield 21, 3) := by decide +kernel
theorem dX3_tryMove_15 : decode cX3_tryMove 15 = .ok (.getfield 48, 3) := by decide +kernel
theorem dX3_tryMove_18 : decode cX3_tryMove 18 = .ok (.aload_n 0, 1) := by decide +kernel
theorem dX3_tryMove_19 : decode cX3_tryMove 19 = .ok (.getfield 12, 3) := by decide +kernel
theorem dX3_tryMove_22 : decode cX3_tryMove 22 = .ok (.getfield 52, 3) := by decide +kernel
theorem dX3_tryMove_25 : decode cX3_tryMove 25 = .ok (.aload_n 0, 1) := by decide +kernel
theorem dX3_tryMove_26 : decode cX3_tryMove 26 = .ok (.getfield 12, 3) := by decide +kernel
theorem dX3_tryMove_29 : decode cX3_tryMove 29 = .ok (.getfield 56, 3) := by decide +kernel
theorem dX3_tryMove_32 : decode cX3_tryMove 32 = .ok (.iload_n 1, 1) := by decide +kernel
theorem dX3_tryMove_33 : decode cX3_tryMove 33 = .ok (.iaload, 1) := by decide +kernel
theorem dX3_tryMove_34 : decode cX3_tryMove 34 = .ok (.invokevirtual 59, 3) := by decide +kernel
theorem dX3_tryMove_37 : decode cX3_tryMove 37 = .ok (.putfield 65, 3) := by decide +kernel
theorem dX3_tryMove_40 : decode cX3_tryMove 40 = .ok (.aload_n 0, 1) := by decide +kernel
theorem dX3_tryMove_41 : decode cX3_tryMove 41 = .ok (.getfield 65, 3) := by decide +kernel
theorem dX3_tryMove_44 : decode cX3_tryMove 44 = .ok (.iconst (-1), 1) := by decide +kernel
theorem dX3_tryMove_45 : decode cX3_tryMove 45 = .ok (.if_icmp .ne 5, 3) := by decide +kernel
theorem dX3_tryMove_48 : decode cX3_tryMove 48 = .ok (.iconst 0, 1) := by decide +kernel
theorem dX3_tryMove_49 : decode cX3_tryMove 49 = .ok (.ireturn, 1) := by decide +kernel
theorem dX3_tryMove_50 : decode cX3_tryMove 50 = .ok (.aload_n 0, 1) := by decide +kernel
theorem dX3_tryMove_51 : decode cX3_tryMove 51 = .ok (.getfield 12, 3) := by decide +kernel
theorem dX3_tryMove_54 : decode cX3_tryMove 54 = .ok (.getfield 45, 3) := by decide +kernel
theorem dX3_tryMove_57 : decode cX3_tryMove 57 = .ok (.iload_n 1, 1) := by decide +kernel
theorem dX3_tryMove_58 : decode cX3_tryMove 58 = .ok (.aload_n 0, 1) := by decide +kernel
theorem dX3_tryMove_59 : decode cX3_tryMove 59 = .ok (.getfield 65, 3) := by decide +kernel
theorem dX3_tryMove_62 : decode cX3_tryMove 62 = .ok (.iastore, 1) := by decide +kernel
theorem dX3_tryMove_63 : decode cX3_tryMove 63 = .ok (.aload_n 0, 1) := by decide +kernel
theorem dX3_tryMove_64 : decode cX3_tryMove 64 = .ok (.getfield 25, 3) := by decide +kernel
theorem dX3_tryMove_67 : decode cX3_tryMove 67 = .ok (.aload_n 0, 1) := by decide +kernel
theorem dX3_tryMove_68 : decode cX3_tryMove 68 = .ok (.getfield 12, 3) := by decide +kernel
theorem dX3_tryMove_71 : decode cX3_tryMove 71 = .ok (.invokevirtual 42, 3) := by decide +kernel
theorem dX3_tryMove_74 : decode cX3_tryMove 74 = .ok (.aload_n 0, 1) := by decide +kernel
theorem dX3_tryMove_75 : decode cX3_tryMove 75 = .ok (.aload_n 0, 1) := by decide +kernel
theorem dX3_tryMove_76 : decode cX3_tryMove 76 = .ok (.getfield 25, 3) := by decide +kernel
theorem dX3_tryMove_79 : decode cX3_tryMove 79 = .ok (.getfield 48, 3) := by decide +kernel
theorem dX3_tryMove_82 : decode cX3_tryMove 82 = .ok (.invokevirtual 68, 3) := by decide +kernel
theorem dX3_tryMove_85 : decode cX3_tryMove 85 = .ok (.putfield 72, 3) := by decide +kernel
theorem dX3_tryMove_88 : decode cX3_tryMove 88 = .ok (.aload_n 0, 1) := by decide +kernel
theorem dX3_tryMove_89 : decode cX3_tryMove 89 = .ok (.getfield 12, 3) := by decide +kernel
theorem dX3_tryMove_92 : decode cX3_tryMove 92 = .ok (.getfield 45, 3) := by decide +kernel
theorem dX3_tryMove_95 : decode cX3_tryMove 95 = .ok (.iload_n 1, 1) := by decide +kernel
theorem dX3_tryMove_96 : decode cX3_tryMove 96 = .ok (.iload_n 2, 1) := by decide +kernel
theorem dX3_tryMove_97 : decode cX3_tryMove 97 = .ok (.iastore, 1) := by decide +kernel
theorem dX3_tryMove_98 : decode cX3_tryMove 98 = .ok (.iconst 1, 1) := by decide +kernel
theorem dX3_tryMove_99 : decode cX3_tryMove 99 = .ok (.ireturn, 1) := by decide +kernel
theorem dX3_findBest_0 : decode cX3_findBest 0 = .ok (.aload_n 0, 1) := by decide +kernel
theorem dX3_findBest_1 : decode cX3_findBest 1 = .ok (.iconst (-1), 1) := by decide +kernel
theorem dX3_findBest_2 : decode cX3_findBest 2 = .ok (.putfield 75, 3) := by decide +kernel
theorem dX3_findBest_5 : decode cX3_findBest 5 = .ok (.aload_n 0, 1) := by decide +kernel
theorem dX3_findBest_6 : decode cX3_findBest 6 = .ok (.aload_n 0, 1) := by decide +kernel
theorem dX3_findBest_7 : decode cX3_findBest 7 = .ok (.getfield 21, 3) := by decide +kernel
theorem dX3_findBest_10 : decode cX3_findBest 10 = .ok (.getfield 48, 3) := by decide +kernel
theorem dX3_findBest_13 : decode cX3_findBest 13 = .ok (.invokevirtual 68, 3) := by decide +kernel
theorem dX3_findBest_16 : decode cX3_findBest 16 = .ok (.putfield 78, 3) := by decide +kernel
theorem dX3_findBest_19 : decode cX3_findBest 19 = .ok (.iconst 0, 1) := by decide +kernel
theorem dX3_findBest_20 : decode cX3_findBest 20 = .ok (.istore_n 1, 1) := by decide +kernel
theorem dX3_findBest_21 : decode cX3_findBest 21 = .ok (.iload_n 1, 1) := by decide +kernel
theorem dX3_findBest_22 : decode cX3_findBest 22 = .ok (.bipush 12, 2) := by decide +kernel
theorem dX3_findBest_24 : decode cX3_findBest 24 = .ok (.if_icmp .ge 60, 3) := by decide +kernel
theorem dX3_findBest_27 : decode cX3_findBest 27 = .ok (.aload_n 0, 1) := by decide +kernel
theorem dX3_findBest_28 : decode cX3_findBest 28 = .ok (.getfield 12, 3) := by decide +kernel
theorem dX3_findBest_31 : decode cX3_findBest 31 = .ok (.iload_n 1, 1) := by decide +kernel
theorem dX3_findBest_32 : decode cX3_findBest 32 = .ok (.invokevirtual 81, 3) := by decide +kernel
theorem dX3_findBest_35 : decode cX3_findBest 35 = .ok (.ifCond .eq 43, 3) := by decide +kernel
theorem dX3_findBest_38 : decode cX3_findBest 38 = .ok (.aload_n 0, 1) := by decide +kernel
theorem dX3_findBest_39 : decode cX3_findBest 39 = .ok (.iload_n 1, 1) := by decide +kernel
theorem dX3_findBest_40 : decode cX3_findBest 40 = .ok (.invokevirtual 85, 3) := by decide +kernel
theorem dX3_findBest_43 : decode cX3_findBest 43 = .ok (.ifCond .eq 35, 3) := by decide +kernel
theorem dX3_findBest_46 : decode cX3_findBest 46 = .ok (.aload_n 0, 1) := by decide +kernel
theorem dX3_findBest_47 : decode cX3_findBest 47 = .ok (.getfield 72, 3) := by decide +kernel
theorem dX3_findBest_50 : decode cX3_findBest 50 = .ok (.aload_n 0, 1) := by decide +kernel
theorem dX3_findBest_51 : decode cX3_findBest 51 = .ok (.getfield 78, 3) := by decide +kernel
theorem dX3_findBest_54 : decode cX3_findBest 54 = .ok (.if_icmp .ge 24, 3) := by decide +kernel
theorem dX3_findBest_57 : decode cX3_findBest 57 = .ok (.aload_n 0, 1) := by decide +kernel
theorem dX3_findBest_58 : decode cX3_findBest 58 = .ok (.iload_n 1, 1) := by decide +kernel
theorem dX3_findBest_59 : decode cX3_findBest 59 = .ok (.putfield 75, 3) := by decide +kernel
theorem dX3_findBest_62 : decode cX3_findBest 62 = .ok (.aload_n 0, 1) := by decide +kernel
theorem dX3_findBest_63 : decode cX3_findBest 63 = .ok (.aload_n 0, 1) := by decide +kernel
theorem dX3_findBest_64 : decode cX3_findBest 64 = .ok (.getfield 65, 3) := by decide +kernel
theorem dX3_findBest_67 : decode cX3_findBest 67 = .ok (.putfield 88, 3) := by decide +kernel
theorem dX3_findBest_70 : decode cX3_findBest 70 = .ok (.aload_n 0, 1) := by decide +kernel
theorem dX3_findBest_71 : decode cX3_findBest 71 = .ok (.aload_n 0, 1) := by decide +kernel
theorem dX3_findBest_72 : decode cX3_findBest 72 = .ok (.getfield 72, 3) := by decide +kernel
theorem dX3_findBest_75 : decode cX3_findBest 75 = .ok (.putfield 78, 3) := by decide +kernel
theorem dX3_findBest_78 : decode cX3_findBest 78 = .ok (.iinc 1 1, 3) := by decide +kernel
theorem dX3_findBest_81 : decode cX3_findBest 81 = .ok (.goto (-60), 3) := by decide +kernel
theorem dX3_findBest_84 : decode cX3_findBest 84 = .ok (.aload_n 0, 1) := by decide +kernel
theorem dX3_findBest_85 : decode cX3_findBest 85 = .ok (.getfield 75, 3) := by decide +kernel
theorem dX3_findBest_88 : decode cX3_findBest 88 = .ok (.iconst (-1), 1) := by decide +kernel
theorem dX3_findBest_89 : decode cX3_findBest 89 = .ok (.if_icmp .eq 7, 3) := by decide +kernel
theorem dX3_findBest_92 : decode cX3_findBest 92 = .ok (.iconst 1, 1) := by decide +kernel
theorem dX3_findBest_93 : decode cX3_findBest 93 = .ok (.goto 4, 3) := by decide +kernel
theorem dX3_findBest_96 : decode cX3_findBest 96 = .ok (.iconst 0, 1) := by decide +kernel
theorem dX3_findBest_97 : decode cX3_findBest 97 = .ok (.ireturn, 1) := by decide +kernel
theorem dX3_fillPlan_0 : decode cX3_fillPlan 0 = .ok (.aload_n 0, 1) := by decide +kernel
theorem dX3_fillPlan_1 : decode cX3_fillPlan 1 = .ok (.iconst 0, 1) := by decide +kernel
theorem dX3_fillPlan_2 : decode cX3_fillPlan 2 = .ok (.putfield 91, 3) := by decide +kernel
theorem dX3_fillPlan_5 : decode cX3_fillPlan 5 = .ok (.aload_n 0, 1) := by decide +kernel
theorem dX3_fillPlan_6 : decode cX3_fillPlan 6 = .ok (.aload_n 1, 1) := by decide +kernel
theorem dX3_fillPlan_7 : decode cX3_fillPlan 7 = .ok (.invokevirtual 94, 3) := by decide +kernel
theorem dX3_fillPlan_10 : decode cX3_fillPlan 10 = .ok (.iconst 0, 1) := by decide +kernel
theorem dX3_fillPlan_11 : decode cX3_fillPlan 11 = .ok (.istore_n 3, 1) := by decide +kernel
theorem dX3_fillPlan_12 : decode cX3_fillPlan 12 = .ok (.iload_n 3, 1) := by decide +kernel
theorem dX3_fillPlan_13 : decode cX3_fillPlan 13 = .ok (.iload_n 2, 1) := by decide +kernel
theorem dX3_fillPlan_14 : decode cX3_fillPlan 14 = .ok (.if_icmp .ge 99, 3) := by decide +kernel
theorem dX3_fillPlan_17 : decode cX3_fillPlan 17 = .ok (.iload_n 3, 1) := by decide +kernel
theorem dX3_fillPlan_18 : decode cX3_fillPlan 18 = .ok (.bipush 12, 2) := by decide +kernel
theorem dX3_fillPlan_20 : decode cX3_fillPlan 20 = .ok (.if_icmp .ge 93, 3) := by decide +kernel
theorem dX3_fillPlan_23 : decode cX3_fillPlan 23 = .ok (.aload_n 0, 1) := by decide +kernel
theorem dX3_fillPlan_24 : decode cX3_fillPlan 24 = .ok (.invokevirtual 97, 3) := by decide +kernel
theorem dX3_fillPlan_27 : decode cX3_fillPlan 27 = .ok (.ifCond .eq 86, 3) := by decide +kernel
theorem dX3_fillPlan_30 : decode cX3_fillPlan 30 = .ok (.aload_n 0, 1) := by decide +kernel
theorem dX3_fillPlan_31 : decode cX3_fillPlan 31 = .ok (.getfield 28, 3) := by decide +kernel
theorem dX3_fillPlan_34 : decode cX3_fillPlan 34 = .ok (.iload_n 3, 1) := by decide +kernel
theorem dX3_fillPlan_35 : decode cX3_fillPlan 35 = .ok (.aload_n 0, 1) := by decide +kernel
theorem dX3_fillPlan_36 : decode cX3_fillPlan 36 = .ok (.getfield 75, 3) := by decide +kernel
theorem dX3_fillPlan_39 : decode cX3_fillPlan 39 = .ok (.iastore, 1) := by decide +kernel
theorem dX3_fillPlan_40 : decode cX3_fillPlan 40 = .ok (.aload_n 0, 1) := by decide +kernel
theorem dX3_fillPlan_41 : decode cX3_fillPlan 41 = .ok (.getfield 32, 3) := by decide +kernel
theorem dX3_fillPlan_44 : decode cX3_fillPlan 44 = .ok (.iload_n 3, 1) := by decide +kernel
theorem dX3_fillPlan_45 : decode cX3_fillPlan 45 = .ok (.aload_n 0, 1) := by decide +kernel
theorem dX3_fillPlan_46 : decode cX3_fillPlan 46 = .ok (.getfield 88, 3) := by decide +kernel
theorem dX3_fillPlan_49 : decode cX3_fillPlan 49 = .ok (.iastore, 1) := by decide +kernel
theorem dX3_fillPlan_50 : decode cX3_fillPlan 50 = .ok (.aload_n 0, 1) := by decide +kernel
theorem dX3_fillPlan_51 : decode cX3_fillPlan 51 = .ok (.getfield 35, 3) := by decide +kernel
theorem dX3_fillPlan_54 : decode cX3_fillPlan 54 = .ok (.iload_n 3, 1) := by decide +kernel
theorem dX3_fillPlan_55 : decode cX3_fillPlan 55 = .ok (.aload_n 0, 1) := by decide +kernel
theorem dX3_fillPlan_56 : decode cX3_fillPlan 56 = .ok (.getfield 78, 3) := by decide +kernel
theorem dX3_fillPlan_59 : decode cX3_fillPlan 59 = .ok (.iastore, 1) := by decide +kernel
theorem dX3_fillPlan_60 : decode cX3_fillPlan 60 = .ok (.aload_n 0, 1) := by decide +kernel
theorem dX3_fillPlan_61 : decode cX3_fillPlan 61 = .ok (.dup, 1) := by decide +kernel
theorem dX3_fillPlan_62 : decode cX3_fillPlan 62 = .ok (.getfield 91, 3) := by decide +kernel
theorem dX3_fillPlan_65 : decode cX3_fillPlan 65 = .ok (.iconst 1, 1) := by decide +kernel
theorem dX3_fillPlan_66 : decode cX3_fillPlan 66 = .ok (.iadd, 1) := by decide +kernel
theorem dX3_fillPlan_67 : decode cX3_fillPlan 67 = .ok (.putfield 91, 3) := by decide +kernel
theorem dX3_fillPlan_70 : decode cX3_fillPlan 70 = .ok (.aload_n 0, 1) := by decide +kernel
theorem dX3_fillPlan_71 : decode cX3_fillPlan 71 = .ok (.getfield 75, 3) := by decide +kernel
theorem dX3_fillPlan_74 : decode cX3_fillPlan 74 = .ok (.invokestatic 101, 3) := by decide +kernel
theorem dX3_fillPlan_77 : decode cX3_fillPlan 77 = .ok (.ifCond .eq 30, 3) := by decide +kernel
theorem dX3_fillPlan_80 : decode cX3_fillPlan 80 = .ok (.aload_n 0, 1) := by decide +kernel
theorem dX3_fillPlan_81 : decode cX3_fillPlan 81 = .ok (.getfield 12, 3) := by decide +kernel
theorem dX3_fillPlan_84 : decode cX3_fillPlan 84 = .ok (.getfield 45, 3) := by decide +kernel
theorem dX3_fillPlan_87 : decode cX3_fillPlan 87 = .ok (.aload_n 0, 1) := by decide +kernel
theorem dX3_fillPlan_88 : decode cX3_fillPlan 88 = .ok (.getfield 75, 3) := by decide +kernel
theorem dX3_fillPlan_91 : decode cX3_fillPlan 91 = .ok (.aload_n 0, 1) := by decide +kernel
theorem dX3_fillPlan_92 : decode cX3_fillPlan 92 = .ok (.getfield 88, 3) := by decide +kernel
theorem dX3_fillPlan_95 : decode cX3_fillPlan 95 = .ok (.iastore, 1) := by decide +kernel
theorem dX3_fillPlan_96 : decode cX3_fillPlan 96 = .ok (.aload_n 0, 1) := by decide +kernel
theorem dX3_fillPlan_97 : decode cX3_fillPlan 97 = .ok (.getfield 21, 3) := by decide +kernel
theorem dX3_fillPlan_100 : decode cX3_fillPlan 100 = .ok (.aload_n 0, 1) := by decide +kernel
theorem dX3_fillPlan_101 : decode cX3_fillPlan 101 = .ok (.getfield 12, 3) := by decide +kernel
theorem dX3_fillPlan_104 : decode cX3_fillPlan 104 = .ok (.invokevirtual 42, 3) := by decide +kernel
theorem dX3_fillPlan_107 : decode cX3_fillPlan 107 = .ok (.iinc 3 1, 3) := by decide +kernel
theorem dX3_fillPlan_110 : decode cX3_fillPlan 110 = .ok (.goto (-98), 3) := by decide +kernel
theorem dX3_fillPlan_113 : decode cX3_fillPlan 113 = .ok (.return_, 1) := by decide +kernel
theorem dX3_isPlanned_0 : decode cX3_isPlanned 0 = .ok (.iload_n 1, 1) := by decide +kernel
theorem dX3_isPlanned_1 : decode cX3_isPlanned 1 = .ok (.ifCond .lt 21, 3) := by decide +kernel
theorem dX3_isPlanned_4 : decode cX3_isPlanned 4 = .ok (.iload_n 1, 1) := by decide +kernel
theorem dX3_isPlanned_5 : decode cX3_isPlanned 5 = .ok (.aload_n 0, 1) := by decide +kernel
theorem dX3_isPlanned_6 : decode cX3_isPlanned 6 = .ok (.getfield 91, 3) := by decide +kernel
theorem dX3_isPlanned_9 : decode cX3_isPlanned 9 = .ok (.if_icmp .ge 13, 3) := by decide +kernel
theorem dX3_isPlanned_12 : decode cX3_isPlanned 12 = .ok (.iload_n 1, 1) := by decide +kernel
theorem dX3_isPlanned_13 : decode cX3_isPlanned 13 = .ok (.bipush 12, 2) := by decide +kernel
theorem dX3_isPlanned_15 : decode cX3_isPlanned 15 = .ok (.if_icmp .ge 7, 3) := by decide +kernel
theorem dX3_isPlanned_18 : decode cX3_isPlanned 18 = .ok (.iconst 1, 1) := by decide +kernel
theorem dX3_isPlanned_19 : decode cX3_isPlanned 19 = .ok (.goto 4, 3) := by decide +kernel
theorem dX3_isPlanned_22 : decode cX3_isPlanned 22 = .ok (.iconst 0, 1) := by decide +kernel
theorem dX3_isPlanned_23 : decode cX3_isPlanned 23 = .ok (.ireturn, 1) := by decide +kernel
theorem dX3_planPart_0 : decode cX3_planPart 0 = .ok (.iload_n 2, 1) := by decide +kernel
theorem dX3_planPart_1 : decode cX3_planPart 1 = .ok (.lookupswitch 41 #[(0, 27), (1, 34)], 27) := by decide +kernel
theorem dX3_planPart_28 : decode cX3_planPart 28 = .ok (.aload_n 0, 1) := by decide +kernel
theorem dX3_planPart_29 : decode cX3_planPart 29 = .ok (.getfield 28, 3) := by decide +kernel
theorem dX3_planPart_32 : decode cX3_planPart 32 = .ok (.iload_n 1, 1) := by decide +kernel
theorem dX3_planPart_33 : decode cX3_planPart 33 = .ok (.iaload, 1) := by decide +kernel
theorem dX3_planPart_34 : decode cX3_planPart 34 = .ok (.ireturn, 1) := by decide +kernel
theorem dX3_planPart_35 : decode cX3_planPart 35 = .ok (.aload_n 0, 1) := by decide +kernel
theorem dX3_planPart_36 : decode cX3_planPart 36 = .ok (.getfield 32, 3) := by decide +kernel
theorem dX3_planPart_39 : decode cX3_planPart 39 = .ok (.iload_n 1, 1) := by decide +kernel
theorem dX3_planPart_40 : decode cX3_planPart 40 = .ok (.iaload, 1) := by decide +kernel
theorem dX3_planPart_41 : decode cX3_planPart 41 = .ok (.ireturn, 1) := by decide +kernel
theorem dX3_planPart_42 : decode cX3_planPart 42 = .ok (.aload_n 0, 1) := by decide +kernel
theorem dX3_planPart_43 : decode cX3_planPart 43 = .ok (.getfield 35, 3) := by decide +kernel
theorem dX3_planPart_46 : decode cX3_planPart 46 = .ok (.iload_n 1, 1) := by decide +kernel
theorem dX3_planPart_47 : decode cX3_planPart 47 = .ok (.iaload, 1) := by decide +kernel
theorem dX3_planPart_48 : decode cX3_planPart 48 = .ok (.ireturn, 1) := by decide +kernel
theorem dX4_init_0 : decode cX4_init 0 = .ok (.aload_n 0, 1) := by decide +kernel
theorem dX4_init_1 : decode cX4_init 1 = .ok (.invokespecial 3, 3) := by decide +kernel
theorem dX4_init_4 : decode cX4_init 4 = .ok (.aload_n 0, 1) := by decide +kernel
theorem dX4_init_5 : decode cX4_init 5 = .ok (.aload_n 1, 1) := by decide +kernel
theorem dX4_init_6 : decode cX4_init 6 = .ok (.putfield 9, 3) := by decide +kernel
theorem dX4_init_9 : decode cX4_init 9 = .ok (.aload_n 0, 1) := by decide +kernel
theorem dX4_init_10 : decode cX4_init 10 = .ok (.aload_n 2, 1) := by decide +kernel
theorem dX4_init_11 : decode cX4_init 11 = .ok (.putfield 15, 3) := by decide +kernel
theorem dX4_init_14 : decode cX4_init 14 = .ok (.aload_n 0, 1) := by decide +kernel
theorem dX4_init_15 : decode cX4_init 15 = .ok (.aload_n 3, 1) := by decide +kernel
theorem dX4_init_16 : decode cX4_init 16 = .ok (.putfield 19, 3) := by decide +kernel
theorem dX4_init_19 : decode cX4_init 19 = .ok (.return_, 1) := by decide +kernel
theorem dX4_readText_0 : decode cX4_readText 0 = .ok (.aload_n 0, 1) := by decide +kernel
theorem dX4_readText_1 : decode cX4_readText 1 = .ok (.getfield 15, 3) := by decide +kernel
theorem dX4_readText_4 : decode cX4_readText 4 = .ok (.invokevirtual 23, 3) := by decide +kernel
theorem dX4_readText_7 : decode cX4_readText 7 = .ok (.aload_n 0, 1) := by decide +kernel
theorem dX4_readText_8 : decode cX4_readText 8 = .ok (.getfield 9, 3) := by decide +kernel
theorem dX4_readText_11 : decode cX4_readText 11 = .ok (.invokevirtual 28, 3) := by decide +kernel
theorem dX4_readText_14 : decode cX4_readText 14 = .ok (.iconst 1, 1) := by decide +kernel
theorem dX4_readText_15 : decode cX4_readText 15 = .ok (.istore_n 1, 1) := by decide +kernel
theorem dX4_readText_16 : decode cX4_readText 16 = .ok (.iconst 0, 1) := by decide +kernel
theorem dX4_readText_17 : decode cX4_readText 17 = .ok (.istore_n 2, 1) := by decide +kernel
theorem dX4_readText_18 : decode cX4_readText 18 = .ok (.iconst 0, 1) := by decide +kernel
theorem dX4_readText_19 : decode cX4_readText 19 = .ok (.istore_n 3, 1) := by decide +kernel
theorem dX4_readText_20 : decode cX4_readText 20 = .ok (.iload_n 3, 1) := by decide +kernel
theorem dX4_readText_21 : decode cX4_readText 21 = .ok (.sipush 150, 3) := by decide +kernel
theorem dX4_readText_24 : decode cX4_readText 24 = .ok (.if_icmp .ge 113, 3) := by decide +kernel
theorem dX4_readText_27 : decode cX4_readText 27 = .ok (.iload_n 1, 1) := by decide +kernel
theorem dX4_readText_28 : decode cX4_readText 28 = .ok (.ifCond .eq 109, 3) := by decide +kernel
theorem dX4_readText_31 : decode cX4_readText 31 = .ok (.aload_n 0, 1) := by decide +kernel
theorem dX4_readText_32 : decode cX4_readText 32 = .ok (.getfield 9, 3) := by decide +kernel
theorem dX4_readText_35 : decode cX4_readText 35 = .ok (.invokevirtual 33, 3) := by decide +kernel
theorem dX4_readText_38 : decode cX4_readText 38 = .ok (.aload_n 0, 1) := by decide +kernel
theorem dX4_readText_39 : decode cX4_readText 39 = .ok (.getfield 9, 3) := by decide +kernel
theorem dX4_readText_42 : decode cX4_readText 42 = .ok (.getfield 36, 3) := by decide +kernel
theorem dX4_readText_45 : decode cX4_readText 45 = .ok (.tableswitch 81 1 8 #[47, 81, 81, 49, 57, 65, 81, 73], 47) := by decide +kernel
theorem dX4_readText_92 : decode cX4_readText 92 = .ok (.iload_n 2, 1) := by decide +kernel
theorem dX4_readText_93 : decode cX4_readText 93 = .ok (.ireturn, 1) := by decide +kernel
theorem dX4_readText_94 : decode cX4_readText 94 = .ok (.aload_n 0, 1) := by decide +kernel
theorem dX4_readText_95 : decode cX4_readText 95 = .ok (.invokevirtual 40, 3) := by decide +kernel
theorem dX4_readText_98 : decode cX4_readText 98 = .ok (.istore_n 1, 1) := by decide +kernel
theorem dX4_readText_99 : decode cX4_readText 99 = .ok (.goto 29, 3) := by decide +kernel
theorem dX4_readText_102 : decode cX4_readText 102 = .ok (.aload_n 0, 1) := by decide +kernel
theorem dX4_readText_103 : decode cX4_readText 103 = .ok (.invokevirtual 44, 3) := by decide +kernel
theorem dX4_readText_106 : decode cX4_readText 106 = .ok (.istore_n 1, 1) := by decide +kernel
theorem dX4_readText_107 : decode cX4_readText 107 = .ok (.goto 21, 3) := by decide +kernel
theorem dX4_readText_110 : decode cX4_readText 110 = .ok (.aload_n 0, 1) := by decide +kernel
theorem dX4_readText_111 : decode cX4_readText 111 = .ok (.invokevirtual 47, 3) := by decide +kernel
theorem dX4_readText_114 : decode cX4_readText 114 = .ok (.istore_n 1, 1) := by decide +kernel
theorem dX4_readText_115 : decode cX4_readText 115 = .ok (.goto 13, 3) := by decide +kernel
theorem dX4_readText_118 : decode cX4_readText 118 = .ok (.aload_n 0, 1) := by decide +kernel
theorem dX4_readText_119 : decode cX4_readText 119 = .ok (.invokevirtual 50, 3) := by decide +kernel
theorem dX4_readText_122 : decode cX4_readText 122 = .ok (.istore_n 1, 1) := by decide +kernel
theorem dX4_readText_123 : decode cX4_readText 123 = .ok (.goto 5, 3) := by decide +kernel
theorem dX4_readText_126 : decode cX4_readText 126 = .ok (.iconst 0, 1) := by decide +kernel
theorem dX4_readText_127 : decode cX4_readText 127 = .ok (.istore_n 1, 1) := by decide +kernel
theorem dX4_readText_128 : decode cX4_readText 128 = .ok (.iinc 2 1, 3) := by decide +kernel
theorem dX4_readText_131 : decode cX4_readText 131 = .ok (.iinc 3 1, 3) := by decide +kernel
theorem dX4_readText_134 : decode cX4_readText 134 = .ok (.goto (-114), 3) := by decide +kernel
theorem dX4_readText_137 : decode cX4_readText 137 = .ok (.bipush (-10), 2) := by decide +kernel
theorem dX4_readText_139 : decode cX4_readText 139 = .ok (.aload_n 0, 1) := by decide +kernel
theorem dX4_readText_140 : decode cX4_readText 140 = .ok (.getfield 9, 3) := by decide +kernel
theorem dX4_readText_143 : decode cX4_readText 143 = .ok (.getfield 53, 3) := by decide +kernel
theorem dX4_readText_146 : decode cX4_readText 146 = .ok (.isub, 1) := by decide +kernel
theorem dX4_readText_147 : decode cX4_readText 147 = .ok (.ireturn, 1) := by decide +kernel
theorem dX4_readPool_0 : decode cX4_readPool 0 = .ok (.aload_n 0, 1) := by decide +kernel
theorem dX4_readPool_1 : decode cX4_readPool 1 = .ok (.getfield 15, 3) := by decide +kernel
theorem dX4_readPool_4 : decode cX4_readPool 4 = .ok (.getfield 56, 3) := by decide +kernel
theorem dX4_readPool_7 : decode cX4_readPool 7 = .ok (.getfield 60, 3) := by decide +kernel
theorem dX4_readPool_10 : decode cX4_readPool 10 = .ok (.iconst 4, 1) := by decide +kernel
theorem dX4_readPool_11 : decode cX4_readPool 11 = .ok (.if_icmp .ge 13, 3) := by decide +kernel
theorem dX4_readPool_14 : decode cX4_readPool 14 = .ok (.aload_n 0, 1) := by decide +kernel
theorem dX4_readPool_15 : decode cX4_readPool 15 = .ok (.iconst 0, 1) := by decide +kernel
theorem dX4_readPool_16 : decode cX4_readPool 16 = .ok (.ldc 65, 2) := by decide +kernel
theorem dX4_readPool_18 : decode cX4_readPool 18 = .ok (.invokevirtual 66, 3) := by decide +kernel
theorem dX4_readPool_21 : decode cX4_readPool 21 = .ok (.ifCond .ne 5, 3) := by decide +kernel
theorem dX4_readPool_24 : decode cX4_readPool 24 = .ok (.iconst 0, 1) := by decide +kernel
theorem dX4_readPool_25 : decode cX4_readPool 25 = .ok (.ireturn, 1) := by decide +kernel
theorem dX4_readPool_26 : decode cX4_readPool 26 = .ok (.aload_n 0, 1) := by decide +kernel
theorem dX4_readPool_27 : decode cX4_readPool 27 = .ok (.getfield 9, 3) := by decide +kernel
theorem dX4_readPool_30 : decode cX4_readPool 30 = .ok (.getfield 70, 3) := by decide +kernel
theorem dX4_readPool_33 : decode cX4_readPool 33 = .ok (.istore_n 1, 1) := by decide +kernel
theorem dX4_readPool_34 : decode cX4_readPool 34 = .ok (.aload_n 0, 1) := by decide +kernel
theorem dX4_readPool_35 : decode cX4_readPool 35 = .ok (.iconst 4, 1) := by decide +kernel
theorem dX4_readPool_36 : decode cX4_readPool 36 = .ok (.bipush 14, 2) := by decide +kernel
theorem dX4_readPool_38 : decode cX4_readPool 38 = .ok (.invokevirtual 66, 3) := by decide +kernel
theorem dX4_readPool_41 : decode cX4_readPool 41 = .ok (.ifCond .ne 5, 3) := by decide +kernel
theorem dX4_readPool_44 : decode cX4_readPool 44 = .ok (.iconst 0, 1) := by decide +kernel
theorem dX4_readPool_45 : decode cX4_readPool 45 = .ok (.ireturn, 1) := by decide +kernel
theorem dX4_readPool_46 : decode cX4_readPool 46 = .ok (.aload_n 0, 1) := by decide +kernel
theorem dX4_readPool_47 : decode cX4_readPool 47 = .ok (.getfield 9, 3) := by decide +kernel
theorem dX4_readPool_50 : decode cX4_readPool 50 = .ok (.getfield 70, 3) := by decide +kernel
theorem dX4_readPool_53 : decode cX4_readPool 53 = .ok (.istore_n 2, 1) := by decide +kernel
theorem dX4_readPool_54 : decode cX4_readPool 54 = .ok (.iload_n 1, 1) := by decide +kernel
theorem dX4_readPool_55 : decode cX4_readPool 55 = .ok (.iload_n 2, 1) := by decide +kernel
theorem dX4_readPool_56 : decode cX4_readPool 56 = .ok (.invokestatic 73, 3) := by decide +kernel
theorem dX4_readPool_59 : decode cX4_readPool 59 = .ok (.ifCond .eq 18, 3) := by decide +kernel
theorem dX4_readPool_62 : decode cX4_readPool 62 = .ok (.aload_n 0, 1) := by decide +kernel
theorem dX4_readPool_63 : decode cX4_readPool 63 = .ok (.getfield 15, 3) := by decide +kernel
theorem dX4_readPool_66 : decode cX4_readPool 66 = .ok (.getfield 56, 3) := by decide +kernel
theorem dX4_readPool_69 : decode cX4_readPool 69 = .ok (.iload_n 1, 1) := by decide +kernel
theorem dX4_readPool_70 : decode cX4_readPool 70 = .ok (.iload_n 2, 1) := by decide +kernel
theorem dX4_readPool_71 : decode cX4_readPool 71 = .ok (.invokevirtual 76, 3) := by decide +kernel
theorem dX4_readPool_74 : decode cX4_readPool 74 = .ok (.ifCond .eq 5, 3) := by decide +kernel
theorem dX4_readPool_77 : decode cX4_readPool 77 = .ok (.iconst 0, 1) := by decide +kernel
theorem dX4_readPool_78 : decode cX4_readPool 78 = .ok (.ireturn, 1) := by decide +kernel
theorem dX4_readPool_79 : decode cX4_readPool 79 = .ok (.aload_n 0, 1) := by decide +kernel
theorem dX4_readPool_80 : decode cX4_readPool 80 = .ok (.getfield 15, 3) := by decide +kernel
theorem dX4_readPool_83 : decode cX4_readPool 83 = .ok (.getfield 56, 3) := by decide +kernel
theorem dX4_readPool_86 : decode cX4_readPool 86 = .ok (.iload_n 1, 1) := by decide +kernel
theorem dX4_readPool_87 : decode cX4_readPool 87 = .ok (.iload_n 2, 1) := by decide +kernel
theorem dX4_readPool_88 : decode cX4_readPool 88 = .ok (.invokevirtual 79, 3) := by decide +kernel
theorem dX4_readPool_91 : decode cX4_readPool 91 = .ok (.aload_n 0, 1) := by decide +kernel
theorem dX4_readPool_92 : decode cX4_readPool 92 = .ok (.invokevirtual 83, 3) := by decide +kernel
theorem dX4_readPool_95 : decode cX4_readPool 95 = .ok (.ireturn, 1) := by decide +kernel
theorem dX4_readNet_0 : decode cX4_readNet 0 = .ok (.aload_n 0, 1) := by decide +kernel
theorem dX4_readNet_1 : decode cX4_readNet 1 = .ok (.iconst 0, 1) := by decide +kernel
theorem dX4_readNet_2 : decode cX4_readNet 2 = .ok (.bipush 11, 2) := by decide +kernel
theorem dX4_readNet_4 : decode cX4_readNet 4 = .ok (.invokevirtual 66, 3) := by decide +kernel
theorem dX4_readNet_7 : decode cX4_readNet 7 = .ok (.ifCond .ne 5, 3) := by decide +kernel
theorem dX4_readNet_10 : decode cX4_readNet 10 = .ok (.iconst 0, 1) := by decide +kernel
theorem dX4_readNet_11 : decode cX4_readNet 11 = .ok (.ireturn, 1) := by decide +kernel
theorem dX4_readNet_12 : decode cX4_readNet 12 = .ok (.aload_n 0, 1) := by decide +kernel
theorem dX4_readNet_13 : decode cX4_readNet 13 = .ok (.getfield 9, 3) := by decide +kernel
theorem dX4_readNet_16 : decode cX4_readNet 16 = .ok (.getfield 70, 3) := by decide +kernel
theorem dX4_readNet_19 : decode cX4_readNet 19 = .ok (.istore_n 1, 1) := by decide +kernel
theorem dX4_readNet_20 : decode cX4_readNet 20 = .ok (.aload_n 0, 1) := by decide +kernel
theorem dX4_readNet_21 : decode cX4_readNet 21 = .ok (.getfield 15, 3) := by decide +kernel
theorem dX4_readNet_24 : decode cX4_readNet 24 = .ok (.getfield 56, 3) := by decide +kernel
theorem dX4_readNet_27 : decode cX4_readNet 27 = .ok (.iload_n 1, 1) := by decide +kernel
theorem dX4_readNet_28 : decode cX4_readNet 28 = .ok (.invokevirtual 86, 3) := by decide +kernel
theorem dX4_readNet_31 : decode cX4_readNet 31 = .ok (.ifCond .ne 13, 3) := by decide +kernel
theorem dX4_readNet_34 : decode cX4_readNet 34 = .ok (.aload_n 0, 1) := by decide +kernel
theorem dX4_readNet_35 : decode cX4_readNet 35 = .ok (.iconst 5, 1) := by decide +kernel
theorem dX4_readNet_36 : decode cX4_readNet 36 = .ok (.bipush 16, 2) := by decide +kernel
theorem dX4_readNet_38 : decode cX4_readNet 38 = .ok (.invokevirtual 66, 3) := by decide +kernel
theorem dX4_readNet_41 : decode cX4_readNet 41 = .ok (.ifCond .ne 5, 3) := by decide +kernel
theorem dX4_readNet_44 : decode cX4_readNet 44 = .ok (.iconst 0, 1) := by decide +kernel
theorem dX4_readNet_45 : decode cX4_readNet 45 = .ok (.ireturn, 1) := by decide +kernel
theorem dX4_readNet_46 : decode cX4_readNet 46 = .ok (.aload_n 0, 1) := by decide +kernel
theorem dX4_readNet_47 : decode cX4_readNet 47 = .ok (.getfield 9, 3) := by decide +kernel
theorem dX4_readNet_50 : decode cX4_readNet 50 = .ok (.getfield 70, 3) := by decide +kernel
theorem dX4_readNet_53 : decode cX4_readNet 53 = .ok (.istore_n 2, 1) := by decide +kernel
theorem dX4_readNet_54 : decode cX4_readNet 54 = .ok (.aload_n 0, 1) := by decide +kernel
theorem dX4_readNet_55 : decode cX4_readNet 55 = .ok (.getfield 19, 3) := by decide +kernel
theorem dX4_readNet_58 : decode cX4_readNet 58 = .ok (.aload_n 0, 1) := by decide +kernel
theorem dX4_readNet_59 : decode cX4_readNet 59 = .ok (.getfield 15, 3) := by decide +kernel
theorem dX4_readNet_62 : decode cX4_readNet 62 = .ok (.getfield 56, 3) := by decide +kernel
theorem dX4_readNet_65 : decode cX4_readNet 65 = .ok (.iload_n 2, 1) := by decide +kernel
theorem dX4_readNet_66 : decode cX4_readNet 66 = .ok (.invokevirtual 90, 3) := by decide +kernel
theorem dX4_readNet_69 : decode cX4_readNet 69 = .ok (.istore_n 3, 1) := by decide +kernel
theorem dX4_readNet_70 : decode cX4_readNet 70 = .ok (.iload_n 3, 1) := by decide +kernel
theorem dX4_readNet_71 : decode cX4_readNet 71 = .ok (.iconst (-1), 1) := by decide +kernel
theorem dX4_readNet_72 : decode cX4_readNet 72 = .ok (.if_icmp .ne 5, 3) := by decide +kernel
theorem dX4_readNet_75 : decode cX4_readNet 75 = .ok (.iconst 0, 1) := by decide +kernel
theorem dX4_readNet_76 : decode cX4_readNet 76 = .ok (.ireturn, 1) := by decide +kernel
theorem dX4_readNet_77 : decode cX4_readNet 77 = .ok (.aload_n 0, 1) := by decide +kernel
theorem dX4_readNet_78 : decode cX4_readNet 78 = .ok (.getfield 15, 3) := by decide +kernel
theorem dX4_readNet_81 : decode cX4_readNet 81 = .ok (.getfield 56, 3) := by decide +kernel
theorem dX4_readNet_84 : decode cX4_readNet 84 = .ok (.iload_n 1, 1) := by decide +kernel
theorem dX4_readNet_85 : decode cX4_readNet 85 = .ok (.iload_n 3, 1) := by decide +kernel
theorem dX4_readNet_86 : decode cX4_readNet 86 = .ok (.iload_n 2, 1) := by decide +kernel
theorem dX4_readNet_87 : decode cX4_readNet 87 = .ok (.invokevirtual 96, 3) := by decide +kernel
theorem dX4_readNet_90 : decode cX4_readNet 90 = .ok (.aload_n 0, 1) := by decide +kernel
theorem dX4_readNet_91 : decode cX4_readNet 91 = .ok (.invokevirtual 83, 3) := by decide +kernel
theorem dX4_readNet_94 : decode cX4_readNet 94 = .ok (.ireturn, 1) := by decide +kernel
theorem dX4_readHost_0 : decode cX4_readHost 0 = .ok (.aload_n 0, 1) := by decide +kernel
theorem dX4_readHost_1 : decode cX4_readHost 1 = .ok (.iconst 0, 1) := by decide +kernel
theorem dX4_readHost_2 : decode cX4_readHost 2 = .ok (.bipush 15, 2) := by decide +kernel
theorem dX4_readHost_4 : decode cX4_readHost 4 = .ok (.invokevirtual 66, 3) := by decide +kernel
theorem dX4_readHost_7 : decode cX4_readHost 7 = .ok (.ifCond .ne 5, 3) := by decide +kernel
theorem dX4_readHost_10 : decode cX4_readHost 10 = .ok (.iconst 0, 1) := by decide +kernel
theorem dX4_readHost_11 : decode cX4_readHost 11 = .ok (.ireturn, 1) := by decide +kernel
theorem dX4_readHost_12 : decode cX4_readHost 12 = .ok (.aload_n 0, 1) := by decide +kernel
theorem dX4_readHost_13 : decode cX4_readHost 13 = .ok (.getfield 9, 3) := by decide +kernel
theorem dX4_readHost_16 : decode cX4_readHost 16 = .ok (.getfield 70, 3) := by decide +kernel
theorem dX4_readHost_19 : decode cX4_readHost 19 = .ok (.istore_n 1, 1) := by decide +kernel
theorem dX4_readHost_20 : decode cX4_readHost 20 = .ok (.aload_n 0, 1) := by decide +kernel
theorem dX4_readHost_21 : decode cX4_readHost 21 = .ok (.getfield 15, 3) := by decide +kernel
theorem dX4_readHost_24 : decode cX4_readHost 24 = .ok (.getfield 100, 3) := by decide +kernel
theorem dX4_readHost_27 : decode cX4_readHost 27 = .ok (.iload_n 1, 1) := by decide +kernel
theorem dX4_readHost_28 : decode cX4_readHost 28 = .ok (.invokevirtual 104, 3) := by decide +kernel
theorem dX4_readHost_31 : decode cX4_readHost 31 = .ok (.ifCond .ne 13, 3) := by decide +kernel
theorem dX4_readHost_34 : decode cX4_readHost 34 = .ok (.aload_n 0, 1) := by decide +kernel
theorem dX4_readHost_35 : decode cX4_readHost 35 = .ok (.iconst 0, 1) := by decide +kernel
theorem dX4_readHost_36 : decode cX4_readHost 36 = .ok (.bipush 11, 2) := by decide +kernel
theorem dX4_readHost_38 : decode cX4_readHost 38 = .ok (.invokevirtual 66, 3) := by decide +kernel
theorem dX4_readHost_41 : decode cX4_readHost 41 = .ok (.ifCond .ne 5, 3) := by decide +kernel
theorem dX4_readHost_44 : decode cX4_readHost 44 = .ok (.iconst 0, 1) := by decide +kernel
theorem dX4_readHost_45 : decode cX4_readHost 45 = .ok (.ireturn, 1) := by decide +kernel
theorem dX4_readHost_46 : decode cX4_readHost 46 = .ok (.aload_n 0, 1) := by decide +kernel
theorem dX4_readHost_47 : decode cX4_readHost 47 = .ok (.getfield 9, 3) := by decide +kernel
theorem dX4_readHost_50 : decode cX4_readHost 50 = .ok (.getfield 70, 3) := by decide +kernel
theorem dX4_readHost_53 : decode cX4_readHost 53 = .ok (.istore_n 2, 1) := by decide +kernel
theorem dX4_readHost_54 : decode cX4_readHost 54 = .ok (.aload_n 0, 1) := by decide +kernel
theorem dX4_readHost_55 : decode cX4_readHost 55 = .ok (.getfield 15, 3) := by decide +kernel
theorem dX4_readHost_58 : decode cX4_readHost 58 = .ok (.getfield 56, 3) := by decide +kernel
theorem dX4_readHost_61 : decode cX4_readHost 61 = .ok (.iload_n 2, 1) := by decide +kernel
theorem dX4_readHost_62 : decode cX4_readHost 62 = .ok (.invokevirtual 86, 3) := by decide +kernel
theorem dX4_readHost_65 : decode cX4_readHost 65 = .ok (.ifCond .ne 5, 3) := by decide +kernel
theorem dX4_readHost_68 : decode cX4_readHost 68 = .ok (.iconst 0, 1) := by decide +kernel
theorem dX4_readHost_69 : decode cX4_readHost 69 = .ok (.ireturn, 1) := by decide +kernel
theorem dX4_readHost_70 : decode cX4_readHost 70 = .ok (.aload_n 0, 1) := by decide +kernel
theorem dX4_readHost_71 : decode cX4_readHost 71 = .ok (.getfield 9, 3) := by decide +kernel
theorem dX4_readHost_74 : decode cX4_readHost 74 = .ok (.invokevirtual 33, 3) := by decide +kernel
theorem dX4_readHost_77 : decode cX4_readHost 77 = .ok (.aload_n 0, 1) := by decide +kernel
theorem dX4_readHost_78 : decode cX4_readHost 78 = .ok (.getfield 9, 3) := by decide +kernel
theorem dX4_readHost_81 : decode cX4_readHost 81 = .ok (.getfield 36, 3) := by decide +kernel
theorem dX4_readHost_84 : decode cX4_readHost 84 = .ok (.bipush 7, 2) := by decide +kernel
theorem dX4_readHost_86 : decode cX4_readHost 86 = .ok (.if_icmp .ne 7, 3) := by decide +kernel
theorem dX4_readHost_89 : decode cX4_readHost 89 = .ok (.iconst 1, 1) := by decide +kernel
theorem dX4_readHost_90 : decode cX4_readHost 90 = .ok (.goto 4, 3) := by decide +kernel
theorem dX4_readHost_93 : decode cX4_readHost 93 = .ok (.iconst 0, 1) := by decide +kernel
theorem dX4_readHost_94 : decode cX4_readHost 94 = .ok (.istore_n 3, 1) := by decide +kernel
theorem dX4_readHost_95 : decode cX4_readHost 95 = .ok (.aload_n 0, 1) := by decide +kernel
theorem dX4_readHost_96 : decode cX4_readHost 96 = .ok (.getfield 15, 3) := by decide +kernel
theorem dX4_readHost_99 : decode cX4_readHost 99 = .ok (.getfield 100, 3) := by decide +kernel
theorem dX4_readHost_102 : decode cX4_readHost 102 = .ok (.iload_n 1, 1) := by decide +kernel
theorem dX4_readHost_103 : decode cX4_readHost 103 = .ok (.iload_n 2, 1) := by decide +kernel
theorem dX4_readHost_104 : decode cX4_readHost 104 = .ok (.iload_n 3, 1) := by decide +kernel
theorem dX4_readHost_105 : decode cX4_readHost 105 = .ok (.ifCond .eq 7, 3) := by decide +kernel
theorem dX4_readHost_108 : decode cX4_readHost 108 = .ok (.iconst 1, 1) := by decide +kernel
theorem dX4_readHost_109 : decode cX4_readHost 109 = .ok (.goto 4, 3) := by decide +kernel
theorem dX4_readHost_112 : decode cX4_readHost 112 = .ok (.iconst 0, 1) := by decide +kernel
theorem dX4_readHost_113 : decode cX4_readHost 113 = .ok (.invokevirtual 109, 3) := by decide +kernel
theorem dX4_readHost_116 : decode cX4_readHost 116 = .ok (.iload_n 3, 1) := by decide +kernel
theorem dX4_readHost_117 : decode cX4_readHost 117 = .ok (.ifCond .eq 10, 3) := by decide +kernel
theorem dX4_readHost_120 : decode cX4_readHost 120 = .ok (.aload_n 0, 1) := by decide +kernel
theorem dX4_readHost_121 : decode cX4_readHost 121 = .ok (.invokevirtual 83, 3) := by decide +kernel
theorem dX4_readHost_124 : decode cX4_readHost 124 = .ok (.goto 19, 3) := by decide +kernel
theorem dX4_readHost_127 : decode cX4_readHost 127 = .ok (.aload_n 0, 1) := by decide +kernel
theorem dX4_readHost_128 : decode cX4_readHost 128 = .ok (.getfield 9, 3) := by decide +kernel
theorem dX4_readHost_131 : decode cX4_readHost 131 = .ok (.getfield 36, 3) := by decide +kernel
theorem dX4_readHost_134 : decode cX4_readHost 134 = .ok (.iconst 2, 1) := by decide +kernel
theorem dX4_readHost_135 : decode cX4_readHost 135 = .ok (.if_icmp .ne 7, 3) := by decide +kernel
theorem dX4_readHost_138 : decode cX4_readHost 138 = .ok (.iconst 1, 1) := by decide +kernel
theorem dX4_readHost_139 : decode cX4_readHost 139 = .ok (.goto 4, 3) := by decide +kernel
theorem dX4_readHost_142 : decode cX4_readHost 142 = .ok (.iconst 0, 1) := by decide +kernel
theorem dX4_readHost_143 : decode cX4_readHost 143 = .ok (.ireturn, 1) := by decide +kernel
theorem dX4_readPolicy_0 : decode cX4_readPolicy 0 = .ok (.aload_n 0, 1) := by decide +kernel
theorem dX4_readPolicy_1 : decode cX4_readPolicy 1 = .ok (.iconst 0, 1) := by decide +kernel
theorem dX4_readPolicy_2 : decode cX4_readPolicy 2 = .ok (.iconst 3, 1) := by decide +kernel
theorem dX4_readPolicy_3 : decode cX4_readPolicy 3 = .ok (.invokevirtual 66, 3) := by decide +kernel
theorem dX4_readPolicy_6 : decode cX4_readPolicy 6 = .ok (.ifCond .ne 5, 3) := by decide +kernel
theorem dX4_readPolicy_9 : decode cX4_readPolicy 9 = .ok (.iconst 0, 1) := by decide +kernel
theorem dX4_readPolicy_10 : decode cX4_readPolicy 10 = .ok (.ireturn, 1) := by decide +kernel
theorem dX4_readPolicy_11 : decode cX4_readPolicy 11 = .ok (.aload_n 0, 1) := by decide +kernel
theorem dX4_readPolicy_12 : decode cX4_readPolicy 12 = .ok (.getfield 15, 3) := by decide +kernel
theorem dX4_readPolicy_15 : decode cX4_readPolicy 15 = .ok (.getfield 56, 3) := by decide +kernel
theorem dX4_readPolicy_18 : decode cX4_readPolicy 18 = .ok (.aload_n 0, 1) := by decide +kernel
theorem dX4_readPolicy_19 : decode cX4_readPolicy 19 = .ok (.getfield 9, 3) := by decide +kernel
theorem dX4_readPolicy_22 : decode cX4_readPolicy 22 = .ok (.getfield 70, 3) := by decide +kernel
theorem dX4_readPolicy_25 : decode cX4_readPolicy 25 = .ok (.putfield 112, 3) := by decide +kernel
theorem dX4_readPolicy_28 : decode cX4_readPolicy 28 = .ok (.aload_n 0, 1) := by decide +kernel
theorem dX4_readPolicy_29 : decode cX4_readPolicy 29 = .ok (.invokevirtual 83, 3) := by decide +kernel
theorem dX4_readPolicy_32 : decode cX4_readPolicy 32 = .ok (.ireturn, 1) := by decide +kernel
theorem dX4_readSemicolon_0 : decode cX4_readSemicolon 0 = .ok (.aload_n 0, 1) := by decide +kernel
theorem dX4_readSemicolon_1 : decode cX4_readSemicolon 1 = .ok (.getfield 9, 3) := by decide +kernel
theorem dX4_readSemicolon_4 : decode cX4_readSemicolon 4 = .ok (.invokevirtual 33, 3) := by decide +kernel
theorem dX4_readSemicolon_7 : decode cX4_readSemicolon 7 = .ok (.aload_n 0, 1) := by decide +kernel
theorem dX4_readSemicolon_8 : decode cX4_readSemicolon 8 = .ok (.getfield 9, 3) := by decide +kernel
theorem dX4_readSemicolon_11 : decode cX4_readSemicolon 11 = .ok (.getfield 36, 3) := by decide +kernel
theorem dX4_readSemicolon_14 : decode cX4_readSemicolon 14 = .ok (.iconst 2, 1) := by decide +kernel
theorem dX4_readSemicolon_15 : decode cX4_readSemicolon 15 = .ok (.if_icmp .ne 7, 3) := by decide +kernel
theorem dX4_readSemicolon_18 : decode cX4_readSemicolon 18 = .ok (.iconst 1, 1) := by decide +kernel
theorem dX4_readSemicolon_19 : decode cX4_readSemicolon 19 = .ok (.goto 4, 3) := by decide +kernel
theorem dX4_readSemicolon_22 : decode cX4_readSemicolon 22 = .ok (.iconst 0, 1) := by decide +kernel
theorem dX4_readSemicolon_23 : decode cX4_readSemicolon 23 = .ok (.ireturn, 1) := by decide +kernel
theorem dX4_readRange_0 : decode cX4_readRange 0 = .ok (.aload_n 0, 1) := by decide +kernel
theorem dX4_readRange_1 : decode cX4_readRange 1 = .ok (.getfield 9, 3) := by decide +kernel
theorem dX4_readRange_4 : decode cX4_readRange 4 = .ok (.invokevirtual 33, 3) := by decide +kernel
theorem dX4_readRange_7 : decode cX4_readRange 7 = .ok (.aload_n 0, 1) := by decide +kernel
theorem dX4_readRange_8 : decode cX4_readRange 8 = .ok (.getfield 9, 3) := by decide +kernel
theorem dX4_readRange_11 : decode cX4_readRange 11 = .ok (.getfield 36, 3) := by decide +kernel
theorem dX4_readRange_14 : decode cX4_readRange 14 = .ok (.iconst 3, 1) := by decide +kernel
theorem dX4_readRange_15 : decode cX4_readRange 15 = .ok (.if_icmp .ne 22, 3) := by decide +kernel
theorem dX4_readRange_18 : decode cX4_readRange 18 = .ok (.aload_n 0, 1) := by decide +kernel
theorem dX4_readRange_19 : decode cX4_readRange 19 = .ok (.getfield 9, 3) := by decide +kernel
theorem dX4_readRange_22 : decode cX4_readRange 22 = .ok (.getfield 70, 3) := by decide +kernel
theorem dX4_readRange_25 : decode cX4_readRange 25 = .ok (.iload_n 1, 1) := by decide +kernel
theorem dX4_readRange_26 : decode cX4_readRange 26 = .ok (.iload_n 2, 1) := by decide +kernel
theorem dX4_readRange_27 : decode cX4_readRange 27 = .ok (.invokestatic 115, 3) := by decide +kernel
theorem dX4_readRange_30 : decode cX4_readRange 30 = .ok (.ifCond .eq 7, 3) := by decide +kernel
theorem dX4_readRange_33 : decode cX4_readRange 33 = .ok (.iconst 1, 1) := by decide +kernel
theorem dX4_readRange_34 : decode cX4_readRange 34 = .ok (.goto 4, 3) := by decide +kernel
theorem dX4_readRange_37 : decode cX4_readRange 37 = .ok (.iconst 0, 1) := by decide +kernel
theorem dX4_readRange_38 : decode cX4_readRange 38 = .ok (.ireturn, 1) := by decide +kernel
theorem dX5_init_0 : decode cX5_init 0 = .ok (.aload_n 0, 1) := by decide +kernel
theorem dX5_init_1 : decode cX5_init 1 = .ok (.invokespecial 3, 3) := by decide +kernel
theorem dX5_init_4 : decode cX5_init 4 = .ok (.aload_n 0, 1) := by decide +kernel
theorem dX5_init_5 : decode cX5_init 5 = .ok (.iconst 4, 1) := by decide +kernel
theorem dX5_init_6 : decode cX5_init 6 = .ok (.newarray .int, 2) := by decide +kernel
theorem dX5_init_8 : decode cX5_init 8 = .ok (.putfield 9, 3) := by decide +kernel
theorem dX5_init_11 : decode cX5_init 11 = .ok (.aload_n 0, 1) := by decide +kernel
theorem dX5_init_12 : decode cX5_init 12 = .ok (.iconst 4, 1) := by decide +kernel
theorem dX5_init_13 : decode cX5_init 13 = .ok (.newarray .int, 2) := by decide +kernel
theorem dX5_init_15 : decode cX5_init 15 = .ok (.putfield 15, 3) := by decide +kernel
theorem dX5_init_18 : decode cX5_init 18 = .ok (.aload_n 0, 1) := by decide +kernel
theorem dX5_init_19 : decode cX5_init 19 = .ok (.bipush 12, 2) := by decide +kernel
theorem dX5_init_21 : decode cX5_init 21 = .ok (.newarray .int, 2) := by decide +kernel
theorem dX5_init_23 : decode cX5_init 23 = .ok (.putfield 18, 3) := by decide +kernel
theorem dX5_init_26 : decode cX5_init 26 = .ok (.aload_n 0, 1) := by decide +kernel
theorem dX5_init_27 : decode cX5_init 27 = .ok (.bipush 12, 2) := by decide +kernel
theorem dX5_init_29 : decode cX5_init 29 = .ok (.newarray .int, 2) := by decide +kernel
theorem dX5_init_31 : decode cX5_init 31 = .ok (.putfield 21, 3) := by decide +kernel
theorem dX5_init_34 : decode cX5_init 34 = .ok (.aload_n 0, 1) := by decide +kernel
theorem dX5_init_35 : decode cX5_init 35 = .ok (.bipush 12, 2) := by decide +kernel
theorem dX5_init_37 : decode cX5_init 37 = .ok (.newarray .int, 2) := by decide +kernel
theorem dX5_init_39 : decode cX5_init 39 = .ok (.putfield 24, 3) := by decide +kernel
theorem dX5_init_42 : decode cX5_init 42 = .ok (.aload_n 0, 1) := by decide +kernel
theorem dX5_init_43 : decode cX5_init 43 = .ok (.bipush 12, 2) := by decide +kernel
theorem dX5_init_45 : decode cX5_init 45 = .ok (.newarray .int, 2) := by decide +kernel
theorem dX5_init_47 : decode cX5_init 47 = .ok (.putfield 27, 3) := by decide +kernel
theorem dX5_init_50 : decode cX5_init 50 = .ok (.aload_n 0, 1) := by decide +kernel
theorem dX5_init_51 : decode cX5_init 51 = .ok (.bipush 12, 2) := by decide +kernel
theorem dX5_init_53 : decode cX5_init 53 = .ok (.newarray .int, 2) := by decide +kernel
theorem dX5_init_55 : decode cX5_init 55 = .ok (.putfield 30, 3) := by decide +kernel
theorem dX5_init_58 : decode cX5_init 58 = .ok (.aload_n 0, 1) := by decide +kernel
theorem dX5_init_59 : decode cX5_init 59 = .ok (.invokevirtual 33, 3) := by decide +kernel
theorem dX5_init_62 : decode cX5_init 62 = .ok (.return_, 1) := by decide +kernel
theorem dX5_reset_0 : decode cX5_reset 0 = .ok (.aload_n 0, 1) := by decide +kernel
theorem dX5_reset_1 : decode cX5_reset 1 = .ok (.iconst 0, 1) := by decide +kernel
theorem dX5_reset_2 : decode cX5_reset 2 = .ok (.putfield 36, 3) := by decide +kernel
theorem dX5_reset_5 : decode cX5_reset 5 = .ok (.aload_n 0, 1) := by decide +kernel
theorem dX5_reset_6 : decode cX5_reset 6 = .ok (.iconst 0, 1) := by decide +kernel
theorem dX5_reset_7 : decode cX5_reset 7 = .ok (.putfield 40, 3) := by decide +kernel
theorem dX5_reset_10 : decode cX5_reset 10 = .ok (.aload_n 0, 1) := by decide +kernel
theorem dX5_reset_11 : decode cX5_reset 11 = .ok (.getfield 18, 3) := by decide +kernel
theorem dX5_reset_14 : decode cX5_reset 14 = .ok (.iconst (-1), 1) := by decide +kernel
theorem dX5_reset_15 : decode cX5_reset 15 = .ok (.invokestatic 43, 3) := by decide +kernel
theorem dX5_reset_18 : decode cX5_reset 18 = .ok (.aload_n 0, 1) := by decide +kernel
theorem dX5_reset_19 : decode cX5_reset 19 = .ok (.getfield 24, 3) := by decide +kernel
theorem dX5_reset_22 : decode cX5_reset 22 = .ok (.iconst (-1), 1) := by decide +kernel
theorem dX5_reset_23 : decode cX5_reset 23 = .ok (.invokestatic 43, 3) := by decide +kernel
theorem dX5_reset_26 : decode cX5_reset 26 = .ok (.return_, 1) := by decide +kernel
theorem dX5_copyFrom_0 : decode cX5_copyFrom 0 = .ok (.aload_n 0, 1) := by decide +kernel
theorem dX5_copyFrom_1 : decode cX5_copyFrom 1 = .ok (.aload_n 1, 1) := by decide +kernel
theorem dX5_copyFrom_2 : decode cX5_copyFrom 2 = .ok (.getfield 36, 3) := by decide +kernel
theorem dX5_copyFrom_5 : decode cX5_copyFrom 5 = .ok (.putfield 36, 3) := by decide +kernel
theorem dX5_copyFrom_8 : decode cX5_copyFrom 8 = .ok (.aload_n 0, 1) := by decide +kernel
theorem dX5_copyFrom_9 : decode cX5_copyFrom 9 = .ok (.aload_n 1, 1) := by decide +kernel
theorem dX5_copyFrom_10 : decode cX5_copyFrom 10 = .ok (.getfield 40, 3) := by decide +kernel
theorem dX5_copyFrom_13 : decode cX5_copyFrom 13 = .ok (.putfield 40, 3) := by decide +kernel
theorem dX5_copyFrom_16 : decode cX5_copyFrom 16 = .ok (.aload_n 1, 1) := by decide +kernel
theorem dX5_copyFrom_17 : decode cX5_copyFrom 17 = .ok (.getfield 9, 3) := by decide +kernel
theorem dX5_copyFrom_20 : decode cX5_copyFrom 20 = .ok (.aload_n 0, 1) := by decide +kernel
theorem dX5_copyFrom_21 : decode cX5_copyFrom 21 = .ok (.getfield 9, 3) := by decide +kernel
theorem dX5_copyFrom_24 : decode cX5_copyFrom 24 = .ok (.invokestatic 49, 3) := by decide +kernel
theorem dX5_copyFrom_27 : decode cX5_copyFrom 27 = .ok (.aload_n 1, 1) := by decide +kernel
theorem dX5_copyFrom_28 : decode cX5_copyFrom 28 = .ok (.getfield 15, 3) := by decide +kernel
theorem dX5_copyFrom_31 : decode cX5_copyFrom 31 = .ok (.aload_n 0, 1) := by decide +kernel
theorem dX5_copyFrom_32 : decode cX5_copyFrom 32 = .ok (.getfield 15, 3) := by decide +kernel
theorem dX5_copyFrom_35 : decode cX5_copyFrom 35 = .ok (.invokestatic 49, 3) := by decide +kernel
theorem dX5_copyFrom_38 : decode cX5_copyFrom 38 = .ok (.aload_n 1, 1) := by decide +kernel
theorem dX5_copyFrom_39 : decode cX5_copyFrom 39 = .ok (.getfield 18, 3) := by decide +kernel
theorem dX5_copyFrom_42 : decode cX5_copyFrom 42 = .ok (.aload_n 0, 1) := by decide +kernel
theorem dX5_copyFrom_43 : decode cX5_copyFrom 43 = .ok (.getfield 18, 3) := by decide +kernel
theorem dX5_copyFrom_46 : decode cX5_copyFrom 46 = .ok (.invokestatic 49, 3) := by decide +kernel
theorem dX5_copyFrom_49 : decode cX5_copyFrom 49 = .ok (.aload_n 1, 1) := by decide +kernel
theorem dX5_copyFrom_50 : decode cX5_copyFrom 50 = .ok (.getfield 21, 3) := by decide +kernel
theorem dX5_copyFrom_53 : decode cX5_copyFrom 53 = .ok (.aload_n 0, 1) := by decide +kernel
theorem dX5_copyFrom_54 : decode cX5_copyFrom 54 = .ok (.getfield 21, 3) := by decide +kernel
theorem dX5_copyFrom_57 : decode cX5_copyFrom 57 = .ok (.invokestatic 49, 3) := by decide +kernel
theorem dX5_copyFrom_60 : decode cX5_copyFrom 60 = .ok (.aload_n 1, 1) := by decide +kernel
theorem dX5_copyFrom_61 : decode cX5_copyFrom 61 = .ok (.getfield 24, 3) := by decide +kernel
theorem dX5_copyFrom_64 : decode cX5_copyFrom 64 = .ok (.aload_n 0, 1) := by decide +kernel
theorem dX5_copyFrom_65 : decode cX5_copyFrom 65 = .ok (.getfield 24, 3) := by decide +kernel
theorem dX5_copyFrom_68 : decode cX5_copyFrom 68 = .ok (.invokestatic 49, 3) := by decide +kernel
theorem dX5_copyFrom_71 : decode cX5_copyFrom 71 = .ok (.aload_n 1, 1) := by decide +kernel
theorem dX5_copyFrom_72 : decode cX5_copyFrom 72 = .ok (.getfield 27, 3) := by decide +kernel
theorem dX5_copyFrom_75 : decode cX5_copyFrom 75 = .ok (.aload_n 0, 1) := by decide +kernel
theorem dX5_copyFrom_76 : decode cX5_copyFrom 76 = .ok (.getfield 27, 3) := by decide +kernel
theorem dX5_copyFrom_79 : decode cX5_copyFrom 79 = .ok (.invokestatic 49, 3) := by decide +kernel
theorem dX5_copyFrom_82 : decode cX5_copyFrom 82 = .ok (.aload_n 1, 1) := by decide +kernel
theorem dX5_copyFrom_83 : decode cX5_copyFrom 83 = .ok (.getfield 30, 3) := by decide +kernel
theorem dX5_copyFrom_86 : decode cX5_copyFrom 86 = .ok (.aload_n 0, 1) := by decide +kernel
theorem dX5_copyFrom_87 : decode cX5_copyFrom 87 = .ok (.getfield 30, 3) := by decide +kernel
theorem dX5_copyFrom_90 : decode cX5_copyFrom 90 = .ok (.invokestatic 49, 3) := by decide +kernel
theorem dX5_copyFrom_93 : decode cX5_copyFrom 93 = .ok (.return_, 1) := by decide +kernel
theorem dX5_isPool_0 : decode cX5_isPool 0 = .ok (.iload_n 1, 1) := by decide +kernel
theorem dX5_isPool_1 : decode cX5_isPool 1 = .ok (.ifCond .lt 20, 3) := by decide +kernel
theorem dX5_isPool_4 : decode cX5_isPool 4 = .ok (.iload_n 1, 1) := by decide +kernel
theorem dX5_isPool_5 : decode cX5_isPool 5 = .ok (.aload_n 0, 1) := by decide +kernel
theorem dX5_isPool_6 : decode cX5_isPool 6 = .ok (.getfield 40, 3) := by decide +kernel
theorem dX5_isPool_9 : decode cX5_isPool 9 = .ok (.if_icmp .ge 12, 3) := by decide +kernel
theorem dX5_isPool_12 : decode cX5_isPool 12 = .ok (.iload_n 1, 1) := by decide +kernel
theorem dX5_isPool_13 : decode cX5_isPool 13 = .ok (.iconst 4, 1) := by decide +kernel
theorem dX5_isPool_14 : decode cX5_isPool 14 = .ok (.if_icmp .ge 7, 3) := by decide +kernel
theorem dX5_isPool_17 : decode cX5_isPool 17 = .ok (.iconst 1, 1) := by decide +kernel
theorem dX5_isPool_18 : decode cX5_isPool 18 = .ok (.goto 4, 3) := by decide +kernel
theorem dX5_isPool_21 : decode cX5_isPool 21 = .ok (.iconst 0, 1) := by decide +kernel
theorem dX5_isPool_22 : decode cX5_isPool 22 = .ok (.ireturn, 1) := by decide +kernel
theorem dX5_meetsPool_0 : decode cX5_meetsPool 0 = .ok (.iconst 0, 1) := by decide +kernel
theorem dX5_meetsPool_1 : decode cX5_meetsPool 1 = .ok (.istore_n 3, 1) := by decide +kernel
theorem dX5_meetsPool_2 : decode cX5_meetsPool 2 = .ok (.iload_n 3, 1) := by decide +kernel
theorem dX5_meetsPool_3 : decode cX5_meetsPool 3 = .ok (.iconst 4, 1) := by decide +kernel
theorem dX5_meetsPool_4 : decode cX5_meetsPool 4 = .ok (.if_icmp .ge 39, 3) := by decide +kernel
theorem dX5_meetsPool_7 : decode cX5_meetsPool 7 = .ok (.iload_n 3, 1) := by decide +kernel
theorem dX5_meetsPool_8 : decode cX5_meetsPool 8 = .ok (.aload_n 0, 1) := by decide +kernel
theorem dX5_meetsPool_9 : decode cX5_meetsPool 9 = .ok (.getfield 40, 3) := by decide +kernel
theorem dX5_meetsPool_12 : decode cX5_meetsPool 12 = .ok (.if_icmp .ge 31, 3) := by decide +kernel
theorem dX5_meetsPool_15 : decode cX5_meetsPool 15 = .ok (.aload_n 0, 1) := by decide +kernel
theorem dX5_meetsPool_16 : decode cX5_meetsPool 16 = .ok (.getfield 9, 3) := by decide +kernel
theorem dX5_meetsPool_19 : decode cX5_meetsPool 19 = .ok (.iload_n 3, 1) := by decide +kernel
theorem dX5_meetsPool_20 : decode cX5_meetsPool 20 = .ok (.iaload, 1) := by decide +kernel
theorem dX5_meetsPool_21 : decode cX5_meetsPool 21 = .ok (.aload_n 0, 1) := by decide +kernel
theorem dX5_meetsPool_22 : decode cX5_meetsPool 22 = .ok (.getfield 15, 3) := by decide +kernel
theorem dX5_meetsPool_25 : decode cX5_meetsPool 25 = .ok (.iload_n 3, 1) := by decide +kernel
theorem dX5_meetsPool_26 : decode cX5_meetsPool 26 = .ok (.iaload, 1) := by decide +kernel
theorem dX5_meetsPool_27 : decode cX5_meetsPool 27 = .ok (.iload_n 1, 1) := by decide +kernel
theorem dX5_meetsPool_28 : decode cX5_meetsPool 28 = .ok (.iload_n 2, 1) := by decide +kernel
theorem dX5_meetsPool_29 : decode cX5_meetsPool 29 = .ok (.invokestatic 53, 3) := by decide +kernel
theorem dX5_meetsPool_32 : decode cX5_meetsPool 32 = .ok (.ifCond .eq 5, 3) := by decide +kernel
theorem dX5_meetsPool_35 : decode cX5_meetsPool 35 = .ok (.iconst 1, 1) := by decide +kernel
theorem dX5_meetsPool_36 : decode cX5_meetsPool 36 = .ok (.ireturn, 1) := by decide +kernel
theorem dX5_meetsPool_37 : decode cX5_meetsPool 37 = .ok (.iinc 3 1, 3) := by decide +kernel
theorem dX5_meetsPool_40 : decode cX5_meetsPool 40 = .ok (.goto (-38), 3) := by decide +kernel
theorem dX5_meetsPool_43 : decode cX5_meetsPool 43 = .ok (.iconst 0, 1) := by decide +kernel
theorem dX5_meetsPool_44 : decode cX5_meetsPool 44 = .ok (.ireturn, 1) := by decide +kernel
theorem dX5_putPool_0 : decode cX5_putPool 0 = .ok (.aload_n 0, 1) := by decide +kernel
theorem dX5_putPool_1 : decode cX5_putPool 1 = .ok (.getfield 40, 3) := by decide +kernel
theorem dX5_putPool_4 : decode cX5_putPool 4 = .ok (.ifCond .lt 41, 3) := by decide +kernel
theorem dX5_putPool_7 : decode cX5_putPool 7 = .ok (.aload_n 0, 1) := by decide +kernel
theorem dX5_putPool_8 : decode cX5_putPool 8 = .ok (.getfield 40, 3) := by decide +kernel
theorem dX5_putPool_11 : decode cX5_putPool 11 = .ok (.iconst 4, 1) := by decide +kernel
theorem dX5_putPool_12 : decode cX5_putPool 12 = .ok (.if_icmp .ge 33, 3) := by decide +kernel
theorem dX5_putPool_15 : decode cX5_putPool 15 = .ok (.aload_n 0, 1) := by decide +kernel
theorem dX5_putPool_16 : decode cX5_putPool 16 = .ok (.getfield 9, 3) := by decide +kernel
theorem dX5_putPool_19 : decode cX5_putPool 19 = .ok (.aload_n 0, 1) := by decide +kernel
theorem dX5_putPool_20 : decode cX5_putPool 20 = .ok (.getfield 40, 3) := by decide +kernel
theorem dX5_putPool_23 : decode cX5_putPool 23 = .ok (.iload_n 1, 1) := by decide +kernel
theorem dX5_putPool_24 : decode cX5_putPool 24 = .ok (.iastore, 1) := by decide +kernel
theorem dX5_putPool_25 : decode cX5_putPool 25 = .ok (.aload_n 0, 1) := by decide +kernel
theorem dX5_putPool_26 : decode cX5_putPool 26 = .ok (.getfield 15, 3) := by decide +kernel
theorem dX5_putPool_29 : decode cX5_putPool 29 = .ok (.aload_n 0, 1) := by decide +kernel
theorem dX5_putPool_30 : decode cX5_putPool 30 = .ok (.getfield 40, 3) := by decide +kernel
theorem dX5_putPool_33 : decode cX5_putPool 33 = .ok (.iload_n 2, 1) := by decide +kernel
theorem dX5_putPool_34 : decode cX5_putPool 34 = .ok (.iastore, 1) := by decide +kernel
theorem dX5_putPool_35 : decode cX5_putPool 35 = .ok (.aload_n 0, 1) := by decide +kernel
theorem dX5_putPool_36 : decode cX5_putPool 36 = .ok (.dup, 1) := by decide +kernel
theorem dX5_putPool_37 : decode cX5_putPool 37 = .ok (.getfield 40, 3) := by decide +kernel
theorem dX5_putPool_40 : decode cX5_putPool 40 = .ok (.iconst 1, 1) := by decide +kernel
theorem dX5_putPool_41 : decode cX5_putPool 41 = .ok (.iadd, 1) := by decide +kernel
theorem dX5_putPool_42 : decode cX5_putPool 42 = .ok (.putfield 40, 3) := by decide +kernel
theorem dX5_putPool_45 : decode cX5_putPool 45 = .ok (.return_, 1) := by decide +kernel
theorem dX5_dropPool_0 : decode cX5_dropPool 0 = .ok (.iload_n 1, 1) := by decide +kernel
theorem dX5_dropPool_1 : decode cX5_dropPool 1 = .ok (.istore_n 2, 1) := by decide +kernel
theorem dX5_dropPool_2 : decode cX5_dropPool 2 = .ok (.aload_n 0, 1) := by decide +kernel
theorem dX5_dropPool_3 : decode cX5_dropPool 3 = .ok (.iload_n 2, 1) := by decide +kernel
theorem dX5_dropPool_4 : decode cX5_dropPool 4 = .ok (.invokevirtual 57, 3) := by decide +kernel
theorem dX5_dropPool_7 : decode cX5_dropPool 7 = .ok (.ifCond .eq 54, 3) := by decide +kernel
theorem dX5_dropPool_10 : decode cX5_dropPool 10 = .ok (.iload_n 2, 1) := by decide +kernel
theorem dX5_dropPool_11 : decode cX5_dropPool 11 = .ok (.iconst 1, 1) := by decide +kernel
theorem dX5_dropPool_12 : decode cX5_dropPool 12 = .ok (.iadd, 1) := by decide +kernel
theorem dX5_dropPool_13 : decode cX5_dropPool 13 = .ok (.iconst 4, 1) := by decide +kernel
theorem dX5_dropPool_14 : decode cX5_dropPool 14 = .ok (.if_icmp .ge 47, 3) := by decide +kernel
theorem dX5_dropPool_17 : decode cX5_dropPool 17 = .ok (.iload_n 2, 1) := by decide +kernel
theorem dX5_dropPool_18 : decode cX5_dropPool 18 = .ok (.iconst 1, 1) := by decide +kernel
theorem dX5_dropPool_19 : decode cX5_dropPool 19 = .ok (.iadd, 1) := by decide +kernel
theorem dX5_dropPool_20 : decode cX5_dropPool 20 = .ok (.aload_n 0, 1) := by decide +kernel
theorem dX5_dropPool_21 : decode cX5_dropPool 21 = .ok (.getfield 40, 3) := by decide +kernel
theorem dX5_dropPool_24 : decode cX5_dropPool 24 = .ok (.if_icmp .ge 37, 3) := by decide +kernel
theorem dX5_dropPool_27 : decode cX5_dropPool 27 = .ok (.aload_n 0, 1) := by decide +kernel
theorem dX5_dropPool_28 : decode cX5_dropPool 28 = .ok (.getfield 9, 3) := by decide +kernel
theorem dX5_dropPool_31 : decode cX5_dropPool 31 = .ok (.iload_n 2, 1) := by decide +kernel
theorem dX5_dropPool_32 : decode cX5_dropPool 32 = .ok (.aload_n 0, 1) := by decide +kernel
theorem dX5_dropPool_33 : decode cX5_dropPool 33 = .ok (.getfield 9, 3) := by decide +kernel
theorem dX5_dropPool_36 : decode cX5_dropPool 36 = .ok (.iload_n 2, 1) := by decide +kernel
theorem dX5_dropPool_37 : decode cX5_dropPool 37 = .ok (.iconst 1, 1) := by decide +kernel
theorem dX5_dropPool_38 : decode cX5_dropPool 38 = .ok (.iadd, 1) := by decide +kernel
theorem dX5_dropPool_39 : decode cX5_dropPool 39 = .ok (.iaload, 1) := by decide +kernel
theorem dX5_dropPool_40 : decode cX5_dropPool 40 = .ok (.iastore, 1) := by decide +kernel
theorem dX5_dropPool_41 : decode cX5_dropPool 41 = .ok (.aload_n 0, 1) := by decide +kernel
theorem dX5_dropPool_42 : decode cX5_dropPool 42 = .ok (.getfield 15, 3) := by decide +kernel
theorem dX5_dropPool_45 : decode cX5_dropPool 45 = .ok (.iload_n 2, 1) := by decide +kernel
theorem dX5_dropPool_46 : decode cX5_dropPool 46 = .ok (.aload_n 0, 1) := by decide +kernel
theorem dX5_dropPool_47 : decode cX5_dropPool 47 = .ok (.getfield 15, 3) := by decide +kernel
theorem dX5_dropPool_50 : decode cX5_dropPool 50 = .ok (.iload_n 2, 1) := by decide +kernel
theorem dX5_dropPool_51 : decode cX5_dropPool 51 = .ok (.iconst 1, 1) := by decide +kernel
theorem dX5_dropPool_52 : decode cX5_dropPool 52 = .ok (.iadd, 1) := by decide +kernel
theorem dX5_dropPool_53 : decode cX5_dropPool 53 = .ok (.iaload, 1) := by decide +kernel
theorem dX5_dropPool_54 : decode cX5_dropPool 54 = .ok (.iastore, 1) := by decide +kernel
theorem dX5_dropPool_55 : decode cX5_dropPool 55 = .ok (.iinc 2 1, 3) := by decide +kernel
theorem dX5_dropPool_58 : decode cX5_dropPool 58 = .ok (.goto (-56), 3) := by decide +kernel
theorem dX5_dropPool_61 : decode cX5_dropPool 61 = .ok (.aload_n 0, 1) := by decide +kernel
theorem dX5_dropPool_62 : decode cX5_dropPool 62 = .ok (.dup, 1) := by decide +kernel
theorem dX5_dropPool_63 : decode cX5_dropPool 63 = .ok (.getfield 40, 3) := by decide +kernel
theorem dX5_dropPool_66 : decode cX5_dropPool 66 = .ok (.iconst 1, 1) := by decide +kernel
theorem dX5_dropPool_67 : decode cX5_dropPool 67 = .ok (.isub, 1) := by decide +kernel
theorem dX5_dropPool_68 : decode cX5_dropPool 68 = .ok (.putfield 40, 3) := by decide +kernel
theorem dX5_dropPool_71 : decode cX5_dropPool 71 = .ok (.return_, 1) := by decide +kernel
theorem dX5_hasBlock_0 : decode cX5_hasBlock 0 = .ok (.iload_n 1, 1) := by decide +kernel
theorem dX5_hasBlock_1 : decode cX5_hasBlock 1 = .ok (.invokestatic 61, 3) := by decide +kernel
theorem dX5_hasBlock_4 : decode cX5_hasBlock 4 = .ok (.ifCond .eq 17, 3) := by decide +kernel
theorem dX5_hasBlock_7 : decode cX5_hasBlock 7 = .ok (.aload_n 0, 1) := by decide +kernel
theorem dX5_hasBlock_8 : decode cX5_hasBlock 8 = .ok (.getfield 18, 3) := by decide +kernel
theorem dX5_hasBlock_11 : decode cX5_hasBlock 11 = .ok (.iload_n 1, 1) := by decide +kernel
theorem dX5_hasBlock_12 : decode cX5_hasBlock 12 = .ok (.iaload, 1) := by decide +kernel
theorem dX5_hasBlock_13 : decode cX5_hasBlock 13 = .ok (.iconst (-1), 1) := by decide +kernel
theorem dX5_hasBlock_14 : decode cX5_hasBlock 14 = .ok (.if_icmp .eq 7, 3) := by decide +kernel
theorem dX5_hasBlock_17 : decode cX5_hasBlock 17 = .ok (.iconst 1, 1) := by decide +kernel
theorem dX5_hasBlock_18 : decode cX5_hasBlock 18 = .ok (.goto 4, 3) := by decide +kernel
theorem dX5_hasBlock_21 : decode cX5_hasBlock 21 = .ok (.iconst 0, 1) := by decide +kernel
theorem dX5_hasBlock_22 : decode cX5_hasBlock 22 = .ok (.ireturn, 1) := by decide +kernel
theorem dX5_hasOld_0 : decode cX5_hasOld 0 = .ok (.iload_n 1, 1) := by decide +kernel
theorem dX5_hasOld_1 : decode cX5_hasOld 1 = .ok (.invokestatic 61, 3) := by decide +kernel
theorem dX5_hasOld_4 : decode cX5_hasOld 4 = .ok (.ifCond .eq 17, 3) := by decide +kernel
theorem dX5_hasOld_7 : decode cX5_hasOld 7 = .ok (.aload_n 0, 1) := by decide +kernel
theorem dX5_hasOld_8 : decode cX5_hasOld 8 = .ok (.getfield 24, 3) := by decide +kernel
theorem dX5_hasOld_11 : decode cX5_hasOld 11 = .ok (.iload_n 1, 1) := by decide +kernel
theorem dX5_hasOld_12 : decode cX5_hasOld 12 = .ok (.iaload, 1) := by decide +kernel
theorem dX5_hasOld_13 : decode cX5_hasOld 13 = .ok (.iconst (-1), 1) := by decide +kernel
theorem dX5_hasOld_14 : decode cX5_hasOld 14 = .ok (.if_icmp .eq 7, 3) := by decide +kernel
theorem dX5_hasOld_17 : decode cX5_hasOld 17 = .ok (.iconst 1, 1) := by decide +kernel
theorem dX5_hasOld_18 : decode cX5_hasOld 18 = .ok (.goto 4, 3) := by decide +kernel
theorem dX5_hasOld_21 : decode cX5_hasOld 21 = .ok (.iconst 0, 1) := by decide +kernel
theorem dX5_hasOld_22 : decode cX5_hasOld 22 = .ok (.ireturn, 1) := by decide +kernel
theorem dX5_isMovable_0 : decode cX5_isMovable 0 = .ok (.aload_n 0, 1) := by decide +kernel
theorem dX5_isMovable_1 : decode cX5_isMovable 1 = .ok (.iload_n 1, 1) := by decide +kernel
theorem dX5_isMovable_2 : decode cX5_isMovable 2 = .ok (.invokevirtual 64, 3) := by decide +kernel
theorem dX5_isMovable_5 : decode cX5_isMovable 5 = .ok (.ifCond .eq 15, 3) := by decide +kernel
theorem dX5_isMovable_8 : decode cX5_isMovable 8 = .ok (.aload_n 0, 1) := by decide +kernel
theorem dX5_isMovable_9 : decode cX5_isMovable 9 = .ok (.iload_n 1, 1) := by decide +kernel
theorem dX5_isMovable_10 : decode cX5_isMovable 10 = .ok (.invokevirtual 67, 3) := by decide +kernel
theorem dX5_isMovable_13 : decode cX5_isMovable 13 = .ok (.ifCond .ne 7, 3) := by decide +kernel
theorem dX5_isMovable_16 : decode cX5_isMovable 16 = .ok (.iconst 1, 1) := by decide +kernel
theorem dX5_isMovable_17 : decode cX5_isMovable 17 = .ok (.goto 4, 3) := by decide +kernel
theorem dX5_isMovable_20 : decode cX5_isMovable 20 = .ok (.iconst 0, 1) := by decide +kernel
theorem dX5_isMovable_21 : decode cX5_isMovable 21 = .ok (.ireturn, 1) := by decide +kernel
theorem dX5_movableBelow_0 : decode cX5_movableBelow 0 = .ok (.iconst (-1), 1) := by decide +kernel
theorem dX5_movableBelow_1 : decode cX5_movableBelow 1 = .ok (.istore_n 2, 1) := by decide +kernel
theorem dX5_movableBelow_2 : decode cX5_movableBelow 2 = .ok (.iconst 0, 1) := by decide +kernel
theorem dX5_movableBelow_3 : decode cX5_movableBelow 3 = .ok (.istore_n 3, 1) := by decide +kernel
theorem dX5_movableBelow_4 : decode cX5_movableBelow 4 = .ok (.iload_n 3, 1) := by decide +kernel
theorem dX5_movableBelow_5 : decode cX5_movableBelow 5 = .ok (.bipush 12, 2) := by decide +kernel
theorem dX5_movableBelow_7 : decode cX5_movableBelow 7 = .ok (.if_icmp .ge 49, 3) := by decide +kernel
theorem dX5_movableBelow_10 : decode cX5_movableBelow 10 = .ok (.aload_n 0, 1) := by decide +kernel
theorem dX5_movableBelow_11 : decode cX5_movableBelow 11 = .ok (.iload_n 3, 1) := by decide +kernel
theorem dX5_movableBelow_12 : decode cX5_movableBelow 12 = .ok (.invokevirtual 70, 3) := by decide +kernel
theorem dX5_movableBelow_15 : decode cX5_movableBelow 15 = .ok (.ifCond .eq 35, 3) := by decide +kernel
theorem dX5_movableBelow_18 : decode cX5_movableBelow 18 = .ok (.aload_n 0, 1) := by decide +kernel
theorem dX5_movableBelow_19 : decode cX5_movableBelow 19 = .ok (.getfield 18, 3) := by decide +kernel
theorem dX5_movableBelow_22 : decode cX5_movableBelow 22 = .ok (.iload_n 3, 1) := by decide +kernel
theorem dX5_movableBelow_23 : decode cX5_movableBelow 23 = .ok (.iaload, 1) := by decide +kernel
theorem dX5_movableBelow_24 : decode cX5_movableBelow 24 = .ok (.iload_n 1, 1) := by decide +kernel
theorem dX5_movableBelow_25 : decode cX5_movableBelow 25 = .ok (.if_icmp .ge 25, 3) := by decide +kernel
theorem dX5_movableBelow_28 : decode cX5_movableBelow 28 = .ok (.iload_n 2, 1) := by decide +kernel
theorem dX5_movableBelow_29 : decode cX5_movableBelow 29 = .ok (.iconst (-1), 1) := by decide +kernel
theorem dX5_movableBelow_30 : decode cX5_movableBelow 30 = .ok (.if_icmp .eq 18, 3) := by decide +kernel
theorem dX5_movableBelow_33 : decode cX5_movableBelow 33 = .ok (.aload_n 0, 1) := by decide +kernel
theorem dX5_movableBelow_34 : decode cX5_movableBelow 34 = .ok (.getfield 18, 3) := by decide +kernel
theorem dX5_movableBelow_37 : decode cX5_movableBelow 37 = .ok (.iload_n 3, 1) := by decide +kernel
theorem dX5_movableBelow_38 : decode cX5_movableBelow 38 = .ok (.iaload, 1) := by decide +kernel
theorem dX5_movableBelow_39 : decode cX5_movableBelow 39 = .ok (.aload_n 0, 1) := by decide +kernel
theorem dX5_movableBelow_40 : decode cX5_movableBelow 40 = .ok (.getfield 18, 3) := by decide +kernel
theorem dX5_movableBelow_43 : decode cX5_movableBelow 43 = .ok (.iload_n 2, 1) := by decide +kernel
theorem dX5_movableBelow_44 : decode cX5_movableBelow 44 = .ok (.iaload, 1) := by decide +kernel
theorem dX5_movableBelow_45 : decode cX5_movableBelow 45 = .ok (.if_icmp .le 5, 3) := by decide +kernel
theorem dX5_movableBelow_48 : decode cX5_movableBelow 48 = .ok (.iload_n 3, 1) := by decide +kernel
theorem dX5_movableBelow_49 : decode cX5_movableBelow 49 = .ok (.istore_n 2, 1) := by decide +kernel
theorem dX5_movableBelow_50 : decode cX5_movableBelow 50 = .ok (.iinc 3 1, 3) := by decide +kernel
theorem dX5_movableBelow_53 : decode cX5_movableBelow 53 = .ok (.goto (-49), 3) := by decide +kernel
theorem dX5_movableBelow_56 : decode cX5_movableBelow 56 = .ok (.iload_n 2, 1) := by decide +kernel
theorem dX5_movableBelow_57 : decode cX5_movableBelow 57 = .ok (.ireturn, 1) := by decide +kernel
theorem dX5_putCurrent_0 : decode cX5_putCurrent 0 = .ok (.aload_n 0, 1) := by decide +kernel
theorem dX5_putCurrent_1 : decode cX5_putCurrent 1 = .ok (.getfield 18, 3) := by decide +kernel
theorem dX5_putCurrent_4 : decode cX5_putCurrent 4 = .ok (.iload_n 1, 1) := by decide +kernel
theorem dX5_putCurrent_5 : decode cX5_putCurrent 5 = .ok (.iload_n 2, 1) := by decide +kernel
theorem dX5_putCurrent_6 : decode cX5_putCurrent 6 = .ok (.iastore, 1) := by decide +kernel
theorem dX5_putCurrent_7 : decode cX5_putCurrent 7 = .ok (.aload_n 0, 1) := by decide +kernel
theorem dX5_putCurrent_8 : decode cX5_putCurrent 8 = .ok (.getfield 21, 3) := by decide +kernel
theorem dX5_putCurrent_11 : decode cX5_putCurrent 11 = .ok (.iload_n 1, 1) := by decide +kernel
theorem dX5_putCurrent_12 : decode cX5_putCurrent 12 = .ok (.iload_n 3, 1) := by decide +kernel
theorem dX5_putCurrent_13 : decode cX5_putCurrent 13 = .ok (.iastore, 1) := by decide +kernel
theorem dX5_putCurrent_14 : decode cX5_putCurrent 14 = .ok (.return_, 1) := by decide +kernel
theorem dX5_makeOld_0 : decode cX5_makeOld 0 = .ok (.aload_n 0, 1) := by decide +kernel
theorem dX5_makeOld_1 : decode cX5_makeOld 1 = .ok (.getfield 24, 3) := by decide +kernel
theorem dX5_makeOld_4 : decode cX5_makeOld 4 = .ok (.iload_n 1, 1) := by decide +kernel
theorem dX5_makeOld_5 : decode cX5_makeOld 5 = .ok (.aload_n 0, 1) := by decide +kernel
theorem dX5_makeOld_6 : decode cX5_makeOld 6 = .ok (.getfield 18, 3) := by decide +kernel
theorem dX5_makeOld_9 : decode cX5_makeOld 9 = .ok (.iload_n 1, 1) := by decide +kernel
theorem dX5_makeOld_10 : decode cX5_makeOld 10 = .ok (.iaload, 1) := by decide +kernel
theorem dX5_makeOld_11 : decode cX5_makeOld 11 = .ok (.iastore, 1) := by decide +kernel
theorem dX5_makeOld_12 : decode cX5_makeOld 12 = .ok (.aload_n 0, 1) := by decide +kernel
theorem dX5_makeOld_13 : decode cX5_makeOld 13 = .ok (.getfield 27, 3) := by decide +kernel
theorem dX5_makeOld_16 : decode cX5_makeOld 16 = .ok (.iload_n 1, 1) := by decide +kernel
theorem dX5_makeOld_17 : decode cX5_makeOld 17 = .ok (.aload_n 0, 1) := by decide +kernel
theorem dX5_makeOld_18 : decode cX5_makeOld 18 = .ok (.getfield 21, 3) := by decide +kernel
theorem dX5_makeOld_21 : decode cX5_makeOld 21 = .ok (.iload_n 1, 1) := by decide +kernel
theorem dX5_makeOld_22 : decode cX5_makeOld 22 = .ok (.iaload, 1) := by decide +kernel
theorem dX5_makeOld_23 : decode cX5_makeOld 23 = .ok (.iastore, 1) := by decide +kernel
theorem dX5_makeOld_24 : decode cX5_makeOld 24 = .ok (.aload_n 0, 1) := by decide +kernel
theorem dX5_makeOld_25 : decode cX5_makeOld 25 = .ok (.getfield 30, 3) := by decide +kernel
theorem dX5_makeOld_28 : decode cX5_makeOld 28 = .ok (.iload_n 1, 1) := by decide +kernel
theorem dX5_makeOld_29 : decode cX5_makeOld 29 = .ok (.iload_n 2, 1) := by decide +kernel
theorem dX5_makeOld_30 : decode cX5_makeOld 30 = .ok (.iastore, 1) := by decide +kernel
theorem dX5_makeOld_31 : decode cX5_makeOld 31 = .ok (.return_, 1) := by decide +kernel
theorem dX5_dropCurrent_0 : decode cX5_dropCurrent 0 = .ok (.aload_n 0, 1) := by decide +kernel
theorem dX5_dropCurrent_1 : decode cX5_dropCurrent 1 = .ok (.getfield 18, 3) := by decide +kernel
theorem dX5_dropCurrent_4 : decode cX5_dropCurrent 4 = .ok (.iload_n 1, 1) := by decide +kernel
theorem dX5_dropCurrent_5 : decode cX5_dropCurrent 5 = .ok (.iconst (-1), 1) := by decide +kernel
theorem dX5_dropCurrent_6 : decode cX5_dropCurrent 6 = .ok (.iastore, 1) := by decide +kernel
theorem dX5_dropCurrent_7 : decode cX5_dropCurrent 7 = .ok (.return_, 1) := by decide +kernel
theorem dX5_dropOld_0 : decode cX5_dropOld 0 = .ok (.aload_n 0, 1) := by decide +kernel
theorem dX5_dropOld_1 : decode cX5_dropOld 1 = .ok (.getfield 24, 3) := by decide +kernel
theorem dX5_dropOld_4 : decode cX5_dropOld 4 = .ok (.iload_n 1, 1) := by decide +kernel
theorem dX5_dropOld_5 : decode cX5_dropOld 5 = .ok (.iconst (-1), 1) := by decide +kernel
theorem dX5_dropOld_6 : decode cX5_dropOld 6 = .ok (.iastore, 1) := by decide +kernel
theorem dX5_dropOld_7 : decode cX5_dropOld 7 = .ok (.return_, 1) := by decide +kernel
theorem dX5_canCover_0 : decode cX5_canCover 0 = .ok (.iconst 0, 1) := by decide +kernel
theorem dX5_canCover_1 : decode cX5_canCover 1 = .ok (.istore 4, 2) := by decide +kernel
theorem dX5_canCover_3 : decode cX5_canCover 3 = .ok (.iconst 0, 1) := by decide +kernel
theorem dX5_canCover_4 : decode cX5_canCover 4 = .ok (.istore 5, 2) := by decide +kernel
theorem dX5_canCover_6 : decode cX5_canCover 6 = .ok (.iload 5, 2) := by decide +kernel
theorem dX5_canCover_8 : decode cX5_canCover 8 = .ok (.iconst 4, 1) := by decide +kernel
theorem dX5_canCover_9 : decode cX5_canCover 9 = .ok (.if_icmp .ge 62, 3) := by decide +kernel
theorem dX5_canCover_12 : decode cX5_canCover 12 = .ok (.iload 5, 2) := by decide +kernel
theorem dX5_canCover_14 : decode cX5_canCover 14 = .ok (.aload_n 0, 1) := by decide +kernel
theorem dX5_canCover_15 : decode cX5_canCover 15 = .ok (.getfield 40, 3) := by decide +kernel
theorem dX5_canCover_18 : decode cX5_canCover 18 = .ok (.if_icmp .ge 53, 3) := by decide +kernel
theorem dX5_canCover_21 : decode cX5_canCover 21 = .ok (.iload 4, 2) := by decide +kernel
theorem dX5_canCover_23 : decode cX5_canCover 23 = .ok (.ifCond .ne 35, 3) := by decide +kernel
theorem dX5_canCover_26 : decode cX5_canCover 26 = .ok (.aload_n 0, 1) := by decide +kernel
theorem dX5_canCover_27 : decode cX5_canCover 27 = .ok (.getfield 15, 3) := by decide +kernel
theorem dX5_canCover_30 : decode cX5_canCover 30 = .ok (.iload 5, 2) := by decide +kernel
theorem dX5_canCover_32 : decode cX5_canCover 32 = .ok (.iaload, 1) := by decide +kernel
theorem dX5_canCover_33 : decode cX5_canCover 33 = .ok (.iload_n 3, 1) := by decide +kernel
theorem dX5_canCover_34 : decode cX5_canCover 34 = .ok (.if_icmp .gt 28, 3) := by decide +kernel
theorem dX5_canCover_37 : decode cX5_canCover 37 = .ok (.aload_n 0, 1) := by decide +kernel
theorem dX5_canCover_38 : decode cX5_canCover 38 = .ok (.getfield 9, 3) := by decide +kernel
theorem dX5_canCover_41 : decode cX5_canCover 41 = .ok (.iload 5, 2) := by decide +kernel
theorem dX5_canCover_43 : decode cX5_canCover 43 = .ok (.iaload, 1) := by decide +kernel
theorem dX5_canCover_44 : decode cX5_canCover 44 = .ok (.aload_n 0, 1) := by decide +kernel
theorem dX5_canCover_45 : decode cX5_canCover 45 = .ok (.getfield 15, 3) := by decide +kernel
theorem dX5_canCover_48 : decode cX5_canCover 48 = .ok (.iload 5, 2) := by decide +kernel
theorem dX5_canCover_50 : decode cX5_canCover 50 = .ok (.iaload, 1) := by decide +kernel
theorem dX5_canCover_51 : decode cX5_canCover 51 = .ok (.iload_n 2, 1) := by decide +kernel
theorem dX5_canCover_52 : decode cX5_canCover 52 = .ok (.invokestatic 73, 3) := by decide +kernel
theorem dX5_canCover_55 : decode cX5_canCover 55 = .ok (.ifCond .eq 7, 3) := by decide +kernel
theorem dX5_canCover_58 : decode cX5_canCover 58 = .ok (.iconst 1, 1) := by decide +kernel
theorem dX5_canCover_59 : decode cX5_canCover 59 = .ok (.goto 4, 3) := by decide +kernel
theorem dX5_canCover_62 : decode cX5_canCover 62 = .ok (.iconst 0, 1) := by decide +kernel
theorem dX5_canCover_63 : decode cX5_canCover 63 = .ok (.istore 4, 2) := by decide +kernel
theorem dX5_canCover_65 : decode cX5_canCover 65 = .ok (.iinc 5 1, 3) := by decide +kernel
theorem dX5_canCover_68 : decode cX5_canCover 68 = .ok (.goto (-62), 3) := by decide +kernel
theorem dX5_canCover_71 : decode cX5_canCover 71 = .ok (.iload 4, 2) := by decide +kernel
theorem dX5_canCover_73 : decode cX5_canCover 73 = .ok (.ifCond .ne 5, 3) := by decide +kernel
theorem dX5_canCover_76 : decode cX5_canCover 76 = .ok (.iconst 0, 1) := by decide +kernel
theorem dX5_canCover_77 : decode cX5_canCover 77 = .ok (.ireturn, 1) := by decide +kernel
theorem dX5_canCover_78 : decode cX5_canCover 78 = .ok (.iconst 0, 1) := by decide +kernel
theorem dX5_canCover_79 : decode cX5_canCover 79 = .ok (.istore 5, 2) := by decide +kernel
theorem dX5_canCover_81 : decode cX5_canCover 81 = .ok (.iload 5, 2) := by decide +kernel
theorem dX5_canCover_83 : decode cX5_canCover 83 = .ok (.bipush 12, 2) := by decide +kernel
theorem dX5_canCover_85 : decode cX5_canCover 85 = .ok (.if_icmp .ge 81, 3) := by decide +kernel
theorem dX5_canCover_88 : decode cX5_canCover 88 = .ok (.iload 5, 2) := by decide +kernel
theorem dX5_canCover_90 : decode cX5_canCover 90 = .ok (.iload_n 1, 1) := by decide +kernel
theorem dX5_canCover_91 : decode cX5_canCover 91 = .ok (.if_icmp .eq 36, 3) := by decide +kernel
theorem dX5_canCover_94 : decode cX5_canCover 94 = .ok (.aload_n 0, 1) := by decide +kernel
theorem dX5_canCover_95 : decode cX5_canCover 95 = .ok (.iload 5, 2) := by decide +kernel
theorem dX5_canCover_97 : decode cX5_canCover 97 = .ok (.invokevirtual 64, 3) := by decide +kernel
theorem dX5_canCover_100 : decode cX5_canCover 100 = .ok (.ifCond .eq 27, 3) := by decide +kernel
theorem dX5_canCover_103 : decode cX5_canCover 103 = .ok (.aload_n 0, 1) := by decide +kernel
theorem dX5_canCover_104 : decode cX5_canCover 104 = .ok (.getfield 18, 3) := by decide +kernel
theorem dX5_canCover_107 : decode cX5_canCover 107 = .ok (.iload 5, 2) := by decide +kernel
theorem dX5_canCover_109 : decode cX5_canCover 109 = .ok (.iaload, 1) := by decide +kernel
theorem dX5_canCover_110 : decode cX5_canCover 110 = .ok (.aload_n 0, 1) := by decide +kernel
theorem dX5_canCover_111 : decode cX5_canCover 111 = .ok (.getfield 21, 3) := by decide +kernel
theorem dX5_canCover_114 : decode cX5_canCover 114 = .ok (.iload 5, 2) := by decide +kernel
theorem dX5_canCover_116 : decode cX5_canCover 116 = .ok (.iaload, 1) := by decide +kernel
theorem dX5_canCover_117 : decode cX5_canCover 117 = .ok (.iload_n 2, 1) := by decide +kernel
theorem dX5_canCover_118 : decode cX5_canCover 118 = .ok (.iload_n 3, 1) := by decide +kernel
theorem dX5_canCover_119 : decode cX5_canCover 119 = .ok (.invokestatic 53, 3) := by decide +kernel
theorem dX5_canCover_122 : decode cX5_canCover 122 = .ok (.ifCond .eq 5, 3) := by decide +kernel
theorem dX5_canCover_125 : decode cX5_canCover 125 = .ok (.iconst 0, 1) := by decide +kernel
theorem dX5_canCover_126 : decode cX5_canCover 126 = .ok (.ireturn, 1) := by decide +kernel
theorem dX5_canCover_127 : decode cX5_canCover 127 = .ok (.aload_n 0, 1) := by decide +kernel
theorem dX5_canCover_128 : decode cX5_canCover 128 = .ok (.iload 5, 2) := by decide +kernel
theorem dX5_canCover_130 : decode cX5_canCover 130 = .ok (.invokevirtual 67, 3) := by decide +kernel
theorem dX5_canCover_133 : decode cX5_canCover 133 = .ok (.ifCond .eq 27, 3) := by decide +kernel
theorem dX5_canCover_136 : decode cX5_canCover 136 = .ok (.aload_n 0, 1) := by decide +kernel
theorem dX5_canCover_137 : decode cX5_canCover 137 = .ok (.getfield 24, 3) := by decide +kernel
theorem dX5_canCover_140 : decode cX5_canCover 140 = .ok (.iload 5, 2) := by decide +kernel
theorem dX5_canCover_142 : decode cX5_canCover 142 = .ok (.iaload, 1) := by decide +kernel
theorem dX5_canCover_143 : decode cX5_canCover 143 = .ok (.aload_n 0, 1) := by decide +kernel
theorem dX5_canCover_144 : decode cX5_canCover 144 = .ok (.getfield 27, 3) := by decide +kernel
theorem dX5_canCover_147 : decode cX5_canCover 147 = .ok (.iload 5, 2) := by decide +kernel
theorem dX5_canCover_149 : decode cX5_canCover 149 = .ok (.iaload, 1) := by decide +kernel
theorem dX5_canCover_150 : decode cX5_canCover 150 = .ok (.iload_n 2, 1) := by decide +kernel
theorem dX5_canCover_151 : decode cX5_canCover 151 = .ok (.iload_n 3, 1) := by decide +kernel
theorem dX5_canCover_152 : decode cX5_canCover 152 = .ok (.invokestatic 53, 3) := by decide +kernel
theorem dX5_canCover_155 : decode cX5_canCover 155 = .ok (.ifCond .eq 5, 3) := by decide +kernel
theorem dX5_canCover_158 : decode cX5_canCover 158 = .ok (.iconst 0, 1) := by decide +kernel
theorem dX5_canCover_159 : decode cX5_canCover 159 = .ok (.ireturn, 1) := by decide +kernel
theorem dX5_canCover_160 : decode cX5_canCover 160 = .ok (.iinc 5 1, 3) := by decide +kernel
theorem dX5_canCover_163 : decode cX5_canCover 163 = .ok (.goto (-82), 3) := by decide +kernel
theorem dX5_canCover_166 : decode cX5_canCover 166 = .ok (.iconst 1, 1) := by decide +kernel
theorem dX5_canCover_167 : decode cX5_canCover 167 = .ok (.ireturn, 1) := by decide +kernel
theorem dX5_networkAt_0 : decode cX5_networkAt 0 = .ok (.iconst 0, 1) := by decide +kernel
theorem dX5_networkAt_1 : decode cX5_networkAt 1 = .ok (.istore_n 2, 1) := by decide +kernel
theorem dX5_networkAt_2 : decode cX5_networkAt 2 = .ok (.iload_n 2, 1) := by decide +kernel
theorem dX5_networkAt_3 : decode cX5_networkAt 3 = .ok (.bipush 12, 2) := by decide +kernel
theorem dX5_networkAt_5 : decode cX5_networkAt 5 = .ok (.if_icmp .ge 49, 3) := by decide +kernel
theorem dX5_networkAt_8 : decode cX5_networkAt 8 = .ok (.aload_n 0, 1) := by decide +kernel
theorem dX5_networkAt_9 : decode cX5_networkAt 9 = .ok (.getfield 18, 3) := by decide +kernel
theorem dX5_networkAt_12 : decode cX5_networkAt 12 = .ok (.iload_n 2, 1) := by decide +kernel
theorem dX5_networkAt_13 : decode cX5_networkAt 13 = .ok (.iaload, 1) := by decide +kernel
theorem dX5_networkAt_14 : decode cX5_networkAt 14 = .ok (.aload_n 0, 1) := by decide +kernel
theorem dX5_networkAt_15 : decode cX5_networkAt 15 = .ok (.getfield 21, 3) := by decide +kernel
theorem dX5_networkAt_18 : decode cX5_networkAt 18 = .ok (.iload_n 2, 1) := by decide +kernel
theorem dX5_networkAt_19 : decode cX5_networkAt 19 = .ok (.iaload, 1) := by decide +kernel
theorem dX5_networkAt_20 : decode cX5_networkAt 20 = .ok (.iload_n 1, 1) := by decide +kernel
theorem dX5_networkAt_21 : decode cX5_networkAt 21 = .ok (.invokestatic 73, 3) := by decide +kernel
theorem dX5_networkAt_24 : decode cX5_networkAt 24 = .ok (.ifCond .ne 22, 3) := by decide +kernel
theorem dX5_networkAt_27 : decode cX5_networkAt 27 = .ok (.aload_n 0, 1) := by decide +kernel
theorem dX5_networkAt_28 : decode cX5_networkAt 28 = .ok (.getfield 24, 3) := by decide +kernel
theorem dX5_networkAt_31 : decode cX5_networkAt 31 = .ok (.iload_n 2, 1) := by decide +kernel
theorem dX5_networkAt_32 : decode cX5_networkAt 32 = .ok (.iaload, 1) := by decide +kernel
theorem dX5_networkAt_33 : decode cX5_networkAt 33 = .ok (.aload_n 0, 1) := by decide +kernel
theorem dX5_networkAt_34 : decode cX5_networkAt 34 = .ok (.getfield 27, 3) := by decide +kernel
theorem dX5_networkAt_37 : decode cX5_networkAt 37 = .ok (.iload_n 2, 1) := by decide +kernel
theorem dX5_networkAt_38 : decode cX5_networkAt 38 = .ok (.iaload, 1) := by decide +kernel
theorem dX5_networkAt_39 : decode cX5_networkAt 39 = .ok (.iload_n 1, 1) := by decide +kernel
theorem dX5_networkAt_40 : decode cX5_networkAt 40 = .ok (.invokestatic 73, 3) := by decide +kernel
theorem dX5_networkAt_43 : decode cX5_networkAt 43 = .ok (.ifCond .eq 5, 3) := by decide +kernel
theorem dX5_networkAt_46 : decode cX5_networkAt 46 = .ok (.iload_n 2, 1) := by decide +kernel
theorem dX5_networkAt_47 : decode cX5_networkAt 47 = .ok (.ireturn, 1) := by decide +kernel
theorem dX5_networkAt_48 : decode cX5_networkAt 48 = .ok (.iinc 2 1, 3) := by decide +kernel
theorem dX5_networkAt_51 : decode cX5_networkAt 51 = .ok (.goto (-49), 3) := by decide +kernel
theorem dX5_networkAt_54 : decode cX5_networkAt 54 = .ok (.iconst (-1), 1) := by decide +kernel
theorem dX5_networkAt_55 : decode cX5_networkAt 55 = .ok (.ireturn, 1) := by decide +kernel
theorem dX5_property_0 : decode cX5_property 0 = .ok (.iload_n 2, 1) := by decide +kernel
theorem dX5_property_1 : decode cX5_property 1 = .ok (.tableswitch 59 0 3 #[31, 38, 45, 52], 31) := by decide +kernel
theorem dX5_property_32 : decode cX5_property 32 = .ok (.aload_n 0, 1) := by decide +kernel
theorem dX5_property_33 : decode cX5_property 33 = .ok (.getfield 18, 3) := by decide +kernel
theorem dX5_property_36 : decode cX5_property 36 = .ok (.iload_n 1, 1) := by decide +kernel
theorem dX5_property_37 : decode cX5_property 37 = .ok (.iaload, 1) := by decide +kernel
theorem dX5_property_38 : decode cX5_property 38 = .ok (.ireturn, 1) := by decide +kernel
theorem dX5_property_39 : decode cX5_property 39 = .ok (.aload_n 0, 1) := by decide +kernel
theorem dX5_property_40 : decode cX5_property 40 = .ok (.getfield 21, 3) := by decide +kernel
theorem dX5_property_43 : decode cX5_property 43 = .ok (.iload_n 1, 1) := by decide +kernel
theorem dX5_property_44 : decode cX5_property 44 = .ok (.iaload, 1) := by decide +kernel
theorem dX5_property_45 : decode cX5_property 45 = .ok (.ireturn, 1) := by decide +kernel
theorem dX5_property_46 : decode cX5_property 46 = .ok (.aload_n 0, 1) := by decide +kernel
theorem dX5_property_47 : decode cX5_property 47 = .ok (.getfield 24, 3) := by decide +kernel
theorem dX5_property_50 : decode cX5_property 50 = .ok (.iload_n 1, 1) := by decide +kernel
theorem dX5_property_51 : decode cX5_property 51 = .ok (.iaload, 1) := by decide +kernel
theorem dX5_property_52 : decode cX5_property 52 = .ok (.ireturn, 1) := by decide +kernel
theorem dX5_property_53 : decode cX5_property 53 = .ok (.aload_n 0, 1) := by decide +kernel
theorem dX5_property_54 : decode cX5_property 54 = .ok (.getfield 27, 3) := by decide +kernel
theorem dX5_property_57 : decode cX5_property 57 = .ok (.iload_n 1, 1) := by decide +kernel
theorem dX5_property_58 : decode cX5_property 58 = .ok (.iaload, 1) := by decide +kernel
theorem dX5_property_59 : decode cX5_property 59 = .ok (.ireturn, 1) := by decide +kernel
theorem dX5_property_60 : decode cX5_property 60 = .ok (.aload_n 0, 1) := by decide +kernel
theorem dX5_property_61 : decode cX5_property 61 = .ok (.getfield 30, 3) := by decide +kernel
theorem dX5_property_64 : decode cX5_property 64 = .ok (.iload_n 1, 1) := by decide +kernel
theorem dX5_property_65 : decode cX5_property 65 = .ok (.iaload, 1) := by decide +kernel
theorem dX5_property_66 : decode cX5_property 66 = .ok (.ireturn, 1) := by decide +kernel
theorem dX5_currentBlocks_0 : decode cX5_currentBlocks 0 = .ok (.iconst 0, 1) := by decide +kernel
theorem dX5_currentBlocks_1 : decode cX5_currentBlocks 1 = .ok (.istore_n 1, 1) := by decide +kernel
theorem dX5_currentBlocks_2 : decode cX5_currentBlocks 2 = .ok (.iconst 0, 1) := by decide +kernel
theorem dX5_currentBlocks_3 : decode cX5_currentBlocks 3 = .ok (.istore_n 2, 1) := by decide +kernel
theorem dX5_currentBlocks_4 : decode cX5_currentBlocks 4 = .ok (.iload_n 2, 1) := by decide +kernel
theorem dX5_currentBlocks_5 : decode cX5_currentBlocks 5 = .ok (.bipush 12, 2) := by decide +kernel
theorem dX5_currentBlocks_7 : decode cX5_currentBlocks 7 = .ok (.if_icmp .ge 25, 3) := by decide +kernel
theorem dX5_currentBlocks_10 : decode cX5_currentBlocks 10 = .ok (.iload_n 1, 1) := by decide +kernel
theorem dX5_currentBlocks_11 : decode cX5_currentBlocks 11 = .ok (.aload_n 0, 1) := by decide +kernel
theorem dX5_currentBlocks_12 : decode cX5_currentBlocks 12 = .ok (.iload_n 2, 1) := by decide +kernel
theorem dX5_currentBlocks_13 : decode cX5_currentBlocks 13 = .ok (.invokevirtual 64, 3) := by decide +kernel
theorem dX5_currentBlocks_16 : decode cX5_currentBlocks 16 = .ok (.ifCond .eq 7, 3) := by decide +kernel
theorem dX5_currentBlocks_19 : decode cX5_currentBlocks 19 = .ok (.iconst 1, 1) := by decide +kernel
theorem dX5_currentBlocks_20 : decode cX5_currentBlocks 20 = .ok (.goto 4, 3) := by decide +kernel
theorem dX5_currentBlocks_23 : decode cX5_currentBlocks 23 = .ok (.iconst 0, 1) := by decide +kernel
theorem dX5_currentBlocks_24 : decode cX5_currentBlocks 24 = .ok (.iadd, 1) := by decide +kernel
theorem dX5_currentBlocks_25 : decode cX5_currentBlocks 25 = .ok (.istore_n 1, 1) := by decide +kernel
theorem dX5_currentBlocks_26 : decode cX5_currentBlocks 26 = .ok (.iinc 2 1, 3) := by decide +kernel
theorem dX5_currentBlocks_29 : decode cX5_currentBlocks 29 = .ok (.goto (-25), 3) := by decide +kernel
theorem dX5_currentBlocks_32 : decode cX5_currentBlocks 32 = .ok (.iload_n 1, 1) := by decide +kernel
theorem dX5_currentBlocks_33 : decode cX5_currentBlocks 33 = .ok (.ireturn, 1) := by decide +kernel
theorem dX5_oldBlocks_0 : decode cX5_oldBlocks 0 = .ok (.iconst 0, 1) := by decide +kernel
theorem dX5_oldBlocks_1 : decode cX5_oldBlocks 1 = .ok (.istore_n 1, 1) := by decide +kernel
theorem dX5_oldBlocks_2 : decode cX5_oldBlocks 2 = .ok (.iconst 0, 1) := by decide +kernel
theorem dX5_oldBlocks_3 : decode cX5_oldBlocks 3 = .ok (.istore_n 2, 1) := by decide +kernel
theorem dX5_oldBlocks_4 : decode cX5_oldBlocks 4 = .ok (.iload_n 2, 1) := by decide +kernel
theorem dX5_oldBlocks_5 : decode cX5_oldBlocks 5 = .ok (.bipush 12, 2) := by decide +kernel
theorem dX5_oldBlocks_7 : decode cX5_oldBlocks 7 = .ok (.if_icmp .ge 25, 3) := by decide +kernel
theorem dX5_oldBlocks_10 : decode cX5_oldBlocks 10 = .ok (.iload_n 1, 1) := by decide +kernel
theorem dX5_oldBlocks_11 : decode cX5_oldBlocks 11 = .ok (.aload_n 0, 1) := by decide +kernel
theorem dX5_oldBlocks_12 : decode cX5_oldBlocks 12 = .ok (.iload_n 2, 1) := by decide +kernel
theorem dX5_oldBlocks_13 : decode cX5_oldBlocks 13 = .ok (.invokevirtual 67, 3) := by decide +kernel
theorem dX5_oldBlocks_16 : decode cX5_oldBlocks 16 = .ok (.ifCond .eq 7, 3) := by decide +kernel
theorem dX5_oldBlocks_19 : decode cX5_oldBlocks 19 = .ok (.iconst 1, 1) := by decide +kernel
theorem dX5_oldBlocks_20 : decode cX5_oldBlocks 20 = .ok (.goto 4, 3) := by decide +kernel
theorem dX5_oldBlocks_23 : decode cX5_oldBlocks 23 = .ok (.iconst 0, 1) := by decide +kernel
theorem dX5_oldBlocks_24 : decode cX5_oldBlocks 24 = .ok (.iadd, 1) := by decide +kernel
theorem dX5_oldBlocks_25 : decode cX5_oldBlocks 25 = .ok (.istore_n 1, 1) := by decide +kernel
theorem dX5_oldBlocks_26 : decode cX5_oldBlocks 26 = .ok (.iinc 2 1, 3) := by decide +kernel
theorem dX5_oldBlocks_29 : decode cX5_oldBlocks 29 = .ok (.goto (-25), 3) := by decide +kernel
theorem dX5_oldBlocks_32 : decode cX5_oldBlocks 32 = .ok (.iload_n 1, 1) := by decide +kernel
theorem dX5_oldBlocks_33 : decode cX5_oldBlocks 33 = .ok (.ireturn, 1) := by decide +kernel
theorem dX5_firstOverlapEnd_0 : decode cX5_firstOverlapEnd 0 = .ok (.sipush 10999, 3) := by decide +kernel
theorem dX5_firstOverlapEnd_3 : decode cX5_firstOverlapEnd 3 = .ok (.istore_n 1, 1) := by decide +kernel
theorem dX5_firstOverlapEnd_4 : decode cX5_firstOverlapEnd 4 = .ok (.iconst 0, 1) := by decide +kernel
theorem dX5_firstOverlapEnd_5 : decode cX5_firstOverlapEnd 5 = .ok (.istore_n 2, 1) := by decide +kernel
theorem dX5_firstOverlapEnd_6 : decode cX5_firstOverlapEnd 6 = .ok (.iload_n 2, 1) := by decide +kernel
theorem dX5_firstOverlapEnd_7 : decode cX5_firstOverlapEnd 7 = .ok (.bipush 12, 2) := by decide +kernel
theorem dX5_firstOverlapEnd_9 : decode cX5_firstOverlapEnd 9 = .ok (.if_icmp .ge 28, 3) := by decide +kernel
theorem dX5_firstOverlapEnd_12 : decode cX5_firstOverlapEnd 12 = .ok (.aload_n 0, 1) := by decide +kernel
theorem dX5_firstOverlapEnd_13 : decode cX5_firstOverlapEnd 13 = .ok (.iload_n 2, 1) := by decide +kernel
theorem dX5_firstOverlapEnd_14 : decode cX5_firstOverlapEnd 14 = .ok (.invokevirtual 67, 3) := by decide +kernel
theorem dX5_firstOverlapEnd_17 : decode cX5_firstOverlapEnd 17 = .ok (.ifCond .eq 14, 3) := by decide +kernel
theorem dX5_firstOverlapEnd_20 : decode cX5_firstOverlapEnd 20 = .ok (.iload_n 1, 1) := by decide +kernel
theorem dX5_firstOverlapEnd_21 : decode cX5_firstOverlapEnd 21 = .ok (.aload_n 0, 1) := by decide +kernel
theorem dX5_firstOverlapEnd_22 : decode cX5_firstOverlapEnd 22 = .ok (.getfield 30, 3) := by decide +kernel
theorem dX5_firstOverlapEnd_25 : decode cX5_firstOverlapEnd 25 = .ok (.iload_n 2, 1) := by decide +kernel
theorem dX5_firstOverlapEnd_26 : decode cX5_firstOverlapEnd 26 = .ok (.iaload, 1) := by decide +kernel
theorem dX5_firstOverlapEnd_27 : decode cX5_firstOverlapEnd 27 = .ok (.invokestatic 77, 3) := by decide +kernel
theorem dX5_firstOverlapEnd_30 : decode cX5_firstOverlapEnd 30 = .ok (.istore_n 1, 1) := by decide +kernel
theorem dX5_firstOverlapEnd_31 : decode cX5_firstOverlapEnd 31 = .ok (.iinc 2 1, 3) := by decide +kernel
theorem dX5_firstOverlapEnd_34 : decode cX5_firstOverlapEnd 34 = .ok (.goto (-28), 3) := by decide +kernel
theorem dX5_firstOverlapEnd_37 : decode cX5_firstOverlapEnd 37 = .ok (.iload_n 1, 1) := by decide +kernel
theorem dX5_firstOverlapEnd_38 : decode cX5_firstOverlapEnd 38 = .ok (.ireturn, 1) := by decide +kernel
theorem dX6_init_0 : decode cX6_init 0 = .ok (.aload_n 0, 1) := by decide +kernel
theorem dX6_init_1 : decode cX6_init 1 = .ok (.invokespecial 3, 3) := by decide +kernel
theorem dX6_init_4 : decode cX6_init 4 = .ok (.aload_n 0, 1) := by decide +kernel
theorem dX6_init_5 : decode cX6_init 5 = .ok (.new 9, 3) := by decide +kernel
theorem dX6_init_8 : decode cX6_init 8 = .ok (.dup, 1) := by decide +kernel
theorem dX6_init_9 : decode cX6_init 9 = .ok (.invokespecial 11, 3) := by decide +kernel
theorem dX6_init_12 : decode cX6_init 12 = .ok (.putfield 12, 3) := by decide +kernel
theorem dX6_init_15 : decode cX6_init 15 = .ok (.aload_n 0, 1) := by decide +kernel
theorem dX6_init_16 : decode cX6_init 16 = .ok (.new 18, 3) := by decide +kernel
theorem dX6_init_19 : decode cX6_init 19 = .ok (.dup, 1) := by decide +kernel
theorem dX6_init_20 : decode cX6_init 20 = .ok (.invokespecial 20, 3) := by decide +kernel
theorem dX6_init_23 : decode cX6_init 23 = .ok (.putfield 21, 3) := by decide +kernel
theorem dX6_init_26 : decode cX6_init 26 = .ok (.aload_n 0, 1) := by decide +kernel
theorem dX6_init_27 : decode cX6_init 27 = .ok (.invokevirtual 25, 3) := by decide +kernel
theorem dX6_init_30 : decode cX6_init 30 = .ok (.return_, 1) := by decide +kernel
theorem dX6_reset_0 : decode cX6_reset 0 = .ok (.aload_n 0, 1) := by decide +kernel
theorem dX6_reset_1 : decode cX6_reset 1 = .ok (.getfield 12, 3) := by decide +kernel
theorem dX6_reset_4 : decode cX6_reset 4 = .ok (.invokevirtual 28, 3) := by decide +kernel
theorem dX6_reset_7 : decode cX6_reset 7 = .ok (.aload_n 0, 1) := by decide +kernel
theorem dX6_reset_8 : decode cX6_reset 8 = .ok (.getfield 21, 3) := by decide +kernel
theorem dX6_reset_11 : decode cX6_reset 11 = .ok (.invokevirtual 29, 3) := by decide +kernel
theorem dX6_reset_14 : decode cX6_reset 14 = .ok (.aload_n 0, 1) := by decide +kernel
theorem dX6_reset_15 : decode cX6_reset 15 = .ok (.iconst 0, 1) := by decide +kernel
theorem dX6_reset_16 : decode cX6_reset 16 = .ok (.putfield 30, 3) := by decide +kernel
theorem dX6_reset_19 : decode cX6_reset 19 = .ok (.aload_n 0, 1) := by decide +kernel
theorem dX6_reset_20 : decode cX6_reset 20 = .ok (.bipush 60, 2) := by decide +kernel
theorem dX6_reset_22 : decode cX6_reset 22 = .ok (.putfield 34, 3) := by decide +kernel
theorem dX6_reset_25 : decode cX6_reset 25 = .ok (.aload_n 0, 1) := by decide +kernel
theorem dX6_reset_26 : decode cX6_reset 26 = .ok (.bipush 100, 2) := by decide +kernel
theorem dX6_reset_28 : decode cX6_reset 28 = .ok (.putfield 37, 3) := by decide +kernel
theorem dX6_reset_31 : decode cX6_reset 31 = .ok (.aload_n 0, 1) := by decide +kernel
theorem dX6_reset_32 : decode cX6_reset 32 = .ok (.iconst 0, 1) := by decide +kernel
theorem dX6_reset_33 : decode cX6_reset 33 = .ok (.putfield 40, 3) := by decide +kernel
theorem dX6_reset_36 : decode cX6_reset 36 = .ok (.return_, 1) := by decide +kernel
theorem dX6_copyFrom_0 : decode cX6_copyFrom 0 = .ok (.aload_n 0, 1) := by decide +kernel
theorem dX6_copyFrom_1 : decode cX6_copyFrom 1 = .ok (.getfield 12, 3) := by decide +kernel
theorem dX6_copyFrom_4 : decode cX6_copyFrom 4 = .ok (.aload_n 1, 1) := by decide +kernel
theorem dX6_copyFrom_5 : decode cX6_copyFrom 5 = .ok (.getfield 12, 3) := by decide +kernel
theorem dX6_copyFrom_8 : decode cX6_copyFrom 8 = .ok (.invokevirtual 43, 3) := by decide +kernel
theorem dX6_copyFrom_11 : decode cX6_copyFrom 11 = .ok (.aload_n 0, 1) := by decide +kernel
theorem dX6_copyFrom_12 : decode cX6_copyFrom 12 = .ok (.getfield 21, 3) := by decide +kernel
theorem dX6_copyFrom_15 : decode cX6_copyFrom 15 = .ok (.aload_n 1, 1) := by decide +kernel
theorem dX6_copyFrom_16 : decode cX6_copyFrom 16 = .ok (.getfield 21, 3) := by decide +kernel
theorem dX6_copyFrom_19 : decode cX6_copyFrom 19 = .ok (.invokevirtual 47, 3) := by decide +kernel
theorem dX6_copyFrom_22 : decode cX6_copyFrom 22 = .ok (.aload_n 0, 1) := by decide +kernel
theorem dX6_copyFrom_23 : decode cX6_copyFrom 23 = .ok (.aload_n 1, 1) := by decide +kernel
theorem dX6_copyFrom_24 : decode cX6_copyFrom 24 = .ok (.getfield 30, 3) := by decide +kernel
theorem dX6_copyFrom_27 : decode cX6_copyFrom 27 = .ok (.putfield 30, 3) := by decide +kernel
theorem dX6_copyFrom_30 : decode cX6_copyFrom 30 = .ok (.aload_n 0, 1) := by decide +kernel
theorem dX6_copyFrom_31 : decode cX6_copyFrom 31 = .ok (.aload_n 1, 1) := by decide +kernel
theorem dX6_copyFrom_32 : decode cX6_copyFrom 32 = .ok (.getfield 34, 3) := by decide +kernel
theorem dX6_copyFrom_35 : decode cX6_copyFrom 35 = .ok (.putfield 34, 3) := by decide +kernel
theorem dX6_copyFrom_38 : decode cX6_copyFrom 38 = .ok (.aload_n 0, 1) := by decide +kernel
theorem dX6_copyFrom_39 : decode cX6_copyFrom 39 = .ok (.aload_n 1, 1) := by decide +kernel
theorem dX6_copyFrom_40 : decode cX6_copyFrom 40 = .ok (.getfield 37, 3) := by decide +kernel
theorem dX6_copyFrom_43 : decode cX6_copyFrom 43 = .ok (.putfield 37, 3) := by decide +kernel
theorem dX6_copyFrom_46 : decode cX6_copyFrom 46 = .ok (.aload_n 0, 1) := by decide +kernel
theorem dX6_copyFrom_47 : decode cX6_copyFrom 47 = .ok (.aload_n 1, 1) := by decide +kernel
theorem dX6_copyFrom_48 : decode cX6_copyFrom 48 = .ok (.getfield 40, 3) := by decide +kernel
theorem dX6_copyFrom_51 : decode cX6_copyFrom 51 = .ok (.putfield 40, 3) := by decide +kernel
theorem dX6_copyFrom_54 : decode cX6_copyFrom 54 = .ok (.return_, 1) := by decide +kernel
theorem dX6_moveNetwork_0 : decode cX6_moveNetwork 0 = .ok (.aload_n 0, 1) := by decide +kernel
theorem dX6_moveNetwork_1 : decode cX6_moveNetwork 1 = .ok (.getfield 12, 3) := by decide +kernel
theorem dX6_moveNetwork_4 : decode cX6_moveNetwork 4 = .ok (.iload_n 1, 1) := by decide +kernel
theorem dX6_moveNetwork_5 : decode cX6_moveNetwork 5 = .ok (.aload_n 0, 1) := by decide +kernel
theorem dX6_moveNetwork_6 : decode cX6_moveNetwork 6 = .ok (.getfield 30, 3) := by decide +kernel
theorem dX6_moveNetwork_9 : decode cX6_moveNetwork 9 = .ok (.aload_n 0, 1) := by decide +kernel
theorem dX6_moveNetwork_10 : decode cX6_moveNetwork 10 = .ok (.getfield 37, 3) := by decide +kernel
theorem dX6_moveNetwork_13 : decode cX6_moveNetwork 13 = .ok (.iadd, 1) := by decide +kernel
theorem dX6_moveNetwork_14 : decode cX6_moveNetwork 14 = .ok (.invokevirtual 50, 3) := by decide +kernel
theorem dX6_moveNetwork_17 : decode cX6_moveNetwork 17 = .ok (.aload_n 0, 1) := by decide +kernel
theorem dX6_moveNetwork_18 : decode cX6_moveNetwork 18 = .ok (.getfield 12, 3) := by decide +kernel
theorem dX6_moveNetwork_21 : decode cX6_moveNetwork 21 = .ok (.iload_n 1, 1) := by decide +kernel
theorem dX6_moveNetwork_22 : decode cX6_moveNetwork 22 = .ok (.iload_n 2, 1) := by decide +kernel
theorem dX6_moveNetwork_23 : decode cX6_moveNetwork 23 = .ok (.iload_n 3, 1) := by decide +kernel
theorem dX6_moveNetwork_24 : decode cX6_moveNetwork 24 = .ok (.invokevirtual 54, 3) := by decide +kernel
theorem dX6_moveNetwork_27 : decode cX6_moveNetwork 27 = .ok (.aload_n 0, 1) := by decide +kernel
theorem dX6_moveNetwork_28 : decode cX6_moveNetwork 28 = .ok (.getfield 21, 3) := by decide +kernel
theorem dX6_moveNetwork_31 : decode cX6_moveNetwork 31 = .ok (.iload_n 1, 1) := by decide +kernel
theorem dX6_moveNetwork_32 : decode cX6_moveNetwork 32 = .ok (.invokevirtual 58, 3) := by decide +kernel
theorem dX6_moveNetwork_35 : decode cX6_moveNetwork 35 = .ok (.aload_n 0, 1) := by decide +kernel
theorem dX6_moveNetwork_36 : decode cX6_moveNetwork 36 = .ok (.getfield 37, 3) := by decide +kernel
theorem dX6_moveNetwork_39 : decode cX6_moveNetwork 39 = .ok (.ifCond .ne 9, 3) := by decide +kernel
theorem dX6_moveNetwork_42 : decode cX6_moveNetwork 42 = .ok (.aload_n 0, 1) := by decide +kernel
theorem dX6_moveNetwork_43 : decode cX6_moveNetwork 43 = .ok (.iload_n 1, 1) := by decide +kernel
theorem dX6_moveNetwork_44 : decode cX6_moveNetwork 44 = .ok (.invokevirtual 62, 3) := by decide +kernel
theorem dX6_moveNetwork_47 : decode cX6_moveNetwork 47 = .ok (.pop, 1) := by decide +kernel
theorem dX6_moveNetwork_48 : decode cX6_moveNetwork 48 = .ok (.return_, 1) := by decide +kernel
theorem dX6_giveUpOld_0 : decode cX6_giveUpOld 0 = .ok (.aload_n 0, 1) := by decide +kernel
theorem dX6_giveUpOld_1 : decode cX6_giveUpOld 1 = .ok (.getfield 21, 3) := by decide +kernel
theorem dX6_giveUpOld_4 : decode cX6_giveUpOld 4 = .ok (.iload_n 1, 1) := by decide +kernel
theorem dX6_giveUpOld_5 : decode cX6_giveUpOld 5 = .ok (.invokevirtual 66, 3) := by decide +kernel
theorem dX6_giveUpOld_8 : decode cX6_giveUpOld 8 = .ok (.istore_n 2, 1) := by decide +kernel
theorem dX6_giveUpOld_9 : decode cX6_giveUpOld 9 = .ok (.aload_n 0, 1) := by decide +kernel
theorem dX6_giveUpOld_10 : decode cX6_giveUpOld 10 = .ok (.getfield 12, 3) := by decide +kernel
theorem dX6_giveUpOld_13 : decode cX6_giveUpOld 13 = .ok (.iload_n 1, 1) := by decide +kernel
theorem dX6_giveUpOld_14 : decode cX6_giveUpOld 14 = .ok (.invokevirtual 69, 3) := by decide +kernel
theorem dX6_giveUpOld_17 : decode cX6_giveUpOld 17 = .ok (.aload_n 0, 1) := by decide +kernel
theorem dX6_giveUpOld_18 : decode cX6_giveUpOld 18 = .ok (.dup, 1) := by decide +kernel
theorem dX6_giveUpOld_19 : decode cX6_giveUpOld 19 = .ok (.getfield 40, 3) := by decide +kernel
theorem dX6_giveUpOld_22 : decode cX6_giveUpOld 22 = .ok (.iload_n 2, 1) := by decide +kernel
theorem dX6_giveUpOld_23 : decode cX6_giveUpOld 23 = .ok (.iadd, 1) := by decide +kernel
theorem dX6_giveUpOld_24 : decode cX6_giveUpOld 24 = .ok (.putfield 40, 3) := by decide +kernel
theorem dX6_giveUpOld_27 : decode cX6_giveUpOld 27 = .ok (.iload_n 2, 1) := by decide +kernel
theorem dX6_giveUpOld_28 : decode cX6_giveUpOld 28 = .ok (.ireturn, 1) := by decide +kernel
theorem dX6_advance_0 : decode cX6_advance 0 = .ok (.aload_n 0, 1) := by decide +kernel
theorem dX6_advance_1 : decode cX6_advance 1 = .ok (.dup, 1) := by decide +kernel
theorem dX6_advance_2 : decode cX6_advance 2 = .ok (.getfield 30, 3) := by decide +kernel
theorem dX6_advance_5 : decode cX6_advance 5 = .ok (.iload_n 1, 1) := by decide +kernel
theorem dX6_advance_6 : decode cX6_advance 6 = .ok (.iadd, 1) := by decide +kernel
theorem dX6_advance_7 : decode cX6_advance 7 = .ok (.putfield 30, 3) := by decide +kernel
theorem dX6_advance_10 : decode cX6_advance 10 = .ok (.aload_n 0, 1) := by decide +kernel
theorem dX6_advance_11 : decode cX6_advance 11 = .ok (.getfield 21, 3) := by decide +kernel
theorem dX6_advance_14 : decode cX6_advance 14 = .ok (.aload_n 0, 1) := by decide +kernel
theorem dX6_advance_15 : decode cX6_advance 15 = .ok (.getfield 30, 3) := by decide +kernel
theorem dX6_advance_18 : decode cX6_advance 18 = .ok (.invokevirtual 72, 3) := by decide +kernel
theorem dX6_advance_21 : decode cX6_advance 21 = .ok (.istore_n 2, 1) := by decide +kernel
theorem dX6_advance_22 : decode cX6_advance 22 = .ok (.iconst 0, 1) := by decide +kernel
theorem dX6_advance_23 : decode cX6_advance 23 = .ok (.istore_n 3, 1) := by decide +kernel
theorem dX6_advance_24 : decode cX6_advance 24 = .ok (.iload_n 3, 1) := by decide +kernel
theorem dX6_advance_25 : decode cX6_advance 25 = .ok (.bipush 12, 2) := by decide +kernel
theorem dX6_advance_27 : decode cX6_advance 27 = .ok (.if_icmp .ge 44, 3) := by decide +kernel
theorem dX6_advance_30 : decode cX6_advance 30 = .ok (.aload_n 0, 1) := by decide +kernel
theorem dX6_advance_31 : decode cX6_advance 31 = .ok (.getfield 12, 3) := by decide +kernel
theorem dX6_advance_34 : decode cX6_advance 34 = .ok (.iload_n 3, 1) := by decide +kernel
theorem dX6_advance_35 : decode cX6_advance 35 = .ok (.invokevirtual 75, 3) := by decide +kernel
theorem dX6_advance_38 : decode cX6_advance 38 = .ok (.ifCond .eq 27, 3) := by decide +kernel
theorem dX6_advance_41 : decode cX6_advance 41 = .ok (.aload_n 0, 1) := by decide +kernel
theorem dX6_advance_42 : decode cX6_advance 42 = .ok (.getfield 12, 3) := by decide +kernel
theorem dX6_advance_45 : decode cX6_advance 45 = .ok (.getfield 79, 3) := by decide +kernel
theorem dX6_advance_48 : decode cX6_advance 48 = .ok (.iload_n 3, 1) := by decide +kernel
theorem dX6_advance_49 : decode cX6_advance 49 = .ok (.iaload, 1) := by decide +kernel
theorem dX6_advance_50 : decode cX6_advance 50 = .ok (.aload_n 0, 1) := by decide +kernel
theorem dX6_advance_51 : decode cX6_advance 51 = .ok (.getfield 30, 3) := by decide +kernel
theorem dX6_advance_54 : decode cX6_advance 54 = .ok (.if_icmp .gt 11, 3) := by decide +kernel
theorem dX6_advance_57 : decode cX6_advance 57 = .ok (.iload_n 2, 1) := by decide +kernel
theorem dX6_advance_58 : decode cX6_advance 58 = .ok (.aload_n 0, 1) := by decide +kernel
theorem dX6_advance_59 : decode cX6_advance 59 = .ok (.iload_n 3, 1) := by decide +kernel
theorem dX6_advance_60 : decode cX6_advance 60 = .ok (.invokevirtual 62, 3) := by decide +kernel
theorem dX6_advance_63 : decode cX6_advance 63 = .ok (.iadd, 1) := by decide +kernel
theorem dX6_advance_64 : decode cX6_advance 64 = .ok (.istore_n 2, 1) := by decide +kernel
theorem dX6_advance_65 : decode cX6_advance 65 = .ok (.iinc 3 1, 3) := by decide +kernel
theorem dX6_advance_68 : decode cX6_advance 68 = .ok (.goto (-44), 3) := by decide +kernel
theorem dX6_advance_71 : decode cX6_advance 71 = .ok (.iload_n 2, 1) := by decide +kernel
theorem dX6_advance_72 : decode cX6_advance 72 = .ok (.ireturn, 1) := by decide +kernel
theorem dX6_addressFor_0 : decode cX6_addressFor 0 = .ok (.aload_n 0, 1) := by decide +kernel
theorem dX6_addressFor_1 : decode cX6_addressFor 1 = .ok (.getfield 21, 3) := by decide +kernel
theorem dX6_addressFor_4 : decode cX6_addressFor 4 = .ok (.getfield 83, 3) := by decide +kernel
theorem dX6_addressFor_7 : decode cX6_addressFor 7 = .ok (.iload_n 1, 1) := by decide +kernel
theorem dX6_addressFor_8 : decode cX6_addressFor 8 = .ok (.iaload, 1) := by decide +kernel
theorem dX6_addressFor_9 : decode cX6_addressFor 9 = .ok (.iconst (-1), 1) := by decide +kernel
theorem dX6_addressFor_10 : decode cX6_addressFor 10 = .ok (.if_icmp .eq 13, 3) := by decide +kernel
theorem dX6_addressFor_13 : decode cX6_addressFor 13 = .ok (.aload_n 0, 1) := by decide +kernel
theorem dX6_addressFor_14 : decode cX6_addressFor 14 = .ok (.getfield 21, 3) := by decide +kernel
theorem dX6_addressFor_17 : decode cX6_addressFor 17 = .ok (.getfield 83, 3) := by decide +kernel
theorem dX6_addressFor_20 : decode cX6_addressFor 20 = .ok (.iload_n 1, 1) := by decide +kernel
theorem dX6_addressFor_21 : decode cX6_addressFor 21 = .ok (.iaload, 1) := by decide +kernel
theorem dX6_addressFor_22 : decode cX6_addressFor 22 = .ok (.ireturn, 1) := by decide +kernel
theorem dX6_addressFor_23 : decode cX6_addressFor 23 = .ok (.aload_n 0, 1) := by decide +kernel
theorem dX6_addressFor_24 : decode cX6_addressFor 24 = .ok (.getfield 21, 3) := by decide +kernel
theorem dX6_addressFor_27 : decode cX6_addressFor 27 = .ok (.iload_n 1, 1) := by decide +kernel
theorem dX6_addressFor_28 : decode cX6_addressFor 28 = .ok (.invokevirtual 86, 3) := by decide +kernel
theorem dX6_addressFor_31 : decode cX6_addressFor 31 = .ok (.ifCond .eq 13, 3) := by decide +kernel
theorem dX6_addressFor_34 : decode cX6_addressFor 34 = .ok (.aload_n 0, 1) := by decide +kernel
theorem dX6_addressFor_35 : decode cX6_addressFor 35 = .ok (.getfield 21, 3) := by decide +kernel
theorem dX6_addressFor_38 : decode cX6_addressFor 38 = .ok (.getfield 89, 3) := by decide +kernel
theorem dX6_addressFor_41 : decode cX6_addressFor 41 = .ok (.iload_n 1, 1) := by decide +kernel
theorem dX6_addressFor_42 : decode cX6_addressFor 42 = .ok (.iaload, 1) := by decide +kernel
theorem dX6_addressFor_43 : decode cX6_addressFor 43 = .ok (.ireturn, 1) := by decide +kernel
theorem dX6_addressFor_44 : decode cX6_addressFor 44 = .ok (.aload_n 0, 1) := by decide +kernel
theorem dX6_addressFor_45 : decode cX6_addressFor 45 = .ok (.getfield 21, 3) := by decide +kernel
theorem dX6_addressFor_48 : decode cX6_addressFor 48 = .ok (.getfield 92, 3) := by decide +kernel
theorem dX6_addressFor_51 : decode cX6_addressFor 51 = .ok (.iload_n 1, 1) := by decide +kernel
theorem dX6_addressFor_52 : decode cX6_addressFor 52 = .ok (.iaload, 1) := by decide +kernel
theorem dX6_addressFor_53 : decode cX6_addressFor 53 = .ok (.istore_n 2, 1) := by decide +kernel
theorem dX6_addressFor_54 : decode cX6_addressFor 54 = .ok (.aload_n 0, 1) := by decide +kernel
theorem dX6_addressFor_55 : decode cX6_addressFor 55 = .ok (.getfield 12, 3) := by decide +kernel
theorem dX6_addressFor_58 : decode cX6_addressFor 58 = .ok (.iload_n 2, 1) := by decide +kernel
theorem dX6_addressFor_59 : decode cX6_addressFor 59 = .ok (.invokevirtual 95, 3) := by decide +kernel
theorem dX6_addressFor_62 : decode cX6_addressFor 62 = .ok (.ifCond .ne 5, 3) := by decide +kernel
theorem dX6_addressFor_65 : decode cX6_addressFor 65 = .ok (.iconst (-1), 1) := by decide +kernel
theorem dX6_addressFor_66 : decode cX6_addressFor 66 = .ok (.ireturn, 1) := by decide +kernel
theorem dX6_addressFor_67 : decode cX6_addressFor 67 = .ok (.aload_n 0, 1) := by decide +kernel
theorem dX6_addressFor_68 : decode cX6_addressFor 68 = .ok (.iload_n 1, 1) := by decide +kernel
theorem dX6_addressFor_69 : decode cX6_addressFor 69 = .ok (.iload_n 2, 1) := by decide +kernel
theorem dX6_addressFor_70 : decode cX6_addressFor 70 = .ok (.invokevirtual 98, 3) := by decide +kernel
theorem dX6_addressFor_73 : decode cX6_addressFor 73 = .ok (.istore_n 3, 1) := by decide +kernel
theorem dX6_addressFor_74 : decode cX6_addressFor 74 = .ok (.iload_n 3, 1) := by decide +kernel
theorem dX6_addressFor_75 : decode cX6_addressFor 75 = .ok (.iconst (-1), 1) := by decide +kernel
theorem dX6_addressFor_76 : decode cX6_addressFor 76 = .ok (.if_icmp .eq 7, 3) := by decide +kernel
theorem dX6_addressFor_79 : decode cX6_addressFor 79 = .ok (.iload_n 3, 1) := by decide +kernel
theorem dX6_addressFor_80 : decode cX6_addressFor 80 = .ok (.goto 28, 3) := by decide +kernel
theorem dX6_addressFor_83 : decode cX6_addressFor 83 = .ok (.aload_n 0, 1) := by decide +kernel
theorem dX6_addressFor_84 : decode cX6_addressFor 84 = .ok (.getfield 21, 3) := by decide +kernel
theorem dX6_addressFor_87 : decode cX6_addressFor 87 = .ok (.aload_n 0, 1) := by decide +kernel
theorem dX6_addressFor_88 : decode cX6_addressFor 88 = .ok (.getfield 12, 3) := by decide +kernel
theorem dX6_addressFor_91 : decode cX6_addressFor 91 = .ok (.getfield 102, 3) := by decide +kernel
theorem dX6_addressFor_94 : decode cX6_addressFor 94 = .ok (.iload_n 2, 1) := by decide +kernel
theorem dX6_addressFor_95 : decode cX6_addressFor 95 = .ok (.iaload, 1) := by decide +kernel
theorem dX6_addressFor_96 : decode cX6_addressFor 96 = .ok (.aload_n 0, 1) := by decide +kernel
theorem dX6_addressFor_97 : decode cX6_addressFor 97 = .ok (.getfield 12, 3) := by decide +kernel
theorem dX6_addressFor_100 : decode cX6_addressFor 100 = .ok (.getfield 105, 3) := by decide +kernel
theorem dX6_addressFor_103 : decode cX6_addressFor 103 = .ok (.iload_n 2, 1) := by decide +kernel
theorem dX6_addressFor_104 : decode cX6_addressFor 104 = .ok (.iaload, 1) := by decide +kernel
theorem dX6_addressFor_105 : decode cX6_addressFor 105 = .ok (.invokevirtual 108, 3) := by decide +kernel
theorem dX6_addressFor_108 : decode cX6_addressFor 108 = .ok (.ireturn, 1) := by decide +kernel
theorem dX6_sameDistance_0 : decode cX6_sameDistance 0 = .ok (.aload_n 0, 1) := by decide +kernel
theorem dX6_sameDistance_1 : decode cX6_sameDistance 1 = .ok (.getfield 21, 3) := by decide +kernel
theorem dX6_sameDistance_4 : decode cX6_sameDistance 4 = .ok (.getfield 89, 3) := by decide +kernel
theorem dX6_sameDistance_7 : decode cX6_sameDistance 7 = .ok (.iload_n 1, 1) := by decide +kernel
theorem dX6_sameDistance_8 : decode cX6_sameDistance 8 = .ok (.iaload, 1) := by decide +kernel
theorem dX6_sameDistance_9 : decode cX6_sameDistance 9 = .ok (.iconst (-1), 1) := by decide +kernel
theorem dX6_sameDistance_10 : decode cX6_sameDistance 10 = .ok (.if_icmp .eq 14, 3) := by decide +kernel
theorem dX6_sameDistance_13 : decode cX6_sameDistance 13 = .ok (.aload_n 0, 1) := by decide +kernel
theorem dX6_sameDistance_14 : decode cX6_sameDistance 14 = .ok (.getfield 12, 3) := by decide +kernel
theorem dX6_sameDistance_17 : decode cX6_sameDistance 17 = .ok (.iload_n 2, 1) := by decide +kernel
theorem dX6_sameDistance_18 : decode cX6_sameDistance 18 = .ok (.invokevirtual 75, 3) := by decide +kernel
theorem dX6_sameDistance_21 : decode cX6_sameDistance 21 = .ok (.ifCond .ne 5, 3) := by decide +kernel
theorem dX6_sameDistance_24 : decode cX6_sameDistance 24 = .ok (.iconst (-1), 1) := by decide +kernel
theorem dX6_sameDistance_25 : decode cX6_sameDistance 25 = .ok (.ireturn, 1) := by decide +kernel
theorem dX6_sameDistance_26 : decode cX6_sameDistance 26 = .ok (.aload_n 0, 1) := by decide +kernel
theorem dX6_sameDistance_27 : decode cX6_sameDistance 27 = .ok (.getfield 21, 3) := by decide +kernel
theorem dX6_sameDistance_30 : decode cX6_sameDistance 30 = .ok (.getfield 89, 3) := by decide +kernel
theorem dX6_sameDistance_33 : decode cX6_sameDistance 33 = .ok (.iload_n 1, 1) := by decide +kernel
theorem dX6_sameDistance_34 : decode cX6_sameDistance 34 = .ok (.iaload, 1) := by decide +kernel
theorem dX6_sameDistance_35 : decode cX6_sameDistance 35 = .ok (.aload_n 0, 1) := by decide +kernel
theorem dX6_sameDistance_36 : decode cX6_sameDistance 36 = .ok (.getfield 12, 3) := by decide +kernel
theorem dX6_sameDistance_39 : decode cX6_sameDistance 39 = .ok (.getfield 111, 3) := by decide +kernel
theorem dX6_sameDistance_42 : decode cX6_sameDistance 42 = .ok (.iload_n 2, 1) := by decide +kernel
theorem dX6_sameDistance_43 : decode cX6_sameDistance 43 = .ok (.iaload, 1) := by decide +kernel
theorem dX6_sameDistance_44 : decode cX6_sameDistance 44 = .ok (.isub, 1) := by decide +kernel
theorem dX6_sameDistance_45 : decode cX6_sameDistance 45 = .ok (.istore_n 3, 1) := by decide +kernel
theorem dX6_sameDistance_46 : decode cX6_sameDistance 46 = .ok (.aload_n 0, 1) := by decide +kernel
theorem dX6_sameDistance_47 : decode cX6_sameDistance 47 = .ok (.getfield 12, 3) := by decide +kernel
theorem dX6_sameDistance_50 : decode cX6_sameDistance 50 = .ok (.getfield 102, 3) := by decide +kernel
theorem dX6_sameDistance_53 : decode cX6_sameDistance 53 = .ok (.iload_n 2, 1) := by decide +kernel
theorem dX6_sameDistance_54 : decode cX6_sameDistance 54 = .ok (.iaload, 1) := by decide +kernel
theorem dX6_sameDistance_55 : decode cX6_sameDistance 55 = .ok (.iload_n 3, 1) := by decide +kernel
theorem dX6_sameDistance_56 : decode cX6_sameDistance 56 = .ok (.iadd, 1) := by decide +kernel
theorem dX6_sameDistance_57 : decode cX6_sameDistance 57 = .ok (.istore 4, 2) := by decide +kernel
theorem dX6_sameDistance_59 : decode cX6_sameDistance 59 = .ok (.aload_n 0, 1) := by decide +kernel
theorem dX6_sameDistance_60 : decode cX6_sameDistance 60 = .ok (.getfield 12, 3) := by decide +kernel
theorem dX6_sameDistance_63 : decode cX6_sameDistance 63 = .ok (.getfield 102, 3) := by decide +kernel
theorem dX6_sameDistance_66 : decode cX6_sameDistance 66 = .ok (.iload_n 2, 1) := by decide +kernel
theorem dX6_sameDistance_67 : decode cX6_sameDistance 67 = .ok (.iaload, 1) := by decide +kernel
theorem dX6_sameDistance_68 : decode cX6_sameDistance 68 = .ok (.aload_n 0, 1) := by decide +kernel
theorem dX6_sameDistance_69 : decode cX6_sameDistance 69 = .ok (.getfield 12, 3) := by decide +kernel
theorem dX6_sameDistance_72 : decode cX6_sameDistance 72 = .ok (.getfield 105, 3) := by decide +kernel
theorem dX6_sameDistance_75 : decode cX6_sameDistance 75 = .ok (.iload_n 2, 1) := by decide +kernel
theorem dX6_sameDistance_76 : decode cX6_sameDistance 76 = .ok (.iaload, 1) := by decide +kernel
theorem dX6_sameDistance_77 : decode cX6_sameDistance 77 = .ok (.iload 4, 2) := by decide +kernel
theorem dX6_sameDistance_79 : decode cX6_sameDistance 79 = .ok (.invokestatic 114, 3) := by decide +kernel
theorem dX6_sameDistance_82 : decode cX6_sameDistance 82 = .ok (.ifCond .eq 20, 3) := by decide +kernel
theorem dX6_sameDistance_85 : decode cX6_sameDistance 85 = .ok (.aload_n 0, 1) := by decide +kernel
theorem dX6_sameDistance_86 : decode cX6_sameDistance 86 = .ok (.getfield 21, 3) := by decide +kernel
theorem dX6_sameDistance_89 : decode cX6_sameDistance 89 = .ok (.iload 4, 2) := by decide +kernel
theorem dX6_sameDistance_91 : decode cX6_sameDistance 91 = .ok (.invokevirtual 118, 3) := by decide +kernel
theorem dX6_sameDistance_94 : decode cX6_sameDistance 94 = .ok (.iconst (-1), 1) := by decide +kernel
theorem dX6_sameDistance_95 : decode cX6_sameDistance 95 = .ok (.if_icmp .ne 7, 3) := by decide +kernel
theorem dX6_sameDistance_98 : decode cX6_sameDistance 98 = .ok (.iconst 1, 1) := by decide +kernel
theorem dX6_sameDistance_99 : decode cX6_sameDistance 99 = .ok (.goto 4, 3) := by decide +kernel
theorem dX6_sameDistance_102 : decode cX6_sameDistance 102 = .ok (.iconst 0, 1) := by decide +kernel
theorem dX6_sameDistance_103 : decode cX6_sameDistance 103 = .ok (.istore 5, 2) := by decide +kernel
theorem dX6_sameDistance_105 : decode cX6_sameDistance 105 = .ok (.iload 5, 2) := by decide +kernel
theorem dX6_sameDistance_107 : decode cX6_sameDistance 107 = .ok (.ifCond .eq 8, 3) := by decide +kernel
theorem dX6_sameDistance_110 : decode cX6_sameDistance 110 = .ok (.iload 4, 2) := by decide +kernel
theorem dX6_sameDistance_112 : decode cX6_sameDistance 112 = .ok (.goto 4, 3) := by decide +kernel
theorem dX6_sameDistance_115 : decode cX6_sameDistance 115 = .ok (.iconst (-1), 1) := by decide +kernel
theorem dX6_sameDistance_116 : decode cX6_sameDistance 116 = .ok (.ireturn, 1) := by decide +kernel
theorem dX6_grant_0 : decode cX6_grant 0 = .ok (.aload_n 0, 1) := by decide +kernel
theorem dX6_grant_1 : decode cX6_grant 1 = .ok (.getfield 30, 3) := by decide +kernel
theorem dX6_grant_4 : decode cX6_grant 4 = .ok (.aload_n 0, 1) := by decide +kernel
theorem dX6_grant_5 : decode cX6_grant 5 = .ok (.getfield 34, 3) := by decide +kernel
theorem dX6_grant_8 : decode cX6_grant 8 = .ok (.iadd, 1) := by decide +kernel
theorem dX6_grant_9 : decode cX6_grant 9 = .ok (.istore_n 3, 1) := by decide +kernel
theorem dX6_grant_10 : decode cX6_grant 10 = .ok (.aload_n 0, 1) := by decide +kernel
theorem dX6_grant_11 : decode cX6_grant 11 = .ok (.getfield 21, 3) := by decide +kernel
theorem dX6_grant_14 : decode cX6_grant 14 = .ok (.getfield 92, 3) := by decide +kernel
theorem dX6_grant_17 : decode cX6_grant 17 = .ok (.iload_n 1, 1) := by decide +kernel
theorem dX6_grant_18 : decode cX6_grant 18 = .ok (.iaload, 1) := by decide +kernel
theorem dX6_grant_19 : decode cX6_grant 19 = .ok (.istore 4, 2) := by decide +kernel
theorem dX6_grant_21 : decode cX6_grant 21 = .ok (.aload_n 0, 1) := by decide +kernel
theorem dX6_grant_22 : decode cX6_grant 22 = .ok (.getfield 21, 3) := by decide +kernel
theorem dX6_grant_25 : decode cX6_grant 25 = .ok (.iload_n 1, 1) := by decide +kernel
theorem dX6_grant_26 : decode cX6_grant 26 = .ok (.invokevirtual 86, 3) := by decide +kernel
theorem dX6_grant_29 : decode cX6_grant 29 = .ok (.ifCond .eq 41, 3) := by decide +kernel
theorem dX6_grant_32 : decode cX6_grant 32 = .ok (.aload_n 0, 1) := by decide +kernel
theorem dX6_grant_33 : decode cX6_grant 33 = .ok (.getfield 12, 3) := by decide +kernel
theorem dX6_grant_36 : decode cX6_grant 36 = .ok (.iload 4, 2) := by decide +kernel
theorem dX6_grant_38 : decode cX6_grant 38 = .ok (.invokevirtual 75, 3) := by decide +kernel
theorem dX6_grant_41 : decode cX6_grant 41 = .ok (.ifCond .eq 29, 3) := by decide +kernel
theorem dX6_grant_44 : decode cX6_grant 44 = .ok (.aload_n 0, 1) := by decide +kernel
theorem dX6_grant_45 : decode cX6_grant 45 = .ok (.getfield 21, 3) := by decide +kernel
theorem dX6_grant_48 : decode cX6_grant 48 = .ok (.getfield 121, 3) := by decide +kernel
theorem dX6_grant_51 : decode cX6_grant 51 = .ok (.iload_n 1, 1) := by decide +kernel
theorem dX6_grant_52 : decode cX6_grant 52 = .ok (.iload_n 3, 1) := by decide +kernel
theorem dX6_grant_53 : decode cX6_grant 53 = .ok (.aload_n 0, 1) := by decide +kernel
theorem dX6_grant_54 : decode cX6_grant 54 = .ok (.getfield 12, 3) := by decide +kernel
theorem dX6_grant_57 : decode cX6_grant 57 = .ok (.getfield 79, 3) := by decide +kernel
theorem dX6_grant_60 : decode cX6_grant 60 = .ok (.iload 4, 2) := by decide +kernel
theorem dX6_grant_62 : decode cX6_grant 62 = .ok (.iaload, 1) := by decide +kernel
theorem dX6_grant_63 : decode cX6_grant 63 = .ok (.invokestatic 124, 3) := by decide +kernel
theorem dX6_grant_66 : decode cX6_grant 66 = .ok (.iastore, 1) := by decide +kernel
theorem dX6_grant_67 : decode cX6_grant 67 = .ok (.goto 23, 3) := by decide +kernel
theorem dX6_grant_70 : decode cX6_grant 70 = .ok (.aload_n 0, 1) := by decide +kernel
theorem dX6_grant_71 : decode cX6_grant 71 = .ok (.getfield 21, 3) := by decide +kernel
theorem dX6_grant_74 : decode cX6_grant 74 = .ok (.getfield 83, 3) := by decide +kernel
theorem dX6_grant_77 : decode cX6_grant 77 = .ok (.iload_n 1, 1) := by decide +kernel
theorem dX6_grant_78 : decode cX6_grant 78 = .ok (.iload_n 2, 1) := by decide +kernel
theorem dX6_grant_79 : decode cX6_grant 79 = .ok (.iastore, 1) := by decide +kernel
theorem dX6_grant_80 : decode cX6_grant 80 = .ok (.aload_n 0, 1) := by decide +kernel
theorem dX6_grant_81 : decode cX6_grant 81 = .ok (.getfield 21, 3) := by decide +kernel
theorem dX6_grant_84 : decode cX6_grant 84 = .ok (.getfield 129, 3) := by decide +kernel
theorem dX6_grant_87 : decode cX6_grant 87 = .ok (.iload_n 1, 1) := by decide +kernel
theorem dX6_grant_88 : decode cX6_grant 88 = .ok (.iload_n 3, 1) := by decide +kernel
theorem dX6_grant_89 : decode cX6_grant 89 = .ok (.iastore, 1) := by decide +kernel
theorem dX6_grant_90 : decode cX6_grant 90 = .ok (.return_, 1) := by decide +kernel
theorem dX7_init_0 : decode cX7_init 0 = .ok (.aload_n 0, 1) := by decide +kernel
theorem dX7_init_1 : decode cX7_init 1 = .ok (.invokespecial 3, 3) := by decide +kernel
theorem dX7_init_4 : decode cX7_init 4 = .ok (.aload_n 0, 1) := by decide +kernel
theorem dX7_init_5 : decode cX7_init 5 = .ok (.bipush 24, 2) := by decide +kernel
theorem dX7_init_7 : decode cX7_init 7 = .ok (.newarray .int, 2) := by decide +kernel
theorem dX7_init_9 : decode cX7_init 9 = .ok (.putfield 9, 3) := by decide +kernel
theorem dX7_init_12 : decode cX7_init 12 = .ok (.aload_n 0, 1) := by decide +kernel
theorem dX7_init_13 : decode cX7_init 13 = .ok (.bipush 24, 2) := by decide +kernel
theorem dX7_init_15 : decode cX7_init 15 = .ok (.newarray .int, 2) := by decide +kernel
theorem dX7_init_17 : decode cX7_init 17 = .ok (.putfield 15, 3) := by decide +kernel
theorem dX7_init_20 : decode cX7_init 20 = .ok (.aload_n 0, 1) := by decide +kernel
theorem dX7_init_21 : decode cX7_init 21 = .ok (.new 18, 3) := by decide +kernel
theorem dX7_init_24 : decode cX7_init 24 = .ok (.dup, 1) := by decide +kernel
theorem dX7_init_25 : decode cX7_init 25 = .ok (.invokespecial 20, 3) := by decide +kernel
theorem dX7_init_28 : decode cX7_init 28 = .ok (.putfield 21, 3) := by decide +kernel
theorem dX7_init_31 : decode cX7_init 31 = .ok (.return_, 1) := by decide +kernel
theorem dX7_take_0 : decode cX7_take 0 = .ok (.aload_n 0, 1) := by decide +kernel
theorem dX7_take_1 : decode cX7_take 1 = .ok (.aload_n 1, 1) := by decide +kernel
theorem dX7_take_2 : decode cX7_take 2 = .ok (.invokevirtual 25, 3) := by decide +kernel
theorem dX7_take_5 : decode cX7_take 5 = .ok (.aload_n 0, 1) := by decide +kernel
theorem dX7_take_6 : decode cX7_take 6 = .ok (.getfield 21, 3) := by decide +kernel
theorem dX7_take_9 : decode cX7_take 9 = .ok (.iconst 0, 1) := by decide +kernel
theorem dX7_take_10 : decode cX7_take 10 = .ok (.putfield 29, 3) := by decide +kernel
theorem dX7_take_13 : decode cX7_take 13 = .ok (.iconst 0, 1) := by decide +kernel
theorem dX7_take_14 : decode cX7_take 14 = .ok (.istore_n 2, 1) := by decide +kernel
theorem dX7_take_15 : decode cX7_take 15 = .ok (.iload_n 2, 1) := by decide +kernel
theorem dX7_take_16 : decode cX7_take 16 = .ok (.iconst 4, 1) := by decide +kernel
theorem dX7_take_17 : decode cX7_take 17 = .ok (.if_icmp .ge 40, 3) := by decide +kernel
theorem dX7_take_20 : decode cX7_take 20 = .ok (.iload_n 2, 1) := by decide +kernel
theorem dX7_take_21 : decode cX7_take 21 = .ok (.aload_n 1, 1) := by decide +kernel
theorem dX7_take_22 : decode cX7_take 22 = .ok (.getfield 33, 3) := by decide +kernel
theorem dX7_take_25 : decode cX7_take 25 = .ok (.if_icmp .ge 32, 3) := by decide +kernel
theorem dX7_take_28 : decode cX7_take 28 = .ok (.aload_n 1, 1) := by decide +kernel
theorem dX7_take_29 : decode cX7_take 29 = .ok (.getfield 38, 3) := by decide +kernel
theorem dX7_take_32 : decode cX7_take 32 = .ok (.iload_n 2, 1) := by decide +kernel
theorem dX7_take_33 : decode cX7_take 33 = .ok (.iaload, 1) := by decide +kernel
theorem dX7_take_34 : decode cX7_take 34 = .ok (.istore_n 3, 1) := by decide +kernel
theorem dX7_take_35 : decode cX7_take 35 = .ok (.aload_n 0, 1) := by decide +kernel
theorem dX7_take_36 : decode cX7_take 36 = .ok (.iload_n 3, 1) := by decide +kernel
theorem dX7_take_37 : decode cX7_take 37 = .ok (.iload_n 3, 1) := by decide +kernel
theorem dX7_take_38 : decode cX7_take 38 = .ok (.aload_n 1, 1) := by decide +kernel
theorem dX7_take_39 : decode cX7_take 39 = .ok (.getfield 41, 3) := by decide +kernel
theorem dX7_take_42 : decode cX7_take 42 = .ok (.iload_n 2, 1) := by decide +kernel
theorem dX7_take_43 : decode cX7_take 43 = .ok (.iaload, 1) := by decide +kernel
theorem dX7_take_44 : decode cX7_take 44 = .ok (.invokestatic 44, 3) := by decide +kernel
theorem dX7_take_47 : decode cX7_take 47 = .ok (.iadd, 1) := by decide +kernel
theorem dX7_take_48 : decode cX7_take 48 = .ok (.invokevirtual 48, 3) := by decide +kernel
theorem dX7_take_51 : decode cX7_take 51 = .ok (.iinc 2 1, 3) := by decide +kernel
theorem dX7_take_54 : decode cX7_take 54 = .ok (.goto (-39), 3) := by decide +kernel
theorem dX7_take_57 : decode cX7_take 57 = .ok (.return_, 1) := by decide +kernel
theorem dX7_place_0 : decode cX7_place 0 = .ok (.aload_n 0, 1) := by decide +kernel
theorem dX7_place_1 : decode cX7_place 1 = .ok (.aload_n 1, 1) := by decide +kernel
theorem dX7_place_2 : decode cX7_place 2 = .ok (.invokevirtual 52, 3) := by decide +kernel
theorem dX7_place_5 : decode cX7_place 5 = .ok (.aload_n 0, 1) := by decide +kernel
theorem dX7_place_6 : decode cX7_place 6 = .ok (.getfield 21, 3) := by decide +kernel
theorem dX7_place_9 : decode cX7_place 9 = .ok (.aload_n 1, 1) := by decide +kernel
theorem dX7_place_10 : decode cX7_place 10 = .ok (.getfield 55, 3) := by decide +kernel
theorem dX7_place_13 : decode cX7_place 13 = .ok (.iload_n 2, 1) := by decide +kernel
theorem dX7_place_14 : decode cX7_place 14 = .ok (.invokevirtual 58, 3) := by decide +kernel
theorem dX7_place_17 : decode cX7_place 17 = .ok (.ireturn, 1) := by decide +kernel
theorem dX7_listRoutes_0 : decode cX7_listRoutes 0 = .ok (.aload_n 0, 1) := by decide +kernel
theorem dX7_listRoutes_1 : decode cX7_listRoutes 1 = .ok (.aload_n 1, 1) := by decide +kernel
theorem dX7_listRoutes_2 : decode cX7_listRoutes 2 = .ok (.invokevirtual 25, 3) := by decide +kernel
theorem dX7_listRoutes_5 : decode cX7_listRoutes 5 = .ok (.aload_n 2, 1) := by decide +kernel
theorem dX7_listRoutes_6 : decode cX7_listRoutes 6 = .ok (.iconst 0, 1) := by decide +kernel
theorem dX7_listRoutes_7 : decode cX7_listRoutes 7 = .ok (.putfield 29, 3) := by decide +kernel
theorem dX7_listRoutes_10 : decode cX7_listRoutes 10 = .ok (.iconst 0, 1) := by decide +kernel
theorem dX7_listRoutes_11 : decode cX7_listRoutes 11 = .ok (.istore_n 3, 1) := by decide +kernel
theorem dX7_listRoutes_12 : decode cX7_listRoutes 12 = .ok (.iconst 0, 1) := by decide +kernel
theorem dX7_listRoutes_13 : decode cX7_listRoutes 13 = .ok (.istore 4, 2) := by decide +kernel
theorem dX7_listRoutes_15 : decode cX7_listRoutes 15 = .ok (.iconst 0, 1) := by decide +kernel
theorem dX7_listRoutes_16 : decode cX7_listRoutes 16 = .ok (.istore 5, 2) := by decide +kernel
theorem dX7_listRoutes_18 : decode cX7_listRoutes 18 = .ok (.iload 5, 2) := by decide +kernel
theorem dX7_listRoutes_20 : decode cX7_listRoutes 20 = .ok (.bipush 24, 2) := by decide +kernel
theorem dX7_listRoutes_22 : decode cX7_listRoutes 22 = .ok (.if_icmp .ge 54, 3) := by decide +kernel
theorem dX7_listRoutes_25 : decode cX7_listRoutes 25 = .ok (.iload 5, 2) := by decide +kernel
theorem dX7_listRoutes_27 : decode cX7_listRoutes 27 = .ok (.aload_n 0, 1) := by decide +kernel
theorem dX7_listRoutes_28 : decode cX7_listRoutes 28 = .ok (.getfield 62, 3) := by decide +kernel
theorem dX7_listRoutes_31 : decode cX7_listRoutes 31 = .ok (.if_icmp .ge 45, 3) := by decide +kernel
theorem dX7_listRoutes_34 : decode cX7_listRoutes 34 = .ok (.aload_n 0, 1) := by decide +kernel
theorem dX7_listRoutes_35 : decode cX7_listRoutes 35 = .ok (.getfield 9, 3) := by decide +kernel
theorem dX7_listRoutes_38 : decode cX7_listRoutes 38 = .ok (.iload 5, 2) := by decide +kernel
theorem dX7_listRoutes_40 : decode cX7_listRoutes 40 = .ok (.iaload, 1) := by decide +kernel
theorem dX7_listRoutes_41 : decode cX7_listRoutes 41 = .ok (.iload 4, 2) := by decide +kernel
theorem dX7_listRoutes_43 : decode cX7_listRoutes 43 = .ok (.if_icmp .eq 18, 3) := by decide +kernel
theorem dX7_listRoutes_46 : decode cX7_listRoutes 46 = .ok (.aload_n 2, 1) := by decide +kernel
theorem dX7_listRoutes_47 : decode cX7_listRoutes 47 = .ok (.iload_n 3, 1) := by decide +kernel
theorem dX7_listRoutes_48 : decode cX7_listRoutes 48 = .ok (.iload 4, 2) := by decide +kernel
theorem dX7_listRoutes_50 : decode cX7_listRoutes 50 = .ok (.invokevirtual 65, 3) := by decide +kernel
theorem dX7_listRoutes_53 : decode cX7_listRoutes 53 = .ok (.aload_n 0, 1) := by decide +kernel
theorem dX7_listRoutes_54 : decode cX7_listRoutes 54 = .ok (.getfield 9, 3) := by decide +kernel
theorem dX7_listRoutes_57 : decode cX7_listRoutes 57 = .ok (.iload 5, 2) := by decide +kernel
theorem dX7_listRoutes_59 : decode cX7_listRoutes 59 = .ok (.iaload, 1) := by decide +kernel
theorem dX7_listRoutes_60 : decode cX7_listRoutes 60 = .ok (.istore_n 3, 1) := by decide +kernel
theorem dX7_listRoutes_61 : decode cX7_listRoutes 61 = .ok (.aload_n 0, 1) := by decide +kernel
theorem dX7_listRoutes_62 : decode cX7_listRoutes 62 = .ok (.getfield 15, 3) := by decide +kernel
theorem dX7_listRoutes_65 : decode cX7_listRoutes 65 = .ok (.iload 5, 2) := by decide +kernel
theorem dX7_listRoutes_67 : decode cX7_listRoutes 67 = .ok (.iaload, 1) := by decide +kernel
theorem dX7_listRoutes_68 : decode cX7_listRoutes 68 = .ok (.istore 4, 2) := by decide +kernel
theorem dX7_listRoutes_70 : decode cX7_listRoutes 70 = .ok (.iinc 5 1, 3) := by decide +kernel
theorem dX7_listRoutes_73 : decode cX7_listRoutes 73 = .ok (.goto (-55), 3) := by decide +kernel
theorem dX7_listRoutes_76 : decode cX7_listRoutes 76 = .ok (.aload_n 2, 1) := by decide +kernel
theorem dX7_listRoutes_77 : decode cX7_listRoutes 77 = .ok (.iload_n 3, 1) := by decide +kernel
theorem dX7_listRoutes_78 : decode cX7_listRoutes 78 = .ok (.iload 4, 2) := by decide +kernel
theorem dX7_listRoutes_80 : decode cX7_listRoutes 80 = .ok (.invokevirtual 65, 3) := by decide +kernel
theorem dX7_listRoutes_83 : decode cX7_listRoutes 83 = .ok (.return_, 1) := by decide +kernel
theorem dX7_listUsed_0 : decode cX7_listUsed 0 = .ok (.aload_n 0, 1) := by decide +kernel
theorem dX7_listUsed_1 : decode cX7_listUsed 1 = .ok (.iconst 0, 1) := by decide +kernel
theorem dX7_listUsed_2 : decode cX7_listUsed 2 = .ok (.putfield 62, 3) := by decide +kernel
theorem dX7_listUsed_5 : decode cX7_listUsed 5 = .ok (.iconst 0, 1) := by decide +kernel
theorem dX7_listUsed_6 : decode cX7_listUsed 6 = .ok (.istore_n 2, 1) := by decide +kernel
theorem dX7_listUsed_7 : decode cX7_listUsed 7 = .ok (.iload_n 2, 1) := by decide +kernel
theorem dX7_listUsed_8 : decode cX7_listUsed 8 = .ok (.bipush 12, 2) := by decide +kernel
theorem dX7_listUsed_10 : decode cX7_listUsed 10 = .ok (.if_icmp .ge 57, 3) := by decide +kernel
theorem dX7_listUsed_13 : decode cX7_listUsed 13 = .ok (.aload_n 1, 1) := by decide +kernel
theorem dX7_listUsed_14 : decode cX7_listUsed 14 = .ok (.iload_n 2, 1) := by decide +kernel
theorem dX7_listUsed_15 : decode cX7_listUsed 15 = .ok (.invokevirtual 68, 3) := by decide +kernel
theorem dX7_listUsed_18 : decode cX7_listUsed 18 = .ok (.ifCond .eq 19, 3) := by decide +kernel
theorem dX7_listUsed_21 : decode cX7_listUsed 21 = .ok (.aload_n 0, 1) := by decide +kernel
theorem dX7_listUsed_22 : decode cX7_listUsed 22 = .ok (.aload_n 1, 1) := by decide +kernel
theorem dX7_listUsed_23 : decode cX7_listUsed 23 = .ok (.getfield 72, 3) := by decide +kernel
theorem dX7_listUsed_26 : decode cX7_listUsed 26 = .ok (.iload_n 2, 1) := by decide +kernel
theorem dX7_listUsed_27 : decode cX7_listUsed 27 = .ok (.iaload, 1) := by decide +kernel
theorem dX7_listUsed_28 : decode cX7_listUsed 28 = .ok (.aload_n 1, 1) := by decide +kernel
theorem dX7_listUsed_29 : decode cX7_listUsed 29 = .ok (.getfield 75, 3) := by decide +kernel
theorem dX7_listUsed_32 : decode cX7_listUsed 32 = .ok (.iload_n 2, 1) := by decide +kernel
theorem dX7_listUsed_33 : decode cX7_listUsed 33 = .ok (.iaload, 1) := by decide +kernel
theorem dX7_listUsed_34 : decode cX7_listUsed 34 = .ok (.invokevirtual 78, 3) := by decide +kernel
theorem dX7_listUsed_37 : decode cX7_listUsed 37 = .ok (.aload_n 1, 1) := by decide +kernel
theorem dX7_listUsed_38 : decode cX7_listUsed 38 = .ok (.iload_n 2, 1) := by decide +kernel
theorem dX7_listUsed_39 : decode cX7_listUsed 39 = .ok (.invokevirtual 81, 3) := by decide +kernel
theorem dX7_listUsed_42 : decode cX7_listUsed 42 = .ok (.ifCond .eq 19, 3) := by decide +kernel
theorem dX7_listUsed_45 : decode cX7_listUsed 45 = .ok (.aload_n 0, 1) := by decide +kernel
theorem dX7_listUsed_46 : decode cX7_listUsed 46 = .ok (.aload_n 1, 1) := by decide +kernel
theorem dX7_listUsed_47 : decode cX7_listUsed 47 = .ok (.getfield 84, 3) := by decide +kernel
theorem dX7_listUsed_50 : decode cX7_listUsed 50 = .ok (.iload_n 2, 1) := by decide +kernel
theorem dX7_listUsed_51 : decode cX7_listUsed 51 = .ok (.iaload, 1) := by decide +kernel
theorem dX7_listUsed_52 : decode cX7_listUsed 52 = .ok (.aload_n 1, 1) := by decide +kernel
theorem dX7_listUsed_53 : decode cX7_listUsed 53 = .ok (.getfield 87, 3) := by decide +kernel
theorem dX7_listUsed_56 : decode cX7_listUsed 56 = .ok (.iload_n 2, 1) := by decide +kernel
theorem dX7_listUsed_57 : decode cX7_listUsed 57 = .ok (.iaload, 1) := by decide +kernel
theorem dX7_listUsed_58 : decode cX7_listUsed 58 = .ok (.invokevirtual 78, 3) := by decide +kernel
theorem dX7_listUsed_61 : decode cX7_listUsed 61 = .ok (.iinc 2 1, 3) := by decide +kernel
theorem dX7_listUsed_64 : decode cX7_listUsed 64 = .ok (.goto (-57), 3) := by decide +kernel
theorem dX7_listUsed_67 : decode cX7_listUsed 67 = .ok (.return_, 1) := by decide +kernel
theorem dX7_insertUsed_0 : decode cX7_insertUsed 0 = .ok (.aload_n 0, 1) := by decide +kernel
theorem dX7_insertUsed_1 : decode cX7_insertUsed 1 = .ok (.getfield 62, 3) := by decide +kernel
theorem dX7_insertUsed_4 : decode cX7_insertUsed 4 = .ok (.ifCond .lt 12, 3) := by decide +kernel
theorem dX7_insertUsed_7 : decode cX7_insertUsed 7 = .ok (.aload_n 0, 1) := by decide +kernel
theorem dX7_insertUsed_8 : decode cX7_insertUsed 8 = .ok (.getfield 62, 3) := by decide +kernel
theorem dX7_insertUsed_11 : decode cX7_insertUsed 11 = .ok (.bipush 24, 2) := by decide +kernel
theorem dX7_insertUsed_13 : decode cX7_insertUsed 13 = .ok (.if_icmp .lt 4, 3) := by decide +kernel
theorem dX7_insertUsed_16 : decode cX7_insertUsed 16 = .ok (.return_, 1) := by decide +kernel
theorem dX7_insertUsed_17 : decode cX7_insertUsed 17 = .ok (.aload_n 0, 1) := by decide +kernel
theorem dX7_insertUsed_18 : decode cX7_insertUsed 18 = .ok (.getfield 62, 3) := by decide +kernel
theorem dX7_insertUsed_21 : decode cX7_insertUsed 21 = .ok (.istore_n 3, 1) := by decide +kernel
theorem dX7_insertUsed_22 : decode cX7_insertUsed 22 = .ok (.iload_n 3, 1) := by decide +kernel
theorem dX7_insertUsed_23 : decode cX7_insertUsed 23 = .ok (.ifCond .le 49, 3) := by decide +kernel
theorem dX7_insertUsed_26 : decode cX7_insertUsed 26 = .ok (.aload_n 0, 1) := by decide +kernel
theorem dX7_insertUsed_27 : decode cX7_insertUsed 27 = .ok (.getfield 9, 3) := by decide +kernel
theorem dX7_insertUsed_30 : decode cX7_insertUsed 30 = .ok (.iload_n 3, 1) := by decide +kernel
theorem dX7_insertUsed_31 : decode cX7_insertUsed 31 = .ok (.iconst 1, 1) := by decide +kernel
theorem dX7_insertUsed_32 : decode cX7_insertUsed 32 = .ok (.isub, 1) := by decide +kernel
theorem dX7_insertUsed_33 : decode cX7_insertUsed 33 = .ok (.iaload, 1) := by decide +kernel
theorem dX7_insertUsed_34 : decode cX7_insertUsed 34 = .ok (.iload_n 1, 1) := by decide +kernel
theorem dX7_insertUsed_35 : decode cX7_insertUsed 35 = .ok (.if_icmp .le 37, 3) := by decide +kernel
theorem dX7_insertUsed_38 : decode cX7_insertUsed 38 = .ok (.aload_n 0, 1) := by decide +kernel
theorem dX7_insertUsed_39 : decode cX7_insertUsed 39 = .ok (.getfield 9, 3) := by decide +kernel
theorem dX7_insertUsed_42 : decode cX7_insertUsed 42 = .ok (.iload_n 3, 1) := by decide +kernel
theorem dX7_insertUsed_43 : decode cX7_insertUsed 43 = .ok (.aload_n 0, 1) := by decide +kernel
theorem dX7_insertUsed_44 : decode cX7_insertUsed 44 = .ok (.getfield 9, 3) := by decide +kernel
theorem dX7_insertUsed_47 : decode cX7_insertUsed 47 = .ok (.iload_n 3, 1) := by decide +kernel
theorem dX7_insertUsed_48 : decode cX7_insertUsed 48 = .ok (.iconst 1, 1) := by decide +kernel
theorem dX7_insertUsed_49 : decode cX7_insertUsed 49 = .ok (.isub, 1) := by decide +kernel
theorem dX7_insertUsed_50 : decode cX7_insertUsed 50 = .ok (.iaload, 1) := by decide +kernel
theorem dX7_insertUsed_51 : decode cX7_insertUsed 51 = .ok (.iastore, 1) := by decide +kernel
theorem dX7_insertUsed_52 : decode cX7_insertUsed 52 = .ok (.aload_n 0, 1) := by decide +kernel
theorem dX7_insertUsed_53 : decode cX7_insertUsed 53 = .ok (.getfield 15, 3) := by decide +kernel
theorem dX7_insertUsed_56 : decode cX7_insertUsed 56 = .ok (.iload_n 3, 1) := by decide +kernel
theorem dX7_insertUsed_57 : decode cX7_insertUsed 57 = .ok (.aload_n 0, 1) := by decide +kernel
theorem dX7_insertUsed_58 : decode cX7_insertUsed 58 = .ok (.getfield 15, 3) := by decide +kernel
theorem dX7_insertUsed_61 : decode cX7_insertUsed 61 = .ok (.iload_n 3, 1) := by decide +kernel
theorem dX7_insertUsed_62 : decode cX7_insertUsed 62 = .ok (.iconst 1, 1) := by decide +kernel
theorem dX7_insertUsed_63 : decode cX7_insertUsed 63 = .ok (.isub, 1) := by decide +kernel
theorem dX7_insertUsed_64 : decode cX7_insertUsed 64 = .ok (.iaload, 1) := by decide +kernel
theorem dX7_insertUsed_65 : decode cX7_insertUsed 65 = .ok (.iastore, 1) := by decide +kernel
theorem dX7_insertUsed_66 : decode cX7_insertUsed 66 = .ok (.iinc 3 (-1), 3) := by decide +kernel
theorem dX7_insertUsed_69 : decode cX7_insertUsed 69 = .ok (.goto (-47), 3) := by decide +kernel
theorem dX7_insertUsed_72 : decode cX7_insertUsed 72 = .ok (.aload_n 0, 1) := by decide +kernel
theorem dX7_insertUsed_73 : decode cX7_insertUsed 73 = .ok (.getfield 9, 3) := by decide +kernel
theorem dX7_insertUsed_76 : decode cX7_insertUsed 76 = .ok (.iload_n 3, 1) := by decide +kernel
theorem dX7_insertUsed_77 : decode cX7_insertUsed 77 = .ok (.iload_n 1, 1) := by decide +kernel
theorem dX7_insertUsed_78 : decode cX7_insertUsed 78 = .ok (.iastore, 1) := by decide +kernel
theorem dX7_insertUsed_79 : decode cX7_insertUsed 79 = .ok (.aload_n 0, 1) := by decide +kernel
theorem dX7_insertUsed_80 : decode cX7_insertUsed 80 = .ok (.getfield 15, 3) := by decide +kernel
theorem dX7_insertUsed_83 : decode cX7_insertUsed 83 = .ok (.iload_n 3, 1) := by decide +kernel
theorem dX7_insertUsed_84 : decode cX7_insertUsed 84 = .ok (.iload_n 1, 1) := by decide +kernel
theorem dX7_insertUsed_85 : decode cX7_insertUsed 85 = .ok (.iload_n 2, 1) := by decide +kernel
theorem dX7_insertUsed_86 : decode cX7_insertUsed 86 = .ok (.invokestatic 44, 3) := by decide +kernel
theorem dX7_insertUsed_89 : decode cX7_insertUsed 89 = .ok (.iadd, 1) := by decide +kernel
theorem dX7_insertUsed_90 : decode cX7_insertUsed 90 = .ok (.iastore, 1) := by decide +kernel
theorem dX7_insertUsed_91 : decode cX7_insertUsed 91 = .ok (.aload_n 0, 1) := by decide +kernel
theorem dX7_insertUsed_92 : decode cX7_insertUsed 92 = .ok (.dup, 1) := by decide +kernel
theorem dX7_insertUsed_93 : decode cX7_insertUsed 93 = .ok (.getfield 62, 3) := by decide +kernel
theorem dX7_insertUsed_96 : decode cX7_insertUsed 96 = .ok (.iconst 1, 1) := by decide +kernel
theorem dX7_insertUsed_97 : decode cX7_insertUsed 97 = .ok (.iadd, 1) := by decide +kernel
theorem dX7_insertUsed_98 : decode cX7_insertUsed 98 = .ok (.putfield 62, 3) := by decide +kernel
theorem dX7_insertUsed_101 : decode cX7_insertUsed 101 = .ok (.return_, 1) := by decide +kernel
theorem dX7_listFree_0 : decode cX7_listFree 0 = .ok (.iload_n 1, 1) := by decide +kernel
theorem dX7_listFree_1 : decode cX7_listFree 1 = .ok (.istore_n 3, 1) := by decide +kernel
theorem dX7_listFree_2 : decode cX7_listFree 2 = .ok (.iconst 0, 1) := by decide +kernel
theorem dX7_listFree_3 : decode cX7_listFree 3 = .ok (.istore 4, 2) := by decide +kernel
theorem dX7_listFree_5 : decode cX7_listFree 5 = .ok (.iload 4, 2) := by decide +kernel
theorem dX7_listFree_7 : decode cX7_listFree 7 = .ok (.bipush 24, 2) := by decide +kernel
theorem dX7_listFree_9 : decode cX7_listFree 9 = .ok (.if_icmp .ge 58, 3) := by decide +kernel
theorem dX7_listFree_12 : decode cX7_listFree 12 = .ok (.iload 4, 2) := by decide +kernel
theorem dX7_listFree_14 : decode cX7_listFree 14 = .ok (.aload_n 0, 1) := by decide +kernel
theorem dX7_listFree_15 : decode cX7_listFree 15 = .ok (.getfield 62, 3) := by decide +kernel
theorem dX7_listFree_18 : decode cX7_listFree 18 = .ok (.if_icmp .ge 49, 3) := by decide +kernel
theorem dX7_listFree_21 : decode cX7_listFree 21 = .ok (.aload_n 0, 1) := by decide +kernel
theorem dX7_listFree_22 : decode cX7_listFree 22 = .ok (.getfield 9, 3) := by decide +kernel
theorem dX7_listFree_25 : decode cX7_listFree 25 = .ok (.iload 4, 2) := by decide +kernel
theorem dX7_listFree_27 : decode cX7_listFree 27 = .ok (.iaload, 1) := by decide +kernel
theorem dX7_listFree_28 : decode cX7_listFree 28 = .ok (.iload_n 1, 1) := by decide +kernel
theorem dX7_listFree_29 : decode cX7_listFree 29 = .ok (.iload_n 2, 1) := by decide +kernel
theorem dX7_listFree_30 : decode cX7_listFree 30 = .ok (.iconst 1, 1) := by decide +kernel
theorem dX7_listFree_31 : decode cX7_listFree 31 = .ok (.isub, 1) := by decide +kernel
theorem dX7_listFree_32 : decode cX7_listFree 32 = .ok (.invokestatic 90, 3) := by decide +kernel
theorem dX7_listFree_35 : decode cX7_listFree 35 = .ok (.ifCond .eq 26, 3) := by decide +kernel
theorem dX7_listFree_38 : decode cX7_listFree 38 = .ok (.aload_n 0, 1) := by decide +kernel
theorem dX7_listFree_39 : decode cX7_listFree 39 = .ok (.getfield 21, 3) := by decide +kernel
theorem dX7_listFree_42 : decode cX7_listFree 42 = .ok (.iload_n 3, 1) := by decide +kernel
theorem dX7_listFree_43 : decode cX7_listFree 43 = .ok (.aload_n 0, 1) := by decide +kernel
theorem dX7_listFree_44 : decode cX7_listFree 44 = .ok (.getfield 9, 3) := by decide +kernel
theorem dX7_listFree_47 : decode cX7_listFree 47 = .ok (.iload 4, 2) := by decide +kernel
theorem dX7_listFree_49 : decode cX7_listFree 49 = .ok (.iaload, 1) := by decide +kernel
theorem dX7_listFree_50 : decode cX7_listFree 50 = .ok (.invokevirtual 65, 3) := by decide +kernel
theorem dX7_listFree_53 : decode cX7_listFree 53 = .ok (.aload_n 0, 1) := by decide +kernel
theorem dX7_listFree_54 : decode cX7_listFree 54 = .ok (.getfield 15, 3) := by decide +kernel
theorem dX7_listFree_57 : decode cX7_listFree 57 = .ok (.iload 4, 2) := by decide +kernel
theorem dX7_listFree_59 : decode cX7_listFree 59 = .ok (.iaload, 1) := by decide +kernel
theorem dX7_listFree_60 : decode cX7_listFree 60 = .ok (.istore_n 3, 1) := by decide +kernel
theorem dX7_listFree_61 : decode cX7_listFree 61 = .ok (.iinc 4 1, 3) := by decide +kernel
theorem dX7_listFree_64 : decode cX7_listFree 64 = .ok (.goto (-59), 3) := by decide +kernel
theorem dX7_listFree_67 : decode cX7_listFree 67 = .ok (.aload_n 0, 1) := by decide +kernel
theorem dX7_listFree_68 : decode cX7_listFree 68 = .ok (.getfield 21, 3) := by decide +kernel
theorem dX7_listFree_71 : decode cX7_listFree 71 = .ok (.iload_n 3, 1) := by decide +kernel
theorem dX7_listFree_72 : decode cX7_listFree 72 = .ok (.iload_n 2, 1) := by decide +kernel
theorem dX7_listFree_73 : decode cX7_listFree 73 = .ok (.invokevirtual 65, 3) := by decide +kernel
theorem dX7_listFree_76 : decode cX7_listFree 76 = .ok (.return_, 1) := by decide +kernel
theorem dX8_init_0 : decode cX8_init 0 = .ok (.aload_n 0, 1) := by decide +kernel
theorem dX8_init_1 : decode cX8_init 1 = .ok (.invokespecial 3, 3) := by decide +kernel
theorem dX8_init_4 : decode cX8_init 4 = .ok (.aload_n 0, 1) := by decide +kernel
theorem dX8_init_5 : decode cX8_init 5 = .ok (.sipush 150, 3) := by decide +kernel
theorem dX8_init_8 : decode cX8_init 8 = .ok (.newarray .char, 2) := by decide +kernel
theorem dX8_init_10 : decode cX8_init 10 = .ok (.putfield 9, 3) := by decide +kernel
theorem dX8_init_13 : decode cX8_init 13 = .ok (.return_, 1) := by decide +kernel
theorem dX8_addSign_0 : decode cX8_addSign 0 = .ok (.aload_n 0, 1) := by decide +kernel
theorem dX8_addSign_1 : decode cX8_addSign 1 = .ok (.getfield 15, 3) := by decide +kernel
theorem dX8_addSign_4 : decode cX8_addSign 4 = .ok (.ifCond .lt 13, 3) := by decide +kernel
theorem dX8_addSign_7 : decode cX8_addSign 7 = .ok (.aload_n 0, 1) := by decide +kernel
theorem dX8_addSign_8 : decode cX8_addSign 8 = .ok (.getfield 15, 3) := by decide +kernel
theorem dX8_addSign_11 : decode cX8_addSign 11 = .ok (.sipush 150, 3) := by decide +kernel
theorem dX8_addSign_14 : decode cX8_addSign 14 = .ok (.if_icmp .lt 5, 3) := by decide +kernel
theorem dX8_addSign_17 : decode cX8_addSign 17 = .ok (.iconst 0, 1) := by decide +kernel
theorem dX8_addSign_18 : decode cX8_addSign 18 = .ok (.ireturn, 1) := by decide +kernel
theorem dX8_addSign_19 : decode cX8_addSign 19 = .ok (.aload_n 0, 1) := by decide +kernel
theorem dX8_addSign_20 : decode cX8_addSign 20 = .ok (.getfield 9, 3) := by decide +kernel
theorem dX8_addSign_23 : decode cX8_addSign 23 = .ok (.aload_n 0, 1) := by decide +kernel
theorem dX8_addSign_24 : decode cX8_addSign 24 = .ok (.getfield 15, 3) := by decide +kernel
theorem dX8_addSign_27 : decode cX8_addSign 27 = .ok (.iload_n 1, 1) := by decide +kernel
theorem dX8_addSign_28 : decode cX8_addSign 28 = .ok (.castore, 1) := by decide +kernel
theorem dX8_addSign_29 : decode cX8_addSign 29 = .ok (.aload_n 0, 1) := by decide +kernel
theorem dX8_addSign_30 : decode cX8_addSign 30 = .ok (.dup, 1) := by decide +kernel
theorem dX8_addSign_31 : decode cX8_addSign 31 = .ok (.getfield 15, 3) := by decide +kernel
theorem dX8_addSign_34 : decode cX8_addSign 34 = .ok (.iconst 1, 1) := by decide +kernel
theorem dX8_addSign_35 : decode cX8_addSign 35 = .ok (.iadd, 1) := by decide +kernel
theorem dX8_addSign_36 : decode cX8_addSign 36 = .ok (.putfield 15, 3) := by decide +kernel
theorem dX8_addSign_39 : decode cX8_addSign 39 = .ok (.iconst 1, 1) := by decide +kernel
theorem dX8_addSign_40 : decode cX8_addSign 40 = .ok (.ireturn, 1) := by decide +kernel
theorem dX8_rewind_0 : decode cX8_rewind 0 = .ok (.aload_n 0, 1) := by decide +kernel
theorem dX8_rewind_1 : decode cX8_rewind 1 = .ok (.iconst 0, 1) := by decide +kernel
theorem dX8_rewind_2 : decode cX8_rewind 2 = .ok (.putfield 19, 3) := by decide +kernel
theorem dX8_rewind_5 : decode cX8_rewind 5 = .ok (.return_, 1) := by decide +kernel
theorem dX8_readToken_0 : decode cX8_readToken 0 = .ok (.aload_n 0, 1) := by decide +kernel
theorem dX8_readToken_1 : decode cX8_readToken 1 = .ok (.getfield 19, 3) := by decide +kernel
theorem dX8_readToken_4 : decode cX8_readToken 4 = .ok (.aload_n 0, 1) := by decide +kernel
theorem dX8_readToken_5 : decode cX8_readToken 5 = .ok (.getfield 15, 3) := by decide +kernel
theorem dX8_readToken_8 : decode cX8_readToken 8 = .ok (.if_icmp .ge 41, 3) := by decide +kernel
theorem dX8_readToken_11 : decode cX8_readToken 11 = .ok (.aload_n 0, 1) := by decide +kernel
theorem dX8_readToken_12 : decode cX8_readToken 12 = .ok (.aload_n 0, 1) := by decide +kernel
theorem dX8_readToken_13 : decode cX8_readToken 13 = .ok (.getfield 19, 3) := by decide +kernel
theorem dX8_readToken_16 : decode cX8_readToken 16 = .ok (.invokevirtual 22, 3) := by decide +kernel
theorem dX8_readToken_19 : decode cX8_readToken 19 = .ok (.ifCond .eq 30, 3) := by decide +kernel
theorem dX8_readToken_22 : decode cX8_readToken 22 = .ok (.aload_n 0, 1) := by decide +kernel
theorem dX8_readToken_23 : decode cX8_readToken 23 = .ok (.getfield 9, 3) := by decide +kernel
theorem dX8_readToken_26 : decode cX8_readToken 26 = .ok (.aload_n 0, 1) := by decide +kernel
theorem dX8_readToken_27 : decode cX8_readToken 27 = .ok (.getfield 19, 3) := by decide +kernel
theorem dX8_readToken_30 : decode cX8_readToken 30 = .ok (.caload, 1) := by decide +kernel
theorem dX8_readToken_31 : decode cX8_readToken 31 = .ok (.bipush 32, 2) := by decide +kernel
theorem dX8_readToken_33 : decode cX8_readToken 33 = .ok (.if_icmp .ne 16, 3) := by decide +kernel
theorem dX8_readToken_36 : decode cX8_readToken 36 = .ok (.aload_n 0, 1) := by decide +kernel
theorem dX8_readToken_37 : decode cX8_readToken 37 = .ok (.dup, 1) := by decide +kernel
theorem dX8_readToken_38 : decode cX8_readToken 38 = .ok (.getfield 19, 3) := by decide +kernel
theorem dX8_readToken_41 : decode cX8_readToken 41 = .ok (.iconst 1, 1) := by decide +kernel
theorem dX8_readToken_42 : decode cX8_readToken 42 = .ok (.iadd, 1) := by decide +kernel
theorem dX8_readToken_43 : decode cX8_readToken 43 = .ok (.putfield 19, 3) := by decide +kernel
theorem dX8_readToken_46 : decode cX8_readToken 46 = .ok (.goto (-46), 3) := by decide +kernel
theorem dX8_readToken_49 : decode cX8_readToken 49 = .ok (.aload_n 0, 1) := by decide +kernel
theorem dX8_readToken_50 : decode cX8_readToken 50 = .ok (.aload_n 0, 1) := by decide +kernel
theorem dX8_readToken_51 : decode cX8_readToken 51 = .ok (.getfield 19, 3) := by decide +kernel
theorem dX8_readToken_54 : decode cX8_readToken 54 = .ok (.putfield 26, 3) := by decide +kernel
theorem dX8_readToken_57 : decode cX8_readToken 57 = .ok (.aload_n 0, 1) := by decide +kernel
theorem dX8_readToken_58 : decode cX8_readToken 58 = .ok (.aload_n 0, 1) := by decide +kernel
theorem dX8_readToken_59 : decode cX8_readToken 59 = .ok (.getfield 26, 3) := by decide +kernel
theorem dX8_readToken_62 : decode cX8_readToken 62 = .ok (.invokevirtual 22, 3) := by decide +kernel
theorem dX8_readToken_65 : decode cX8_readToken 65 = .ok (.ifCond .ne 11, 3) := by decide +kernel
theorem dX8_readToken_68 : decode cX8_readToken 68 = .ok (.aload_n 0, 1) := by decide +kernel
theorem dX8_readToken_69 : decode cX8_readToken 69 = .ok (.iconst 1, 1) := by decide +kernel
theorem dX8_readToken_70 : decode cX8_readToken 70 = .ok (.putfield 29, 3) := by decide +kernel
theorem dX8_readToken_73 : decode cX8_readToken 73 = .ok (.goto 72, 3) := by decide +kernel
theorem dX8_readToken_76 : decode cX8_readToken 76 = .ok (.aload_n 0, 1) := by decide +kernel
theorem dX8_readToken_77 : decode cX8_readToken 77 = .ok (.aload_n 0, 1) := by decide +kernel
theorem dX8_readToken_78 : decode cX8_readToken 78 = .ok (.getfield 26, 3) := by decide +kernel
theorem dX8_readToken_81 : decode cX8_readToken 81 = .ok (.invokevirtual 32, 3) := by decide +kernel
theorem dX8_readToken_84 : decode cX8_readToken 84 = .ok (.ifCond .eq 10, 3) := by decide +kernel
theorem dX8_readToken_87 : decode cX8_readToken 87 = .ok (.aload_n 0, 1) := by decide +kernel
theorem dX8_readToken_88 : decode cX8_readToken 88 = .ok (.invokevirtual 35, 3) := by decide +kernel
theorem dX8_readToken_91 : decode cX8_readToken 91 = .ok (.goto 54, 3) := by decide +kernel
theorem dX8_readToken_94 : decode cX8_readToken 94 = .ok (.aload_n 0, 1) := by decide +kernel
theorem dX8_readToken_95 : decode cX8_readToken 95 = .ok (.aload_n 0, 1) := by decide +kernel
theorem dX8_readToken_96 : decode cX8_readToken 96 = .ok (.getfield 26, 3) := by decide +kernel
theorem dX8_readToken_99 : decode cX8_readToken 99 = .ok (.invokevirtual 38, 3) := by decide +kernel
theorem dX8_readToken_102 : decode cX8_readToken 102 = .ok (.ifCond .eq 10, 3) := by decide +kernel
theorem dX8_readToken_105 : decode cX8_readToken 105 = .ok (.aload_n 0, 1) := by decide +kernel
theorem dX8_readToken_106 : decode cX8_readToken 106 = .ok (.invokevirtual 41, 3) := by decide +kernel
theorem dX8_readToken_109 : decode cX8_readToken 109 = .ok (.goto 36, 3) := by decide +kernel
theorem dX8_readToken_112 : decode cX8_readToken 112 = .ok (.aload_n 0, 1) := by decide +kernel
theorem dX8_readToken_113 : decode cX8_readToken 113 = .ok (.aload_n 0, 1) := by decide +kernel
theorem dX8_readToken_114 : decode cX8_readToken 114 = .ok (.getfield 9, 3) := by decide +kernel
theorem dX8_readToken_117 : decode cX8_readToken 117 = .ok (.aload_n 0, 1) := by decide +kernel
theorem dX8_readToken_118 : decode cX8_readToken 118 = .ok (.getfield 26, 3) := by decide +kernel
theorem dX8_readToken_121 : decode cX8_readToken 121 = .ok (.caload, 1) := by decide +kernel
theorem dX8_readToken_122 : decode cX8_readToken 122 = .ok (.bipush 59, 2) := by decide +kernel
theorem dX8_readToken_124 : decode cX8_readToken 124 = .ok (.if_icmp .ne 7, 3) := by decide +kernel
theorem dX8_readToken_127 : decode cX8_readToken 127 = .ok (.iconst 2, 1) := by decide +kernel
theorem dX8_readToken_128 : decode cX8_readToken 128 = .ok (.goto 4, 3) := by decide +kernel
theorem dX8_readToken_131 : decode cX8_readToken 131 = .ok (.iconst 0, 1) := by decide +kernel
theorem dX8_readToken_132 : decode cX8_readToken 132 = .ok (.putfield 29, 3) := by decide +kernel
theorem dX8_readToken_135 : decode cX8_readToken 135 = .ok (.aload_n 0, 1) := by decide +kernel
theorem dX8_readToken_136 : decode cX8_readToken 136 = .ok (.dup, 1) := by decide +kernel
theorem dX8_readToken_137 : decode cX8_readToken 137 = .ok (.getfield 19, 3) := by decide +kernel
theorem dX8_readToken_140 : decode cX8_readToken 140 = .ok (.iconst 1, 1) := by decide +kernel
theorem dX8_readToken_141 : decode cX8_readToken 141 = .ok (.iadd, 1) := by decide +kernel
theorem dX8_readToken_142 : decode cX8_readToken 142 = .ok (.putfield 19, 3) := by decide +kernel
theorem dX8_readToken_145 : decode cX8_readToken 145 = .ok (.return_, 1) := by decide +kernel
theorem dX8_isWithin_0 : decode cX8_isWithin 0 = .ok (.iload_n 1, 1) := by decide +kernel
theorem dX8_isWithin_1 : decode cX8_isWithin 1 = .ok (.ifCond .lt 22, 3) := by decide +kernel
theorem dX8_isWithin_4 : decode cX8_isWithin 4 = .ok (.iload_n 1, 1) := by decide +kernel
theorem dX8_isWithin_5 : decode cX8_isWithin 5 = .ok (.aload_n 0, 1) := by decide +kernel
theorem dX8_isWithin_6 : decode cX8_isWithin 6 = .ok (.getfield 15, 3) := by decide +kernel
theorem dX8_isWithin_9 : decode cX8_isWithin 9 = .ok (.if_icmp .ge 14, 3) := by decide +kernel
theorem dX8_isWithin_12 : decode cX8_isWithin 12 = .ok (.iload_n 1, 1) := by decide +kernel
theorem dX8_isWithin_13 : decode cX8_isWithin 13 = .ok (.sipush 150, 3) := by decide +kernel
theorem dX8_isWithin_16 : decode cX8_isWithin 16 = .ok (.if_icmp .ge 7, 3) := by decide +kernel
theorem dX8_isWithin_19 : decode cX8_isWithin 19 = .ok (.iconst 1, 1) := by decide +kernel
theorem dX8_isWithin_20 : decode cX8_isWithin 20 = .ok (.goto 4, 3) := by decide +kernel
theorem dX8_isWithin_23 : decode cX8_isWithin 23 = .ok (.iconst 0, 1) := by decide +kernel
theorem dX8_isWithin_24 : decode cX8_isWithin 24 = .ok (.ireturn, 1) := by decide +kernel
theorem dX8_isLetter_0 : decode cX8_isLetter 0 = .ok (.aload_n 0, 1) := by decide +kernel
theorem dX8_isLetter_1 : decode cX8_isLetter 1 = .ok (.iload_n 1, 1) := by decide +kernel
theorem dX8_isLetter_2 : decode cX8_isLetter 2 = .ok (.invokevirtual 22, 3) := by decide +kernel
theorem dX8_isLetter_5 : decode cX8_isLetter 5 = .ok (.ifCond .eq 29, 3) := by decide +kernel
theorem dX8_isLetter_8 : decode cX8_isLetter 8 = .ok (.aload_n 0, 1) := by decide +kernel
theorem dX8_isLetter_9 : decode cX8_isLetter 9 = .ok (.getfield 9, 3) := by decide +kernel
theorem dX8_isLetter_12 : decode cX8_isLetter 12 = .ok (.iload_n 1, 1) := by decide +kernel
theorem dX8_isLetter_13 : decode cX8_isLetter 13 = .ok (.caload, 1) := by decide +kernel
theorem dX8_isLetter_14 : decode cX8_isLetter 14 = .ok (.bipush 97, 2) := by decide +kernel
theorem dX8_isLetter_16 : decode cX8_isLetter 16 = .ok (.if_icmp .lt 18, 3) := by decide +kernel
theorem dX8_isLetter_19 : decode cX8_isLetter 19 = .ok (.aload_n 0, 1) := by decide +kernel
theorem dX8_isLetter_20 : decode cX8_isLetter 20 = .ok (.getfield 9, 3) := by decide +kernel
theorem dX8_isLetter_23 : decode cX8_isLetter 23 = .ok (.iload_n 1, 1) := by decide +kernel
theorem dX8_isLetter_24 : decode cX8_isLetter 24 = .ok (.caload, 1) := by decide +kernel
theorem dX8_isLetter_25 : decode cX8_isLetter 25 = .ok (.bipush 122, 2) := by decide +kernel
theorem dX8_isLetter_27 : decode cX8_isLetter 27 = .ok (.if_icmp .gt 7, 3) := by decide +kernel
theorem dX8_isLetter_30 : decode cX8_isLetter 30 = .ok (.iconst 1, 1) := by decide +kernel
theorem dX8_isLetter_31 : decode cX8_isLetter 31 = .ok (.goto 4, 3) := by decide +kernel
theorem dX8_isLetter_34 : decode cX8_isLetter 34 = .ok (.iconst 0, 1) := by decide +kernel
theorem dX8_isLetter_35 : decode cX8_isLetter 35 = .ok (.ireturn, 1) := by decide +kernel
theorem dX8_isDigit_0 : decode cX8_isDigit 0 = .ok (.aload_n 0, 1) := by decide +kernel
theorem dX8_isDigit_1 : decode cX8_isDigit 1 = .ok (.iload_n 1, 1) := by decide +kernel
theorem dX8_isDigit_2 : decode cX8_isDigit 2 = .ok (.invokevirtual 22, 3) := by decide +kernel
theorem dX8_isDigit_5 : decode cX8_isDigit 5 = .ok (.ifCond .eq 29, 3) := by decide +kernel
theorem dX8_isDigit_8 : decode cX8_isDigit 8 = .ok (.aload_n 0, 1) := by decide +kernel
theorem dX8_isDigit_9 : decode cX8_isDigit 9 = .ok (.getfield 9, 3) := by decide +kernel
theorem dX8_isDigit_12 : decode cX8_isDigit 12 = .ok (.iload_n 1, 1) := by decide +kernel
theorem dX8_isDigit_13 : decode cX8_isDigit 13 = .ok (.caload, 1) := by decide +kernel
theorem dX8_isDigit_14 : decode cX8_isDigit 14 = .ok (.bipush 48, 2) := by decide +kernel
theorem dX8_isDigit_16 : decode cX8_isDigit 16 = .ok (.if_icmp .lt 18, 3) := by decide +kernel
theorem dX8_isDigit_19 : decode cX8_isDigit 19 = .ok (.aload_n 0, 1) := by decide +kernel
theorem dX8_isDigit_20 : decode cX8_isDigit 20 = .ok (.getfield 9, 3) := by decide +kernel
theorem dX8_isDigit_23 : decode cX8_isDigit 23 = .ok (.iload_n 1, 1) := by decide +kernel
theorem dX8_isDigit_24 : decode cX8_isDigit 24 = .ok (.caload, 1) := by decide +kernel
theorem dX8_isDigit_25 : decode cX8_isDigit 25 = .ok (.bipush 57, 2) := by decide +kernel
theorem dX8_isDigit_27 : decode cX8_isDigit 27 = .ok (.if_icmp .gt 7, 3) := by decide +kernel
theorem dX8_isDigit_30 : decode cX8_isDigit 30 = .ok (.iconst 1, 1) := by decide +kernel
theorem dX8_isDigit_31 : decode cX8_isDigit 31 = .ok (.goto 4, 3) := by decide +kernel
theorem dX8_isDigit_34 : decode cX8_isDigit 34 = .ok (.iconst 0, 1) := by decide +kernel
theorem dX8_isDigit_35 : decode cX8_isDigit 35 = .ok (.ireturn, 1) := by decide +kernel
theorem dX8_readWord_0 : decode cX8_readWord 0 = .ok (.aload_n 0, 1) := by decide +kernel
theorem dX8_readWord_1 : decode cX8_readWord 1 = .ok (.getfield 19, 3) := by decide +kernel
theorem dX8_readWord_4 : decode cX8_readWord 4 = .ok (.aload_n 0, 1) := by decide +kernel
theorem dX8_readWord_5 : decode cX8_readWord 5 = .ok (.getfield 15, 3) := by decide +kernel
theorem dX8_readWord_8 : decode cX8_readWord 8 = .ok (.if_icmp .ge 27, 3) := by decide +kernel
theorem dX8_readWord_11 : decode cX8_readWord 11 = .ok (.aload_n 0, 1) := by decide +kernel
theorem dX8_readWord_12 : decode cX8_readWord 12 = .ok (.aload_n 0, 1) := by decide +kernel
theorem dX8_readWord_13 : decode cX8_readWord 13 = .ok (.getfield 19, 3) := by decide +kernel
theorem dX8_readWord_16 : decode cX8_readWord 16 = .ok (.invokevirtual 32, 3) := by decide +kernel
theorem dX8_readWord_19 : decode cX8_readWord 19 = .ok (.ifCond .eq 16, 3) := by decide +kernel
theorem dX8_readWord_22 : decode cX8_readWord 22 = .ok (.aload_n 0, 1) := by decide +kernel
theorem dX8_readWord_23 : decode cX8_readWord 23 = .ok (.dup, 1) := by decide +kernel
theorem dX8_readWord_24 : decode cX8_readWord 24 = .ok (.getfield 19, 3) := by decide +kernel
theorem dX8_readWord_27 : decode cX8_readWord 27 = .ok (.iconst 1, 1) := by decide +kernel
theorem dX8_readWord_28 : decode cX8_readWord 28 = .ok (.iadd, 1) := by decide +kernel
theorem dX8_readWord_29 : decode cX8_readWord 29 = .ok (.putfield 19, 3) := by decide +kernel
theorem dX8_readWord_32 : decode cX8_readWord 32 = .ok (.goto (-32), 3) := by decide +kernel
theorem dX8_readWord_35 : decode cX8_readWord 35 = .ok (.aload_n 0, 1) := by decide +kernel
theorem dX8_readWord_36 : decode cX8_readWord 36 = .ok (.ldc 44, 2) := by decide +kernel
theorem dX8_readWord_38 : decode cX8_readWord 38 = .ok (.invokevirtual 46, 3) := by decide +kernel
theorem dX8_readWord_41 : decode cX8_readWord 41 = .ok (.ifCond .eq 11, 3) := by decide +kernel
theorem dX8_readWord_44 : decode cX8_readWord 44 = .ok (.aload_n 0, 1) := by decide +kernel

theorem dX10_removePool_70 : decode cX10_removePool 70 = .ok (.getfield 7, 3) := by decide +kernel
theorem dX10_removePool_73 : decode cX10_removePool 73 = .ok (.iconst 5, 1) := by decide +kernel
theorem dX10_removePool_74 : decode cX10_removePool 74 = .ok (.iaload, 1) := by decide +kernel
theorem dX10_removePool_75 : decode cX10_removePool 75 = .ok (.imul, 1) := by decide +kernel
theorem dX10_removePool_76 : decode cX10_removePool 76 = .ok (.iadd, 1) := by decide +kernel
theorem dX10_removePool_77 : decode cX10_removePool 77 = .ok (.if_icmp .ge 23, 3) := by decide +kernel
theorem dX10_removePool_80 : decode cX10_removePool 80 = .ok (.aload_n 0, 1) := by decide +kernel
theorem dX10_removePool_81 : decode cX10_removePool 81 = .ok (.getfield 7, 3) := by decide +kernel
theorem dX10_removePool_84 : decode cX10_removePool 84 = .ok (.iload_n 2, 1) := by decide +kernel
theorem dX10_removePool_85 : decode cX10_removePool 85 = .ok (.aload_n 0, 1) := by decide +kernel
theorem dX10_removePool_86 : decode cX10_removePool 86 = .ok (.getfield 7, 3) := by decide +kernel
theorem dX10_removePool_89 : decode cX10_removePool 89 = .ok (.iload_n 2, 1) := by decide +kernel
theorem dX10_removePool_90 : decode cX10_removePool 90 = .ok (.iconst 2, 1) := by decide +kernel
theorem dX10_removePool_91 : decode cX10_removePool 91 = .ok (.iadd, 1) := by decide +kernel
theorem dX10_removePool_92 : decode cX10_removePool 92 = .ok (.iaload, 1) := by decide +kernel
theorem dX10_removePool_93 : decode cX10_removePool 93 = .ok (.iastore, 1) := by decide +kernel
theorem dX10_removePool_94 : decode cX10_removePool 94 = .ok (.iinc 2 1, 3) := by decide +kernel
theorem dX10_removePool_97 : decode cX10_removePool 97 = .ok (.goto (-32), 3) := by decide +kernel
theorem dX10_removePool_100 : decode cX10_removePool 100 = .ok (.aload_n 0, 1) := by decide +kernel
theorem dX10_removePool_101 : decode cX10_removePool 101 = .ok (.getfield 7, 3) := by decide +kernel
theorem dX10_removePool_104 : decode cX10_removePool 104 = .ok (.iconst 5, 1) := by decide +kernel
theorem dX10_removePool_105 : decode cX10_removePool 105 = .ok (.iaload, 1) := by decide +kernel
theorem dX10_removePool_106 : decode cX10_removePool 106 = .ok (.ireturn, 1) := by decide +kernel
theorem dX10_setPolicy_0 : decode cX10_setPolicy 0 = .ok (.iload_n 1, 1) := by decide +kernel
theorem dX10_setPolicy_1 : decode cX10_setPolicy 1 = .ok (.iconst 0, 1) := by decide +kernel
theorem dX10_setPolicy_2 : decode cX10_setPolicy 2 = .ok (.iconst 3, 1) := by decide +kernel
theorem dX10_setPolicy_3 : decode cX10_setPolicy 3 = .ok (.invokestatic 82, 3) := by decide +kernel
theorem dX10_setPolicy_6 : decode cX10_setPolicy 6 = .ok (.ifCond .ne 5, 3) := by decide +kernel
theorem dX10_setPolicy_9 : decode cX10_setPolicy 9 = .ok (.iconst (-1), 1) := by decide +kernel
theorem dX10_setPolicy_10 : decode cX10_setPolicy 10 = .ok (.ireturn, 1) := by decide +kernel
theorem dX10_setPolicy_11 : decode cX10_setPolicy 11 = .ok (.aload_n 0, 1) := by decide +kernel
theorem dX10_setPolicy_12 : decode cX10_setPolicy 12 = .ok (.invokevirtual 170, 3) := by decide +kernel
theorem dX10_setPolicy_15 : decode cX10_setPolicy 15 = .ok (.aload_n 0, 1) := by decide +kernel
theorem dX10_setPolicy_16 : decode cX10_setPolicy 16 = .ok (.getfield 7, 3) := by decide +kernel
theorem dX10_setPolicy_19 : decode cX10_setPolicy 19 = .ok (.iconst 3, 1) := by decide +kernel
theorem dX10_setPolicy_20 : decode cX10_setPolicy 20 = .ok (.iaload, 1) := by decide +kernel
theorem dX10_setPolicy_21 : decode cX10_setPolicy 21 = .ok (.istore_n 2, 1) := by decide +kernel
theorem dX10_setPolicy_22 : decode cX10_setPolicy 22 = .ok (.aload_n 0, 1) := by decide +kernel
theorem dX10_setPolicy_23 : decode cX10_setPolicy 23 = .ok (.getfield 7, 3) := by decide +kernel
theorem dX10_setPolicy_26 : decode cX10_setPolicy 26 = .ok (.iconst 3, 1) := by decide +kernel
theorem dX10_setPolicy_27 : decode cX10_setPolicy 27 = .ok (.iload_n 1, 1) := by decide +kernel
theorem dX10_setPolicy_28 : decode cX10_setPolicy 28 = .ok (.iastore, 1) := by decide +kernel
theorem dX10_setPolicy_29 : decode cX10_setPolicy 29 = .ok (.iload_n 2, 1) := by decide +kernel
theorem dX10_setPolicy_30 : decode cX10_setPolicy 30 = .ok (.ireturn, 1) := by decide +kernel
theorem dX10_pool_0 : decode cX10_pool 0 = .ok (.aload_n 0, 1) := by decide +kernel
theorem dX10_pool_1 : decode cX10_pool 1 = .ok (.iload_n 1, 1) := by decide +kernel
theorem dX10_pool_2 : decode cX10_pool 2 = .ok (.invokevirtual 173, 3) := by decide +kernel
theorem dX10_pool_5 : decode cX10_pool 5 = .ok (.ifCond .eq 12, 3) := by decide +kernel
theorem dX10_pool_8 : decode cX10_pool 8 = .ok (.iload_n 2, 1) := by decide +kernel
theorem dX10_pool_9 : decode cX10_pool 9 = .ok (.iconst 0, 1) := by decide +kernel
theorem dX10_pool_10 : decode cX10_pool 10 = .ok (.iconst 3, 1) := by decide +kernel
theorem dX10_pool_11 : decode cX10_pool 11 = .ok (.invokestatic 82, 3) := by decide +kernel
theorem dX10_pool_14 : decode cX10_pool 14 = .ok (.ifCond .ne 5, 3) := by decide +kernel
theorem dX10_pool_17 : decode cX10_pool 17 = .ok (.iconst (-1), 1) := by decide +kernel
theorem dX10_pool_18 : decode cX10_pool 18 = .ok (.ireturn, 1) := by decide +kernel
theorem dX10_pool_19 : decode cX10_pool 19 = .ok (.aload_n 0, 1) := by decide +kernel
theorem dX10_pool_20 : decode cX10_pool 20 = .ok (.iconst 0, 1) := by decide +kernel
theorem dX10_pool_21 : decode cX10_pool 21 = .ok (.putfield 63, 3) := by decide +kernel
theorem dX10_pool_24 : decode cX10_pool 24 = .ok (.aload_n 0, 1) := by decide +kernel
theorem dX10_pool_25 : decode cX10_pool 25 = .ok (.iconst 0, 1) := by decide +kernel
theorem dX10_pool_26 : decode cX10_pool 26 = .ok (.putfield 66, 3) := by decide +kernel
theorem dX10_pool_29 : decode cX10_pool 29 = .ok (.aload_n 0, 1) := by decide +kernel
theorem dX10_pool_30 : decode cX10_pool 30 = .ok (.iload_n 1, 1) := by decide +kernel
theorem dX10_pool_31 : decode cX10_pool 31 = .ok (.invokevirtual 72, 3) := by decide +kernel
theorem dX10_pool_34 : decode cX10_pool 34 = .ok (.iload_n 2, 1) := by decide +kernel
theorem dX10_pool_35 : decode cX10_pool 35 = .ok (.iconst 2, 1) := by decide +kernel
theorem dX10_pool_36 : decode cX10_pool 36 = .ok (.if_icmp .ge 19, 3) := by decide +kernel
theorem dX10_pool_39 : decode cX10_pool 39 = .ok (.aload_n 0, 1) := by decide +kernel
theorem dX10_pool_40 : decode cX10_pool 40 = .ok (.getfield 7, 3) := by decide +kernel
theorem dX10_pool_43 : decode cX10_pool 43 = .ok (.bipush 6, 2) := by decide +kernel
theorem dX10_pool_45 : decode cX10_pool 45 = .ok (.iconst 2, 1) := by decide +kernel
theorem dX10_pool_46 : decode cX10_pool 46 = .ok (.iload_n 1, 1) := by decide +kernel
theorem dX10_pool_47 : decode cX10_pool 47 = .ok (.imul, 1) := by decide +kernel
theorem dX10_pool_48 : decode cX10_pool 48 = .ok (.iadd, 1) := by decide +kernel
theorem dX10_pool_49 : decode cX10_pool 49 = .ok (.iload_n 2, 1) := by decide +kernel
theorem dX10_pool_50 : decode cX10_pool 50 = .ok (.iadd, 1) := by decide +kernel
theorem dX10_pool_51 : decode cX10_pool 51 = .ok (.iaload, 1) := by decide +kernel
theorem dX10_pool_52 : decode cX10_pool 52 = .ok (.goto 19, 3) := by decide +kernel
theorem dX10_pool_55 : decode cX10_pool 55 = .ok (.iload_n 2, 1) := by decide +kernel
theorem dX10_pool_56 : decode cX10_pool 56 = .ok (.iconst 2, 1) := by decide +kernel
theorem dX10_pool_57 : decode cX10_pool 57 = .ok (.if_icmp .ne 10, 3) := by decide +kernel
theorem dX10_pool_60 : decode cX10_pool 60 = .ok (.aload_n 0, 1) := by decide +kernel
theorem dX10_pool_61 : decode cX10_pool 61 = .ok (.getfield 66, 3) := by decide +kernel
theorem dX10_pool_64 : decode cX10_pool 64 = .ok (.goto 7, 3) := by decide +kernel
theorem dX10_pool_67 : decode cX10_pool 67 = .ok (.aload_n 0, 1) := by decide +kernel
theorem dX10_pool_68 : decode cX10_pool 68 = .ok (.getfield 63, 3) := by decide +kernel
theorem dX10_pool_71 : decode cX10_pool 71 = .ok (.ireturn, 1) := by decide +kernel
theorem dX10_freeBlocks_0 : decode cX10_freeBlocks 0 = .ok (.iload_n 1, 1) := by decide +kernel
theorem dX10_freeBlocks_1 : decode cX10_freeBlocks 1 = .ok (.iconst 0, 1) := by decide +kernel
theorem dX10_freeBlocks_2 : decode cX10_freeBlocks 2 = .ok (.bipush 16, 2) := by decide +kernel
theorem dX10_freeBlocks_4 : decode cX10_freeBlocks 4 = .ok (.invokestatic 82, 3) := by decide +kernel
theorem dX10_freeBlocks_7 : decode cX10_freeBlocks 7 = .ok (.ifCond .ne 5, 3) := by decide +kernel
theorem dX10_freeBlocks_10 : decode cX10_freeBlocks 10 = .ok (.iconst (-1), 1) := by decide +kernel
theorem dX10_freeBlocks_11 : decode cX10_freeBlocks 11 = .ok (.ireturn, 1) := by decide +kernel
theorem dX10_freeBlocks_12 : decode cX10_freeBlocks 12 = .ok (.aload_n 0, 1) := by decide +kernel
theorem dX10_freeBlocks_13 : decode cX10_freeBlocks 13 = .ok (.invokevirtual 75, 3) := by decide +kernel
theorem dX10_freeBlocks_16 : decode cX10_freeBlocks 16 = .ok (.iconst 0, 1) := by decide +kernel
theorem dX10_freeBlocks_17 : decode cX10_freeBlocks 17 = .ok (.istore_n 2, 1) := by decide +kernel
theorem dX10_freeBlocks_18 : decode cX10_freeBlocks 18 = .ok (.iconst 0, 1) := by decide +kernel
theorem dX10_freeBlocks_19 : decode cX10_freeBlocks 19 = .ok (.istore_n 3, 1) := by decide +kernel
theorem dX10_freeBlocks_20 : decode cX10_freeBlocks 20 = .ok (.iload_n 3, 1) := by decide +kernel
theorem dX10_freeBlocks_21 : decode cX10_freeBlocks 21 = .ok (.aload_n 0, 1) := by decide +kernel
theorem dX10_freeBlocks_22 : decode cX10_freeBlocks 22 = .ok (.getfield 63, 3) := by decide +kernel
theorem dX10_freeBlocks_25 : decode cX10_freeBlocks 25 = .ok (.if_icmp .ge 27, 3) := by decide +kernel
theorem dX10_freeBlocks_28 : decode cX10_freeBlocks 28 = .ok (.iload_n 2, 1) := by decide +kernel
theorem dX10_freeBlocks_29 : decode cX10_freeBlocks 29 = .ok (.aload_n 0, 1) := by decide +kernel
theorem dX10_freeBlocks_30 : decode cX10_freeBlocks 30 = .ok (.getfield 26, 3) := by decide +kernel
theorem dX10_freeBlocks_33 : decode cX10_freeBlocks 33 = .ok (.iload_n 3, 1) := by decide +kernel
theorem dX10_freeBlocks_34 : decode cX10_freeBlocks 34 = .ok (.iaload, 1) := by decide +kernel
theorem dX10_freeBlocks_35 : decode cX10_freeBlocks 35 = .ok (.iload_n 1, 1) := by decide +kernel
theorem dX10_freeBlocks_36 : decode cX10_freeBlocks 36 = .ok (.if_icmp .ne 7, 3) := by decide +kernel
theorem dX10_freeBlocks_39 : decode cX10_freeBlocks 39 = .ok (.iconst 1, 1) := by decide +kernel
theorem dX10_freeBlocks_40 : decode cX10_freeBlocks 40 = .ok (.goto 4, 3) := by decide +kernel
theorem dX10_freeBlocks_43 : decode cX10_freeBlocks 43 = .ok (.iconst 0, 1) := by decide +kernel
theorem dX10_freeBlocks_44 : decode cX10_freeBlocks 44 = .ok (.iadd, 1) := by decide +kernel
theorem dX10_freeBlocks_45 : decode cX10_freeBlocks 45 = .ok (.istore_n 2, 1) := by decide +kernel
theorem dX10_freeBlocks_46 : decode cX10_freeBlocks 46 = .ok (.iinc 3 1, 3) := by decide +kernel
theorem dX10_freeBlocks_49 : decode cX10_freeBlocks 49 = .ok (.goto (-29), 3) := by decide +kernel
theorem dX10_freeBlocks_52 : decode cX10_freeBlocks 52 = .ok (.iload_n 2, 1) := by decide +kernel
theorem dX10_freeBlocks_53 : decode cX10_freeBlocks 53 = .ok (.ireturn, 1) := by decide +kernel
theorem dX10_greatest_0 : decode cX10_greatest 0 = .ok (.aload_n 0, 1) := by decide +kernel
theorem dX10_greatest_1 : decode cX10_greatest 1 = .ok (.invokevirtual 75, 3) := by decide +kernel
theorem dX10_greatest_4 : decode cX10_greatest 4 = .ok (.bipush (-9), 2) := by decide +kernel
theorem dX10_greatest_6 : decode cX10_greatest 6 = .ok (.istore_n 1, 1) := by decide +kernel
theorem dX10_greatest_7 : decode cX10_greatest 7 = .ok (.iconst 0, 1) := by decide +kernel
theorem dX10_greatest_8 : decode cX10_greatest 8 = .ok (.istore_n 2, 1) := by decide +kernel
theorem dX10_greatest_9 : decode cX10_greatest 9 = .ok (.iload_n 2, 1) := by decide +kernel
theorem dX10_greatest_10 : decode cX10_greatest 10 = .ok (.aload_n 0, 1) := by decide +kernel
theorem dX10_greatest_11 : decode cX10_greatest 11 = .ok (.getfield 63, 3) := by decide +kernel
theorem dX10_greatest_14 : decode cX10_greatest 14 = .ok (.if_icmp .ge 36, 3) := by decide +kernel
theorem dX10_greatest_17 : decode cX10_greatest 17 = .ok (.iload_n 1, 1) := by decide +kernel
theorem dX10_greatest_18 : decode cX10_greatest 18 = .ok (.bipush (-9), 2) := by decide +kernel
theorem dX10_greatest_20 : decode cX10_greatest 20 = .ok (.if_icmp .eq 13, 3) := by decide +kernel
theorem dX10_greatest_23 : decode cX10_greatest 23 = .ok (.aload_n 0, 1) := by decide +kernel
theorem dX10_greatest_24 : decode cX10_greatest 24 = .ok (.getfield 26, 3) := by decide +kernel
theorem dX10_greatest_27 : decode cX10_greatest 27 = .ok (.iload_n 2, 1) := by decide +kernel
theorem dX10_greatest_28 : decode cX10_greatest 28 = .ok (.iaload, 1) := by decide +kernel
theorem dX10_greatest_29 : decode cX10_greatest 29 = .ok (.iload_n 1, 1) := by decide +kernel
theorem dX10_greatest_30 : decode cX10_greatest 30 = .ok (.if_icmp .ge 12, 3) := by decide +kernel
theorem dX10_greatest_33 : decode cX10_greatest 33 = .ok (.aload_n 0, 1) := by decide +kernel
theorem dX10_greatest_34 : decode cX10_greatest 34 = .ok (.getfield 26, 3) := by decide +kernel
theorem dX10_greatest_37 : decode cX10_greatest 37 = .ok (.iload_n 2, 1) := by decide +kernel
theorem dX10_greatest_38 : decode cX10_greatest 38 = .ok (.iaload, 1) := by decide +kernel
theorem dX10_greatest_39 : decode cX10_greatest 39 = .ok (.goto 4, 3) := by decide +kernel
theorem dX10_greatest_42 : decode cX10_greatest 42 = .ok (.iload_n 1, 1) := by decide +kernel
theorem dX10_greatest_43 : decode cX10_greatest 43 = .ok (.istore_n 1, 1) := by decide +kernel
theorem dX10_greatest_44 : decode cX10_greatest 44 = .ok (.iinc 2 1, 3) := by decide +kernel
theorem dX10_greatest_47 : decode cX10_greatest 47 = .ok (.goto (-38), 3) := by decide +kernel
theorem dX10_greatest_50 : decode cX10_greatest 50 = .ok (.iload_n 1, 1) := by decide +kernel
theorem dX10_greatest_51 : decode cX10_greatest 51 = .ok (.ireturn, 1) := by decide +kernel
theorem dX10_largestFree_0 : decode cX10_largestFree 0 = .ok (.aload_n 0, 1) := by decide +kernel
theorem dX10_largestFree_1 : decode cX10_largestFree 1 = .ok (.invokevirtual 177, 3) := by decide +kernel
theorem dX10_largestFree_4 : decode cX10_largestFree 4 = .ok (.ireturn, 1) := by decide +kernel
theorem dX10_capacity_0 : decode cX10_capacity 0 = .ok (.iload_n 1, 1) := by decide +kernel
theorem dX10_capacity_1 : decode cX10_capacity 1 = .ok (.iconst 0, 1) := by decide +kernel
theorem dX10_capacity_2 : decode cX10_capacity 2 = .ok (.bipush 16, 2) := by decide +kernel
theorem dX10_capacity_4 : decode cX10_capacity 4 = .ok (.invokestatic 82, 3) := by decide +kernel
theorem dX10_capacity_7 : decode cX10_capacity 7 = .ok (.ifCond .ne 5, 3) := by decide +kernel
theorem dX10_capacity_10 : decode cX10_capacity 10 = .ok (.iconst (-1), 1) := by decide +kernel
theorem dX10_capacity_11 : decode cX10_capacity 11 = .ok (.ireturn, 1) := by decide +kernel
theorem dX10_capacity_12 : decode cX10_capacity 12 = .ok (.aload_n 0, 1) := by decide +kernel
theorem dX10_capacity_13 : decode cX10_capacity 13 = .ok (.invokevirtual 75, 3) := by decide +kernel
theorem dX10_capacity_16 : decode cX10_capacity 16 = .ok (.iconst 0, 1) := by decide +kernel
theorem dX10_capacity_17 : decode cX10_capacity 17 = .ok (.istore_n 2, 1) := by decide +kernel
theorem dX10_capacity_18 : decode cX10_capacity 18 = .ok (.iconst 0, 1) := by decide +kernel
theorem dX10_capacity_19 : decode cX10_capacity 19 = .ok (.istore_n 3, 1) := by decide +kernel
theorem dX10_capacity_20 : decode cX10_capacity 20 = .ok (.iload_n 3, 1) := by decide +kernel
theorem dX10_capacity_21 : decode cX10_capacity 21 = .ok (.aload_n 0, 1) := by decide +kernel
theorem dX10_capacity_22 : decode cX10_capacity 22 = .ok (.getfield 63, 3) := by decide +kernel
theorem dX10_capacity_25 : decode cX10_capacity 25 = .ok (.if_icmp .ge 36, 3) := by decide +kernel
theorem dX10_capacity_28 : decode cX10_capacity 28 = .ok (.iload_n 2, 1) := by decide +kernel
theorem dX10_capacity_29 : decode cX10_capacity 29 = .ok (.aload_n 0, 1) := by decide +kernel
theorem dX10_capacity_30 : decode cX10_capacity 30 = .ok (.getfield 26, 3) := by decide +kernel
theorem dX10_capacity_33 : decode cX10_capacity 33 = .ok (.iload_n 3, 1) := by decide +kernel
theorem dX10_capacity_34 : decode cX10_capacity 34 = .ok (.iaload, 1) := by decide +kernel
theorem dX10_capacity_35 : decode cX10_capacity 35 = .ok (.iload_n 1, 1) := by decide +kernel
theorem dX10_capacity_36 : decode cX10_capacity 36 = .ok (.if_icmp .gt 16, 3) := by decide +kernel
theorem dX10_capacity_39 : decode cX10_capacity 39 = .ok (.iconst 1, 1) := by decide +kernel
theorem dX10_capacity_40 : decode cX10_capacity 40 = .ok (.iload_n 1, 1) := by decide +kernel
theorem dX10_capacity_41 : decode cX10_capacity 41 = .ok (.aload_n 0, 1) := by decide +kernel
theorem dX10_capacity_42 : decode cX10_capacity 42 = .ok (.getfield 26, 3) := by decide +kernel
theorem dX10_capacity_45 : decode cX10_capacity 45 = .ok (.iload_n 3, 1) := by decide +kernel
theorem dX10_capacity_46 : decode cX10_capacity 46 = .ok (.iaload, 1) := by decide +kernel
theorem dX10_capacity_47 : decode cX10_capacity 47 = .ok (.isub, 1) := by decide +kernel
theorem dX10_capacity_48 : decode cX10_capacity 48 = .ok (.ishl, 1) := by decide +kernel
theorem dX10_capacity_49 : decode cX10_capacity 49 = .ok (.goto 4, 3) := by decide +kernel
theorem dX10_capacity_52 : decode cX10_capacity 52 = .ok (.iconst 0, 1) := by decide +kernel
theorem dX10_capacity_53 : decode cX10_capacity 53 = .ok (.iadd, 1) := by decide +kernel
theorem dX10_capacity_54 : decode cX10_capacity 54 = .ok (.istore_n 2, 1) := by decide +kernel
theorem dX10_capacity_55 : decode cX10_capacity 55 = .ok (.iinc 3 1, 3) := by decide +kernel
theorem dX10_capacity_58 : decode cX10_capacity 58 = .ok (.goto (-38), 3) := by decide +kernel
theorem dX10_capacity_61 : decode cX10_capacity 61 = .ok (.iload_n 2, 1) := by decide +kernel
theorem dX10_capacity_62 : decode cX10_capacity 62 = .ok (.ireturn, 1) := by decide +kernel
theorem dX10_index_0 : decode cX10_index 0 = .ok (.aload_n 0, 1) := by decide +kernel
theorem dX10_index_1 : decode cX10_index 1 = .ok (.invokevirtual 177, 3) := by decide +kernel
theorem dX10_index_4 : decode cX10_index 4 = .ok (.istore_n 1, 1) := by decide +kernel
theorem dX10_index_5 : decode cX10_index 5 = .ok (.aload_n 0, 1) := by decide +kernel
theorem dX10_index_6 : decode cX10_index 6 = .ok (.getfield 66, 3) := by decide +kernel
theorem dX10_index_9 : decode cX10_index 9 = .ok (.ifCond .ne 7, 3) := by decide +kernel
theorem dX10_index_12 : decode cX10_index 12 = .ok (.iconst 0, 1) := by decide +kernel
theorem dX10_index_13 : decode cX10_index 13 = .ok (.goto 20, 3) := by decide +kernel
theorem dX10_index_16 : decode cX10_index 16 = .ok (.sipush 1000, 3) := by decide +kernel
theorem dX10_index_19 : decode cX10_index 19 = .ok (.sipush 1000, 3) := by decide +kernel
theorem dX10_index_22 : decode cX10_index 22 = .ok (.iload_n 1, 1) := by decide +kernel
theorem dX10_index_23 : decode cX10_index 23 = .ok (.invokestatic 56, 3) := by decide +kernel
theorem dX10_index_26 : decode cX10_index 26 = .ok (.imul, 1) := by decide +kernel
theorem dX10_index_27 : decode cX10_index 27 = .ok (.aload_n 0, 1) := by decide +kernel
theorem dX10_index_28 : decode cX10_index 28 = .ok (.getfield 66, 3) := by decide +kernel
theorem dX10_index_31 : decode cX10_index 31 = .ok (.idiv, 1) := by decide +kernel
theorem dX10_index_32 : decode cX10_index 32 = .ok (.isub, 1) := by decide +kernel
theorem dX10_index_33 : decode cX10_index 33 = .ok (.ireturn, 1) := by decide +kernel
theorem dX10_fragmentation_0 : decode cX10_fragmentation 0 = .ok (.aload_n 0, 1) := by decide +kernel
theorem dX10_fragmentation_1 : decode cX10_fragmentation 1 = .ok (.invokevirtual 180, 3) := by decide +kernel
theorem dX10_fragmentation_4 : decode cX10_fragmentation 4 = .ok (.ireturn, 1) := by decide +kernel
theorem dX10_isNet_0 : decode cX10_isNet 0 = .ok (.iload_n 0, 1) := by decide +kernel
theorem dX10_isNet_1 : decode cX10_isNet 1 = .ok (.iconst 0, 1) := by decide +kernel
theorem dX10_isNet_2 : decode cX10_isNet 2 = .ok (.bipush 11, 2) := by decide +kernel
theorem dX10_isNet_4 : decode cX10_isNet 4 = .ok (.invokestatic 82, 3) := by decide +kernel
theorem dX10_isNet_7 : decode cX10_isNet 7 = .ok (.ireturn, 1) := by decide +kernel
theorem dX10_hasBlock_0 : decode cX10_hasBlock 0 = .ok (.aload_n 0, 1) := by decide +kernel
theorem dX10_hasBlock_1 : decode cX10_hasBlock 1 = .ok (.getfield 7, 3) := by decide +kernel
theorem dX10_hasBlock_4 : decode cX10_hasBlock 4 = .ok (.iload_n 1, 1) := by decide +kernel
theorem dX10_hasBlock_5 : decode cX10_hasBlock 5 = .ok (.invokestatic 35, 3) := by decide +kernel
theorem dX10_hasBlock_8 : decode cX10_hasBlock 8 = .ok (.iaload, 1) := by decide +kernel
theorem dX10_hasBlock_9 : decode cX10_hasBlock 9 = .ok (.ifCond .lt 7, 3) := by decide +kernel
theorem dX10_hasBlock_12 : decode cX10_hasBlock 12 = .ok (.iconst 1, 1) := by decide +kernel
theorem dX10_hasBlock_13 : decode cX10_hasBlock 13 = .ok (.goto 4, 3) := by decide +kernel
theorem dX10_hasBlock_16 : decode cX10_hasBlock 16 = .ok (.iconst 0, 1) := by decide +kernel
theorem dX10_hasBlock_17 : decode cX10_hasBlock 17 = .ok (.ireturn, 1) := by decide +kernel
theorem dX10_hasOld_0 : decode cX10_hasOld 0 = .ok (.aload_n 0, 1) := by decide +kernel
theorem dX10_hasOld_1 : decode cX10_hasOld 1 = .ok (.getfield 7, 3) := by decide +kernel
theorem dX10_hasOld_4 : decode cX10_hasOld 4 = .ok (.iload_n 1, 1) := by decide +kernel
theorem dX10_hasOld_5 : decode cX10_hasOld 5 = .ok (.invokestatic 35, 3) := by decide +kernel
theorem dX10_hasOld_8 : decode cX10_hasOld 8 = .ok (.iconst 2, 1) := by decide +kernel
theorem dX10_hasOld_9 : decode cX10_hasOld 9 = .ok (.iadd, 1) := by decide +kernel
theorem dX10_hasOld_10 : decode cX10_hasOld 10 = .ok (.iaload, 1) := by decide +kernel
theorem dX10_hasOld_11 : decode cX10_hasOld 11 = .ok (.ifCond .lt 7, 3) := by decide +kernel
theorem dX10_hasOld_14 : decode cX10_hasOld 14 = .ok (.iconst 1, 1) := by decide +kernel
theorem dX10_hasOld_15 : decode cX10_hasOld 15 = .ok (.goto 4, 3) := by decide +kernel
theorem dX10_hasOld_18 : decode cX10_hasOld 18 = .ok (.iconst 0, 1) := by decide +kernel
theorem dX10_hasOld_19 : decode cX10_hasOld 19 = .ok (.ireturn, 1) := by decide +kernel
theorem dX10_assign_0 : decode cX10_assign 0 = .ok (.iload_n 1, 1) := by decide +kernel
theorem dX10_assign_1 : decode cX10_assign 1 = .ok (.invokestatic 183, 3) := by decide +kernel
theorem dX10_assign_4 : decode cX10_assign 4 = .ok (.ifCond .eq 13, 3) := by decide +kernel
theorem dX10_assign_7 : decode cX10_assign 7 = .ok (.iload_n 2, 1) := by decide +kernel
theorem dX10_assign_8 : decode cX10_assign 8 = .ok (.iconst 5, 1) := by decide +kernel
theorem dX10_assign_9 : decode cX10_assign 9 = .ok (.bipush 16, 2) := by decide +kernel
theorem dX10_assign_11 : decode cX10_assign 11 = .ok (.invokestatic 82, 3) := by decide +kernel
theorem dX10_assign_14 : decode cX10_assign 14 = .ok (.ifCond .ne 5, 3) := by decide +kernel
theorem dX10_assign_17 : decode cX10_assign 17 = .ok (.iconst (-1), 1) := by decide +kernel
theorem dX10_assign_18 : decode cX10_assign 18 = .ok (.ireturn, 1) := by decide +kernel
theorem dX10_assign_19 : decode cX10_assign 19 = .ok (.aload_n 0, 1) := by decide +kernel
theorem dX10_assign_20 : decode cX10_assign 20 = .ok (.iload_n 1, 1) := by decide +kernel
theorem dX10_assign_21 : decode cX10_assign 21 = .ok (.invokevirtual 186, 3) := by decide +kernel
theorem dX10_assign_24 : decode cX10_assign 24 = .ok (.ifCond .eq 6, 3) := by decide +kernel
theorem dX10_assign_27 : decode cX10_assign 27 = .ok (.bipush (-2), 2) := by decide +kernel
theorem dX10_assign_29 : decode cX10_assign 29 = .ok (.ireturn, 1) := by decide +kernel
theorem dX10_assign_30 : decode cX10_assign 30 = .ok (.aload_n 0, 1) := by decide +kernel
theorem dX10_assign_31 : decode cX10_assign 31 = .ok (.iload_n 2, 1) := by decide +kernel
theorem dX10_assign_32 : decode cX10_assign 32 = .ok (.invokevirtual 136, 3) := by decide +kernel
theorem dX10_assign_35 : decode cX10_assign 35 = .ok (.istore_n 3, 1) := by decide +kernel
theorem dX10_assign_36 : decode cX10_assign 36 = .ok (.iload_n 3, 1) := by decide +kernel
theorem dX10_assign_37 : decode cX10_assign 37 = .ok (.ifCond .ge 6, 3) := by decide +kernel
theorem dX10_assign_40 : decode cX10_assign 40 = .ok (.bipush (-3), 2) := by decide +kernel
theorem dX10_assign_42 : decode cX10_assign 42 = .ok (.ireturn, 1) := by decide +kernel
theorem dX10_assign_43 : decode cX10_assign 43 = .ok (.aload_n 0, 1) := by decide +kernel
theorem dX10_assign_44 : decode cX10_assign 44 = .ok (.invokevirtual 170, 3) := by decide +kernel
theorem dX10_assign_47 : decode cX10_assign 47 = .ok (.aload_n 0, 1) := by decide +kernel
theorem dX10_assign_48 : decode cX10_assign 48 = .ok (.getfield 7, 3) := by decide +kernel
theorem dX10_assign_51 : decode cX10_assign 51 = .ok (.iload_n 1, 1) := by decide +kernel
theorem dX10_assign_52 : decode cX10_assign 52 = .ok (.invokestatic 35, 3) := by decide +kernel
theorem dX10_assign_55 : decode cX10_assign 55 = .ok (.iload_n 3, 1) := by decide +kernel
theorem dX10_assign_56 : decode cX10_assign 56 = .ok (.iastore, 1) := by decide +kernel
theorem dX10_assign_57 : decode cX10_assign 57 = .ok (.aload_n 0, 1) := by decide +kernel
theorem dX10_assign_58 : decode cX10_assign 58 = .ok (.getfield 7, 3) := by decide +kernel
theorem dX10_assign_61 : decode cX10_assign 61 = .ok (.iload_n 1, 1) := by decide +kernel
theorem dX10_assign_62 : decode cX10_assign 62 = .ok (.invokestatic 35, 3) := by decide +kernel
theorem dX10_assign_65 : decode cX10_assign 65 = .ok (.iconst 1, 1) := by decide +kernel
theorem dX10_assign_66 : decode cX10_assign 66 = .ok (.iadd, 1) := by decide +kernel
theorem dX10_assign_67 : decode cX10_assign 67 = .ok (.iload_n 2, 1) := by decide +kernel
theorem dX10_assign_68 : decode cX10_assign 68 = .ok (.iastore, 1) := by decide +kernel
theorem dX10_assign_69 : decode cX10_assign 69 = .ok (.iload_n 3, 1) := by decide +kernel
theorem dX10_assign_70 : decode cX10_assign 70 = .ok (.ireturn, 1) := by decide +kernel
theorem dX10_hostsOf_0 : decode cX10_hostsOf 0 = .ok (.iconst 0, 1) := by decide +kernel
theorem dX10_hostsOf_1 : decode cX10_hostsOf 1 = .ok (.istore_n 2, 1) := by decide +kernel
theorem dX10_hostsOf_2 : decode cX10_hostsOf 2 = .ok (.iconst 0, 1) := by decide +kernel
theorem dX10_hostsOf_3 : decode cX10_hostsOf 3 = .ok (.istore_n 3, 1) := by decide +kernel
theorem dX10_hostsOf_4 : decode cX10_hostsOf 4 = .ok (.iload_n 3, 1) := by decide +kernel
theorem dX10_hostsOf_5 : decode cX10_hostsOf 5 = .ok (.bipush 16, 2) := by decide +kernel
theorem dX10_hostsOf_7 : decode cX10_hostsOf 7 = .ok (.if_icmp .ge 30, 3) := by decide +kernel
theorem dX10_hostsOf_10 : decode cX10_hostsOf 10 = .ok (.iload_n 2, 1) := by decide +kernel
theorem dX10_hostsOf_11 : decode cX10_hostsOf 11 = .ok (.aload_n 0, 1) := by decide +kernel
theorem dX10_hostsOf_12 : decode cX10_hostsOf 12 = .ok (.getfield 7, 3) := by decide +kernel
theorem dX10_hostsOf_15 : decode cX10_hostsOf 15 = .ok (.iload_n 3, 1) := by decide +kernel
theorem dX10_hostsOf_16 : decode cX10_hostsOf 16 = .ok (.invokestatic 43, 3) := by decide +kernel
theorem dX10_hostsOf_19 : decode cX10_hostsOf 19 = .ok (.iaload, 1) := by decide +kernel
theorem dX10_hostsOf_20 : decode cX10_hostsOf 20 = .ok (.iload_n 1, 1) := by decide +kernel
theorem dX10_hostsOf_21 : decode cX10_hostsOf 21 = .ok (.if_icmp .ne 7, 3) := by decide +kernel
theorem dX10_hostsOf_24 : decode cX10_hostsOf 24 = .ok (.iconst 1, 1) := by decide +kernel
theorem dX10_hostsOf_25 : decode cX10_hostsOf 25 = .ok (.goto 4, 3) := by decide +kernel
theorem dX10_hostsOf_28 : decode cX10_hostsOf 28 = .ok (.iconst 0, 1) := by decide +kernel
theorem dX10_hostsOf_29 : decode cX10_hostsOf 29 = .ok (.iadd, 1) := by decide +kernel
theorem dX10_hostsOf_30 : decode cX10_hostsOf 30 = .ok (.istore_n 2, 1) := by decide +kernel
theorem dX10_hostsOf_31 : decode cX10_hostsOf 31 = .ok (.iinc 3 1, 3) := by decide +kernel
theorem dX10_hostsOf_34 : decode cX10_hostsOf 34 = .ok (.goto (-30), 3) := by decide +kernel
theorem dX10_hostsOf_37 : decode cX10_hostsOf 37 = .ok (.iload_n 2, 1) := by decide +kernel
theorem dX10_hostsOf_38 : decode cX10_hostsOf 38 = .ok (.ireturn, 1) := by decide +kernel
theorem dX10_release_0 : decode cX10_release 0 = .ok (.iload_n 1, 1) := by decide +kernel
theorem dX10_release_1 : decode cX10_release 1 = .ok (.invokestatic 183, 3) := by decide +kernel
theorem dX10_release_4 : decode cX10_release 4 = .ok (.ifCond .ne 5, 3) := by decide +kernel
theorem dX10_release_7 : decode cX10_release 7 = .ok (.iconst (-1), 1) := by decide +kernel
theorem dX10_release_8 : decode cX10_release 8 = .ok (.ireturn, 1) := by decide +kernel
theorem dX10_release_9 : decode cX10_release 9 = .ok (.iconst 0, 1) := by decide +kernel
theorem dX10_release_10 : decode cX10_release 10 = .ok (.istore_n 2, 1) := by decide +kernel
theorem dX10_release_11 : decode cX10_release 11 = .ok (.iconst 0, 1) := by decide +kernel
theorem dX10_release_12 : decode cX10_release 12 = .ok (.istore_n 3, 1) := by decide +kernel
theorem dX10_release_13 : decode cX10_release 13 = .ok (.iload_n 3, 1) := by decide +kernel
theorem dX10_release_14 : decode cX10_release 14 = .ok (.bipush 16, 2) := by decide +kernel
theorem dX10_release_16 : decode cX10_release 16 = .ok (.if_icmp .ge 60, 3) := by decide +kernel
theorem dX10_release_19 : decode cX10_release 19 = .ok (.iload_n 2, 1) := by decide +kernel
theorem dX10_release_20 : decode cX10_release 20 = .ok (.ifCond .ne 44, 3) := by decide +kernel
theorem dX10_release_23 : decode cX10_release 23 = .ok (.aload_n 0, 1) := by decide +kernel
theorem dX10_release_24 : decode cX10_release 24 = .ok (.getfield 7, 3) := by decide +kernel
theorem dX10_release_27 : decode cX10_release 27 = .ok (.iload_n 3, 1) := by decide +kernel
theorem dX10_release_28 : decode cX10_release 28 = .ok (.invokestatic 43, 3) := by decide +kernel
theorem dX10_release_31 : decode cX10_release 31 = .ok (.iaload, 1) := by decide +kernel
theorem dX10_release_32 : decode cX10_release 32 = .ok (.iload_n 1, 1) := by decide +kernel
theorem dX10_release_33 : decode cX10_release 33 = .ok (.if_icmp .ne 35, 3) := by decide +kernel
theorem dX10_release_36 : decode cX10_release 36 = .ok (.aload_n 0, 1) := by decide +kernel
theorem dX10_release_37 : decode cX10_release 37 = .ok (.getfield 7, 3) := by decide +kernel
theorem dX10_release_40 : decode cX10_release 40 = .ok (.iload_n 3, 1) := by decide +kernel
theorem dX10_release_41 : decode cX10_release 41 = .ok (.invokestatic 43, 3) := by decide +kernel
theorem dX10_release_44 : decode cX10_release 44 = .ok (.iconst 2, 1) := by decide +kernel
theorem dX10_release_45 : decode cX10_release 45 = .ok (.iadd, 1) := by decide +kernel
theorem dX10_release_46 : decode cX10_release 46 = .ok (.iaload, 1) := by decide +kernel
theorem dX10_release_47 : decode cX10_release 47 = .ok (.ifCond .ge 17, 3) := by decide +kernel
theorem dX10_release_50 : decode cX10_release 50 = .ok (.aload_n 0, 1) := by decide +kernel
theorem dX10_release_51 : decode cX10_release 51 = .ok (.getfield 7, 3) := by decide +kernel
theorem dX10_release_54 : decode cX10_release 54 = .ok (.iload_n 3, 1) := by decide +kernel
theorem dX10_release_55 : decode cX10_release 55 = .ok (.invokestatic 43, 3) := by decide +kernel
theorem dX10_release_58 : decode cX10_release 58 = .ok (.iconst 4, 1) := by decide +kernel
theorem dX10_release_59 : decode cX10_release 59 = .ok (.iadd, 1) := by decide +kernel
theorem dX10_release_60 : decode cX10_release 60 = .ok (.iaload, 1) := by decide +kernel
theorem dX10_release_61 : decode cX10_release 61 = .ok (.ifCond .lt 7, 3) := by decide +kernel
theorem dX10_release_64 : decode cX10_release 64 = .ok (.iconst 1, 1) := by decide +kernel
theorem dX10_release_65 : decode cX10_release 65 = .ok (.goto 4, 3) := by decide +kernel
theorem dX10_release_68 : decode cX10_release 68 = .ok (.iconst 0, 1) := by decide +kernel
theorem dX10_release_69 : decode cX10_release 69 = .ok (.istore_n 2, 1) := by decide +kernel
theorem dX10_release_70 : decode cX10_release 70 = .ok (.iinc 3 1, 3) := by decide +kernel
theorem dX10_release_73 : decode cX10_release 73 = .ok (.goto (-60), 3) := by decide +kernel
theorem dX10_release_76 : decode cX10_release 76 = .ok (.aload_n 0, 1) := by decide +kernel
theorem dX10_release_77 : decode cX10_release 77 = .ok (.iload_n 1, 1) := by decide +kernel
theorem dX10_release_78 : decode cX10_release 78 = .ok (.invokevirtual 186, 3) := by decide +kernel
theorem dX10_release_81 : decode cX10_release 81 = .ok (.ifCond .eq 7, 3) := by decide +kernel
theorem dX10_release_84 : decode cX10_release 84 = .ok (.iload_n 2, 1) := by decide +kernel
theorem dX10_release_85 : decode cX10_release 85 = .ok (.ifCond .eq 6, 3) := by decide +kernel
theorem dX10_release_88 : decode cX10_release 88 = .ok (.bipush (-2), 2) := by decide +kernel
theorem dX10_release_90 : decode cX10_release 90 = .ok (.ireturn, 1) := by decide +kernel
theorem dX10_release_91 : decode cX10_release 91 = .ok (.aload_n 0, 1) := by decide +kernel
theorem dX10_release_92 : decode cX10_release 92 = .ok (.invokevirtual 170, 3) := by decide +kernel
theorem dX10_release_95 : decode cX10_release 95 = .ok (.aload_n 0, 1) := by decide +kernel
theorem dX10_release_96 : decode cX10_release 96 = .ok (.iload_n 1, 1) := by decide +kernel
theorem dX10_release_97 : decode cX10_release 97 = .ok (.invokevirtual 189, 3) := by decide +kernel
theorem dX10_release_100 : decode cX10_release 100 = .ok (.istore_n 3, 1) := by decide +kernel
theorem dX10_release_101 : decode cX10_release 101 = .ok (.aload_n 0, 1) := by decide +kernel
theorem dX10_release_102 : decode cX10_release 102 = .ok (.getfield 7, 3) := by decide +kernel
theorem dX10_release_105 : decode cX10_release 105 = .ok (.iload_n 1, 1) := by decide +kernel
theorem dX10_release_106 : decode cX10_release 106 = .ok (.invokestatic 35, 3) := by decide +kernel
theorem dX10_release_109 : decode cX10_release 109 = .ok (.iconst (-1), 1) := by decide +kernel
theorem dX10_release_110 : decode cX10_release 110 = .ok (.iastore, 1) := by decide +kernel
theorem dX10_release_111 : decode cX10_release 111 = .ok (.aload_n 0, 1) := by decide +kernel
theorem dX10_release_112 : decode cX10_release 112 = .ok (.getfield 7, 3) := by decide +kernel
theorem dX10_release_115 : decode cX10_release 115 = .ok (.iload_n 1, 1) := by decide +kernel
theorem dX10_release_116 : decode cX10_release 116 = .ok (.invokestatic 35, 3) := by decide +kernel
theorem dX10_release_119 : decode cX10_release 119 = .ok (.iconst 2, 1) := by decide +kernel
theorem dX10_release_120 : decode cX10_release 120 = .ok (.iadd, 1) := by decide +kernel
theorem dX10_release_121 : decode cX10_release 121 = .ok (.iconst (-1), 1) := by decide +kernel
theorem dX10_release_122 : decode cX10_release 122 = .ok (.iastore, 1) := by decide +kernel
theorem dX10_release_123 : decode cX10_release 123 = .ok (.iconst 0, 1) := by decide +kernel
theorem dX10_release_124 : decode cX10_release 124 = .ok (.istore 4, 2) := by decide +kernel
theorem dX10_release_126 : decode cX10_release 126 = .ok (.iload 4, 2) := by decide +kernel
theorem dX10_release_128 : decode cX10_release 128 = .ok (.bipush 16, 2) := by decide +kernel
theorem dX10_release_130 : decode cX10_release 130 = .ok (.if_icmp .ge 29, 3) := by decide +kernel
theorem dX10_release_133 : decode cX10_release 133 = .ok (.aload_n 0, 1) := by decide +kernel
theorem dX10_release_134 : decode cX10_release 134 = .ok (.getfield 7, 3) := by decide +kernel
theorem dX10_release_137 : decode cX10_release 137 = .ok (.iload 4, 2) := by decide +kernel
theorem dX10_release_139 : decode cX10_release 139 = .ok (.invokestatic 43, 3) := by decide +kernel
theorem dX10_release_142 : decode cX10_release 142 = .ok (.iaload, 1) := by decide +kernel
theorem dX10_release_143 : decode cX10_release 143 = .ok (.iload_n 1, 1) := by decide +kernel
theorem dX10_release_144 : decode cX10_release 144 = .ok (.if_icmp .ne 9, 3) := by decide +kernel
theorem dX10_release_147 : decode cX10_release 147 = .ok (.aload_n 0, 1) := by decide +kernel
theorem dX10_release_148 : decode cX10_release 148 = .ok (.iload 4, 2) := by decide +kernel
theorem dX10_release_150 : decode cX10_release 150 = .ok (.invokevirtual 39, 3) := by decide +kernel
theorem dX10_release_153 : decode cX10_release 153 = .ok (.iinc 4 1, 3) := by decide +kernel
theorem dX10_release_156 : decode cX10_release 156 = .ok (.goto (-30), 3) := by decide +kernel
theorem dX10_release_159 : decode cX10_release 159 = .ok (.iload_n 3, 1) := by decide +kernel
theorem dX10_release_160 : decode cX10_release 160 = .ok (.ireturn, 1) := by decide +kernel
theorem dX10_canLease_0 : decode cX10_canLease 0 = .ok (.iload_n 1, 1) := by decide +kernel
theorem dX10_canLease_1 : decode cX10_canLease 1 = .ok (.iload_n 2, 1) := by decide +kernel
theorem dX10_canLease_2 : decode cX10_canLease 2 = .ok (.invokestatic 56, 3) := by decide +kernel
theorem dX10_canLease_5 : decode cX10_canLease 5 = .ok (.iadd, 1) := by decide +kernel
theorem dX10_canLease_6 : decode cX10_canLease 6 = .ok (.iconst 1, 1) := by decide +kernel
theorem dX10_canLease_7 : decode cX10_canLease 7 = .ok (.isub, 1) := by decide +kernel
theorem dX10_canLease_8 : decode cX10_canLease 8 = .ok (.istore_n 3, 1) := by decide +kernel
theorem dX10_canLease_9 : decode cX10_canLease 9 = .ok (.iload_n 0, 1) := by decide +kernel
theorem dX10_canLease_10 : decode cX10_canLease 10 = .ok (.iload_n 1, 1) := by decide +kernel
theorem dX10_canLease_11 : decode cX10_canLease 11 = .ok (.iload_n 3, 1) := by decide +kernel
theorem dX10_canLease_12 : decode cX10_canLease 12 = .ok (.invokestatic 82, 3) := by decide +kernel
theorem dX10_canLease_15 : decode cX10_canLease 15 = .ok (.ifCond .eq 25, 3) := by decide +kernel
theorem dX10_canLease_18 : decode cX10_canLease 18 = .ok (.iload_n 2, 1) := by decide +kernel
theorem dX10_canLease_19 : decode cX10_canLease 19 = .ok (.invokestatic 56, 3) := by decide +kernel
theorem dX10_canLease_22 : decode cX10_canLease 22 = .ok (.iconst 4, 1) := by decide +kernel
theorem dX10_canLease_23 : decode cX10_canLease 23 = .ok (.if_icmp .lt 13, 3) := by decide +kernel
theorem dX10_canLease_26 : decode cX10_canLease 26 = .ok (.iload_n 0, 1) := by decide +kernel
theorem dX10_canLease_27 : decode cX10_canLease 27 = .ok (.iload_n 1, 1) := by decide +kernel
theorem dX10_canLease_28 : decode cX10_canLease 28 = .ok (.if_icmp .le 12, 3) := by decide +kernel
theorem dX10_canLease_31 : decode cX10_canLease 31 = .ok (.iload_n 0, 1) := by decide +kernel
theorem dX10_canLease_32 : decode cX10_canLease 32 = .ok (.iload_n 3, 1) := by decide +kernel
theorem dX10_canLease_33 : decode cX10_canLease 33 = .ok (.if_icmp .ge 7, 3) := by decide +kernel
theorem dX10_canLease_36 : decode cX10_canLease 36 = .ok (.iconst 1, 1) := by decide +kernel
theorem dX10_canLease_37 : decode cX10_canLease 37 = .ok (.goto 4, 3) := by decide +kernel
theorem dX10_canLease_40 : decode cX10_canLease 40 = .ok (.iconst 0, 1) := by decide +kernel
theorem dX10_canLease_41 : decode cX10_canLease 41 = .ok (.ireturn, 1) := by decide +kernel
theorem dX10_isInPool_0 : decode cX10_isInPool 0 = .ok (.iconst 0, 1) := by decide +kernel
theorem dX10_isInPool_1 : decode cX10_isInPool 1 = .ok (.istore_n 3, 1) := by decide +kernel
theorem dX10_isInPool_2 : decode cX10_isInPool 2 = .ok (.iconst 0, 1) := by decide +kernel
theorem dX10_isInPool_3 : decode cX10_isInPool 3 = .ok (.istore 4, 2) := by decide +kernel
theorem dX10_isInPool_5 : decode cX10_isInPool 5 = .ok (.iload 4, 2) := by decide +kernel
theorem dX10_isInPool_7 : decode cX10_isInPool 7 = .ok (.aload_n 0, 1) := by decide +kernel
theorem dX10_isInPool_8 : decode cX10_isInPool 8 = .ok (.getfield 7, 3) := by decide +kernel
theorem dX10_isInPool_11 : decode cX10_isInPool 11 = .ok (.iconst 5, 1) := by decide +kernel
theorem dX10_isInPool_12 : decode cX10_isInPool 12 = .ok (.iaload, 1) := by decide +kernel
theorem dX10_isInPool_13 : decode cX10_isInPool 13 = .ok (.if_icmp .ge 68, 3) := by decide +kernel
theorem dX10_isInPool_16 : decode cX10_isInPool 16 = .ok (.aload_n 0, 1) := by decide +kernel
theorem dX10_isInPool_17 : decode cX10_isInPool 17 = .ok (.getfield 7, 3) := by decide +kernel
theorem dX10_isInPool_20 : decode cX10_isInPool 20 = .ok (.bipush 6, 2) := by decide +kernel
theorem dX10_isInPool_22 : decode cX10_isInPool 22 = .ok (.iconst 2, 1) := by decide +kernel
theorem dX10_isInPool_23 : decode cX10_isInPool 23 = .ok (.iload 4, 2) := by decide +kernel
theorem dX10_isInPool_25 : decode cX10_isInPool 25 = .ok (.imul, 1) := by decide +kernel
theorem dX10_isInPool_26 : decode cX10_isInPool 26 = .ok (.iadd, 1) := by decide +kernel
theorem dX10_isInPool_27 : decode cX10_isInPool 27 = .ok (.iaload, 1) := by decide +kernel
theorem dX10_isInPool_28 : decode cX10_isInPool 28 = .ok (.istore 5, 2) := by decide +kernel
theorem dX10_isInPool_30 : decode cX10_isInPool 30 = .ok (.iload_n 3, 1) := by decide +kernel
theorem dX10_isInPool_31 : decode cX10_isInPool 31 = .ok (.ifCond .ne 38, 3) := by decide +kernel
theorem dX10_isInPool_34 : decode cX10_isInPool 34 = .ok (.iload_n 1, 1) := by decide +kernel
theorem dX10_isInPool_35 : decode cX10_isInPool 35 = .ok (.iload 5, 2) := by decide +kernel
theorem dX10_isInPool_37 : decode cX10_isInPool 37 = .ok (.if_icmp .lt 36, 3) := by decide +kernel
theorem dX10_isInPool_40 : decode cX10_isInPool 40 = .ok (.iload_n 1, 1) := by decide +kernel
theorem dX10_isInPool_41 : decode cX10_isInPool 41 = .ok (.iload_n 2, 1) := by decide +kernel
theorem dX10_isInPool_42 : decode cX10_isInPool 42 = .ok (.invokestatic 56, 3) := by decide +kernel
theorem dX10_isInPool_45 : decode cX10_isInPool 45 = .ok (.iadd, 1) := by decide +kernel
theorem dX10_isInPool_46 : decode cX10_isInPool 46 = .ok (.iload 5, 2) := by decide +kernel
theorem dX10_isInPool_48 : decode cX10_isInPool 48 = .ok (.aload_n 0, 1) := by decide +kernel
theorem dX10_isInPool_49 : decode cX10_isInPool 49 = .ok (.getfield 7, 3) := by decide +kernel
theorem dX10_isInPool_52 : decode cX10_isInPool 52 = .ok (.bipush 6, 2) := by decide +kernel
theorem dX10_isInPool_54 : decode cX10_isInPool 54 = .ok (.iconst 2, 1) := by decide +kernel
theorem dX10_isInPool_55 : decode cX10_isInPool 55 = .ok (.iload 4, 2) := by decide +kernel
theorem dX10_isInPool_57 : decode cX10_isInPool 57 = .ok (.imul, 1) := by decide +kernel
theorem dX10_isInPool_58 : decode cX10_isInPool 58 = .ok (.iadd, 1) := by decide +kernel
theorem dX10_isInPool_59 : decode cX10_isInPool 59 = .ok (.iconst 1, 1) := by decide +kernel
theorem dX10_isInPool_60 : decode cX10_isInPool 60 = .ok (.iadd, 1) := by decide +kernel
theorem dX10_isInPool_61 : decode cX10_isInPool 61 = .ok (.iaload, 1) := by decide +kernel
theorem dX10_isInPool_62 : decode cX10_isInPool 62 = .ok (.invokestatic 56, 3) := by decide +kernel
theorem dX10_isInPool_65 : decode cX10_isInPool 65 = .ok (.iadd, 1) := by decide +kernel
theorem dX10_isInPool_66 : decode cX10_isInPool 66 = .ok (.if_icmp .gt 7, 3) := by decide +kernel
theorem dX10_isInPool_69 : decode cX10_isInPool 69 = .ok (.iconst 1, 1) := by decide +kernel
theorem dX10_isInPool_70 : decode cX10_isInPool 70 = .ok (.goto 4, 3) := by decide +kernel
theorem dX10_isInPool_73 : decode cX10_isInPool 73 = .ok (.iconst 0, 1) := by decide +kernel
theorem dX10_isInPool_74 : decode cX10_isInPool 74 = .ok (.istore_n 3, 1) := by decide +kernel
theorem dX10_isInPool_75 : decode cX10_isInPool 75 = .ok (.iinc 4 1, 3) := by decide +kernel
theorem dX10_isInPool_78 : decode cX10_isInPool 78 = .ok (.goto (-73), 3) := by decide +kernel
theorem dX10_isInPool_81 : decode cX10_isInPool 81 = .ok (.iload_n 3, 1) := by decide +kernel
theorem dX10_isInPool_82 : decode cX10_isInPool 82 = .ok (.ireturn, 1) := by decide +kernel
theorem dX10_resize_0 : decode cX10_resize 0 = .ok (.iload_n 1, 1) := by decide +kernel
theorem dX10_resize_1 : decode cX10_resize 1 = .ok (.invokestatic 183, 3) := by decide +kernel
theorem dX10_resize_4 : decode cX10_resize 4 = .ok (.ifCond .eq 13, 3) := by decide +kernel
theorem dX10_resize_7 : decode cX10_resize 7 = .ok (.iload_n 2, 1) := by decide +kernel
theorem dX10_resize_8 : decode cX10_resize 8 = .ok (.iconst 5, 1) := by decide +kernel
theorem dX10_resize_9 : decode cX10_resize 9 = .ok (.bipush 16, 2) := by decide +kernel
theorem dX10_resize_11 : decode cX10_resize 11 = .ok (.invokestatic 82, 3) := by decide +kernel
theorem dX10_resize_14 : decode cX10_resize 14 = .ok (.ifCond .ne 5, 3) := by decide +kernel
theorem dX10_resize_17 : decode cX10_resize 17 = .ok (.iconst (-1), 1) := by decide +kernel
theorem dX10_resize_18 : decode cX10_resize 18 = .ok (.ireturn, 1) := by decide +kernel
theorem dX10_resize_19 : decode cX10_resize 19 = .ok (.iload_n 1, 1) := by decide +kernel
theorem dX10_resize_20 : decode cX10_resize 20 = .ok (.invokestatic 35, 3) := by decide +kernel
theorem dX10_resize_23 : decode cX10_resize 23 = .ok (.istore_n 3, 1) := by decide +kernel
theorem dX10_resize_24 : decode cX10_resize 24 = .ok (.aload_n 0, 1) := by decide +kernel
theorem dX10_resize_25 : decode cX10_resize 25 = .ok (.iload_n 1, 1) := by decide +kernel
theorem dX10_resize_26 : decode cX10_resize 26 = .ok (.invokevirtual 186, 3) := by decide +kernel
theorem dX10_resize_29 : decode cX10_resize 29 = .ok (.ifCond .eq 15, 3) := by decide +kernel
theorem dX10_resize_32 : decode cX10_resize 32 = .ok (.aload_n 0, 1) := by decide +kernel
theorem dX10_resize_33 : decode cX10_resize 33 = .ok (.getfield 7, 3) := by decide +kernel
theorem dX10_resize_36 : decode cX10_resize 36 = .ok (.iload_n 3, 1) := by decide +kernel
theorem dX10_resize_37 : decode cX10_resize 37 = .ok (.iconst 1, 1) := by decide +kernel
theorem dX10_resize_38 : decode cX10_resize 38 = .ok (.iadd, 1) := by decide +kernel
theorem dX10_resize_39 : decode cX10_resize 39 = .ok (.iaload, 1) := by decide +kernel
theorem dX10_resize_40 : decode cX10_resize 40 = .ok (.iload_n 2, 1) := by decide +kernel
theorem dX10_resize_41 : decode cX10_resize 41 = .ok (.if_icmp .ne 6, 3) := by decide +kernel
theorem dX10_resize_44 : decode cX10_resize 44 = .ok (.bipush (-2), 2) := by decide +kernel
theorem dX10_resize_46 : decode cX10_resize 46 = .ok (.ireturn, 1) := by decide +kernel
theorem dX10_resize_47 : decode cX10_resize 47 = .ok (.aload_n 0, 1) := by decide +kernel
theorem dX10_resize_48 : decode cX10_resize 48 = .ok (.getfield 7, 3) := by decide +kernel
theorem dX10_resize_51 : decode cX10_resize 51 = .ok (.iload_n 3, 1) := by decide +kernel
theorem dX10_resize_52 : decode cX10_resize 52 = .ok (.iaload, 1) := by decide +kernel
theorem dX10_resize_53 : decode cX10_resize 53 = .ok (.aload_n 0, 1) := by decide +kernel
theorem dX10_resize_54 : decode cX10_resize 54 = .ok (.getfield 7, 3) := by decide +kernel
theorem dX10_resize_57 : decode cX10_resize 57 = .ok (.iload_n 3, 1) := by decide +kernel
theorem dX10_resize_58 : decode cX10_resize 58 = .ok (.iaload, 1) := by decide +kernel
theorem dX10_resize_59 : decode cX10_resize 59 = .ok (.iload_n 2, 1) := by decide +kernel
theorem dX10_resize_60 : decode cX10_resize 60 = .ok (.invokestatic 56, 3) := by decide +kernel
theorem dX10_resize_63 : decode cX10_resize 63 = .ok (.irem, 1) := by decide +kernel
theorem dX10_resize_64 : decode cX10_resize 64 = .ok (.isub, 1) := by decide +kernel
theorem dX10_resize_65 : decode cX10_resize 65 = .ok (.istore 4, 2) := by decide +kernel
theorem dX10_resize_67 : decode cX10_resize 67 = .ok (.iload_n 2, 1) := by decide +kernel
theorem dX10_resize_68 : decode cX10_resize 68 = .ok (.aload_n 0, 1) := by decide +kernel
theorem dX10_resize_69 : decode cX10_resize 69 = .ok (.getfield 7, 3) := by decide +kernel
theorem dX10_resize_72 : decode cX10_resize 72 = .ok (.iload_n 3, 1) := by decide +kernel
theorem dX10_resize_73 : decode cX10_resize 73 = .ok (.iconst 1, 1) := by decide +kernel
theorem dX10_resize_74 : decode cX10_resize 74 = .ok (.iadd, 1) := by decide +kernel
theorem dX10_resize_75 : decode cX10_resize 75 = .ok (.iaload, 1) := by decide +kernel
theorem dX10_resize_76 : decode cX10_resize 76 = .ok (.if_icmp .ge 37, 3) := by decide +kernel
theorem dX10_resize_79 : decode cX10_resize 79 = .ok (.aload_n 0, 1) := by decide +kernel
theorem dX10_resize_80 : decode cX10_resize 80 = .ok (.iload 4, 2) := by decide +kernel
theorem dX10_resize_82 : decode cX10_resize 82 = .ok (.iload_n 2, 1) := by decide +kernel
theorem dX10_resize_83 : decode cX10_resize 83 = .ok (.invokevirtual 192, 3) := by decide +kernel
theorem dX10_resize_86 : decode cX10_resize 86 = .ok (.ifCond .eq 24, 3) := by decide +kernel
theorem dX10_resize_89 : decode cX10_resize 89 = .ok (.aload_n 0, 1) := by decide +kernel
theorem dX10_resize_90 : decode cX10_resize 90 = .ok (.iload 4, 2) := by decide +kernel
theorem dX10_resize_92 : decode cX10_resize 92 = .ok (.iload_n 2, 1) := by decide +kernel
theorem dX10_resize_93 : decode cX10_resize 93 = .ok (.invokevirtual 59, 3) := by decide +kernel
theorem dX10_resize_96 : decode cX10_resize 96 = .ok (.aload_n 0, 1) := by decide +kernel
theorem dX10_resize_97 : decode cX10_resize 97 = .ok (.getfield 7, 3) := by decide +kernel
theorem dX10_resize_100 : decode cX10_resize 100 = .ok (.iload_n 3, 1) := by decide +kernel
theorem dX10_resize_101 : decode cX10_resize 101 = .ok (.iconst 1, 1) := by decide +kernel
theorem dX10_resize_102 : decode cX10_resize 102 = .ok (.iadd, 1) := by decide +kernel
theorem dX10_resize_103 : decode cX10_resize 103 = .ok (.iaload, 1) := by decide +kernel
theorem dX10_resize_104 : decode cX10_resize 104 = .ok (.invokestatic 56, 3) := by decide +kernel
theorem dX10_resize_107 : decode cX10_resize 107 = .ok (.if_icmp .le 6, 3) := by decide +kernel
theorem dX10_resize_110 : decode cX10_resize 110 = .ok (.bipush (-2), 2) := by decide +kernel
theorem dX10_resize_112 : decode cX10_resize 112 = .ok (.ireturn, 1) := by decide +kernel
theorem dX10_resize_113 : decode cX10_resize 113 = .ok (.iconst 0, 1) := by decide +kernel
theorem dX10_resize_114 : decode cX10_resize 114 = .ok (.istore 5, 2) := by decide +kernel
theorem dX10_resize_116 : decode cX10_resize 116 = .ok (.iload 5, 2) := by decide +kernel
theorem dX10_resize_118 : decode cX10_resize 118 = .ok (.bipush 16, 2) := by decide +kernel
theorem dX10_resize_120 : decode cX10_resize 120 = .ok (.if_icmp .ge 56, 3) := by decide +kernel
theorem dX10_resize_123 : decode cX10_resize 123 = .ok (.aload_n 0, 1) := by decide +kernel
theorem dX10_resize_124 : decode cX10_resize 124 = .ok (.getfield 7, 3) := by decide +kernel
theorem dX10_resize_127 : decode cX10_resize 127 = .ok (.iload 5, 2) := by decide +kernel
theorem dX10_resize_129 : decode cX10_resize 129 = .ok (.invokestatic 43, 3) := by decide +kernel
theorem dX10_resize_132 : decode cX10_resize 132 = .ok (.iconst 2, 1) := by decide +kernel
theorem dX10_resize_133 : decode cX10_resize 133 = .ok (.iadd, 1) := by decide +kernel
theorem dX10_resize_134 : decode cX10_resize 134 = .ok (.iaload, 1) := by decide +kernel
theorem dX10_resize_135 : decode cX10_resize 135 = .ok (.istore 6, 2) := by decide +kernel
theorem dX10_resize_137 : decode cX10_resize 137 = .ok (.aload_n 0, 1) := by decide +kernel
theorem dX10_resize_138 : decode cX10_resize 138 = .ok (.getfield 7, 3) := by decide +kernel
theorem dX10_resize_141 : decode cX10_resize 141 = .ok (.iload 5, 2) := by decide +kernel
theorem dX10_resize_143 : decode cX10_resize 143 = .ok (.invokestatic 43, 3) := by decide +kernel
theorem dX10_resize_146 : decode cX10_resize 146 = .ok (.iaload, 1) := by decide +kernel
theorem dX10_resize_147 : decode cX10_resize 147 = .ok (.iload_n 1, 1) := by decide +kernel
theorem dX10_resize_148 : decode cX10_resize 148 = .ok (.if_icmp .ne 22, 3) := by decide +kernel
theorem dX10_resize_151 : decode cX10_resize 151 = .ok (.iload 6, 2) := by decide +kernel
theorem dX10_resize_153 : decode cX10_resize 153 = .ok (.ifCond .lt 17, 3) := by decide +kernel
theorem dX10_resize_156 : decode cX10_resize 156 = .ok (.iload 6, 2) := by decide +kernel
theorem dX10_resize_158 : decode cX10_resize 158 = .ok (.iload 4, 2) := by decide +kernel
theorem dX10_resize_160 : decode cX10_resize 160 = .ok (.iload_n 2, 1) := by decide +kernel
theorem dX10_resize_161 : decode cX10_resize 161 = .ok (.invokestatic 195, 3) := by decide +kernel
theorem dX10_resize_164 : decode cX10_resize 164 = .ok (.ifCond .ne 6, 3) := by decide +kernel
theorem dX10_resize_167 : decode cX10_resize 167 = .ok (.bipush (-2), 2) := by decide +kernel
theorem dX10_resize_169 : decode cX10_resize 169 = .ok (.ireturn, 1) := by decide +kernel
theorem dX10_resize_170 : decode cX10_resize 170 = .ok (.iinc 5 1, 3) := by decide +kernel
theorem dX10_resize_173 : decode cX10_resize 173 = .ok (.goto (-57), 3) := by decide +kernel
theorem dX10_resize_176 : decode cX10_resize 176 = .ok (.aload_n 0, 1) := by decide +kernel
theorem dX10_resize_177 : decode cX10_resize 177 = .ok (.invokevirtual 170, 3) := by decide +kernel
theorem dX10_resize_180 : decode cX10_resize 180 = .ok (.aload_n 0, 1) := by decide +kernel
theorem dX10_resize_181 : decode cX10_resize 181 = .ok (.getfield 7, 3) := by decide +kernel
theorem dX10_resize_184 : decode cX10_resize 184 = .ok (.iload_n 3, 1) := by decide +kernel
theorem dX10_resize_185 : decode cX10_resize 185 = .ok (.iload 4, 2) := by decide +kernel
theorem dX10_resize_187 : decode cX10_resize 187 = .ok (.iastore, 1) := by decide +kernel
theorem dX10_resize_188 : decode cX10_resize 188 = .ok (.aload_n 0, 1) := by decide +kernel
theorem dX10_resize_189 : decode cX10_resize 189 = .ok (.getfield 7, 3) := by decide +kernel
theorem dX10_resize_192 : decode cX10_resize 192 = .ok (.iload_n 3, 1) := by decide +kernel
theorem dX10_resize_193 : decode cX10_resize 193 = .ok (.iconst 1, 1) := by decide +kernel
theorem dX10_resize_194 : decode cX10_resize 194 = .ok (.iadd, 1) := by decide +kernel
theorem dX10_resize_195 : decode cX10_resize 195 = .ok (.iload_n 2, 1) := by decide +kernel
theorem dX10_resize_196 : decode cX10_resize 196 = .ok (.iastore, 1) := by decide +kernel
theorem dX10_resize_197 : decode cX10_resize 197 = .ok (.iload 4, 2) := by decide +kernel
theorem dX10_resize_199 : decode cX10_resize 199 = .ok (.ireturn, 1) := by decide +kernel
theorem dX10_givesUp_0 : decode cX10_givesUp 0 = .ok (.iconst 0, 1) := by decide +kernel
theorem dX10_givesUp_1 : decode cX10_givesUp 1 = .ok (.istore_n 2, 1) := by decide +kernel
theorem dX10_givesUp_2 : decode cX10_givesUp 2 = .ok (.iconst 0, 1) := by decide +kernel
theorem dX10_givesUp_3 : decode cX10_givesUp 3 = .ok (.istore_n 3, 1) := by decide +kernel
theorem dX10_givesUp_4 : decode cX10_givesUp 4 = .ok (.iload_n 3, 1) := by decide +kernel
theorem dX10_givesUp_5 : decode cX10_givesUp 5 = .ok (.bipush 16, 2) := by decide +kernel
theorem dX10_givesUp_7 : decode cX10_givesUp 7 = .ok (.if_icmp .ge 51, 3) := by decide +kernel
theorem dX10_givesUp_10 : decode cX10_givesUp 10 = .ok (.aload_n 0, 1) := by decide +kernel
theorem dX10_givesUp_11 : decode cX10_givesUp 11 = .ok (.getfield 7, 3) := by decide +kernel
theorem dX10_givesUp_14 : decode cX10_givesUp 14 = .ok (.iload_n 3, 1) := by decide +kernel
theorem dX10_givesUp_15 : decode cX10_givesUp 15 = .ok (.invokestatic 43, 3) := by decide +kernel
theorem dX10_givesUp_18 : decode cX10_givesUp 18 = .ok (.iaload, 1) := by decide +kernel
theorem dX10_givesUp_19 : decode cX10_givesUp 19 = .ok (.iload_n 1, 1) := by decide +kernel
theorem dX10_givesUp_20 : decode cX10_givesUp 20 = .ok (.if_icmp .ne 32, 3) := by decide +kernel
theorem dX10_givesUp_23 : decode cX10_givesUp 23 = .ok (.aload_n 0, 1) := by decide +kernel
theorem dX10_givesUp_24 : decode cX10_givesUp 24 = .ok (.getfield 7, 3) := by decide +kernel
theorem dX10_givesUp_27 : decode cX10_givesUp 27 = .ok (.iload_n 3, 1) := by decide +kernel
theorem dX10_givesUp_28 : decode cX10_givesUp 28 = .ok (.invokestatic 43, 3) := by decide +kernel
theorem dX10_givesUp_31 : decode cX10_givesUp 31 = .ok (.iconst 4, 1) := by decide +kernel
theorem dX10_givesUp_32 : decode cX10_givesUp 32 = .ok (.iadd, 1) := by decide +kernel
theorem dX10_givesUp_33 : decode cX10_givesUp 33 = .ok (.iaload, 1) := by decide +kernel
theorem dX10_givesUp_34 : decode cX10_givesUp 34 = .ok (.ifCond .lt 18, 3) := by decide +kernel
theorem dX10_givesUp_37 : decode cX10_givesUp 37 = .ok (.aload_n 0, 1) := by decide +kernel
theorem dX10_givesUp_38 : decode cX10_givesUp 38 = .ok (.getfield 7, 3) := by decide +kernel
theorem dX10_givesUp_41 : decode cX10_givesUp 41 = .ok (.iload_n 3, 1) := by decide +kernel
theorem dX10_givesUp_42 : decode cX10_givesUp 42 = .ok (.invokestatic 43, 3) := by decide +kernel
theorem dX10_givesUp_45 : decode cX10_givesUp 45 = .ok (.iconst 4, 1) := by decide +kernel
theorem dX10_givesUp_46 : decode cX10_givesUp 46 = .ok (.iadd, 1) := by decide +kernel
theorem dX10_givesUp_47 : decode cX10_givesUp 47 = .ok (.iconst (-1), 1) := by decide +kernel
theorem dX10_givesUp_48 : decode cX10_givesUp 48 = .ok (.iastore, 1) := by decide +kernel
theorem dX10_givesUp_49 : decode cX10_givesUp 49 = .ok (.iinc 2 1, 3) := by decide +kernel
theorem dX10_givesUp_52 : decode cX10_givesUp 52 = .ok (.iinc 3 1, 3) := by decide +kernel
theorem dX10_givesUp_55 : decode cX10_givesUp 55 = .ok (.goto (-51), 3) := by decide +kernel
theorem dX10_givesUp_58 : decode cX10_givesUp 58 = .ok (.aload_n 0, 1) := by decide +kernel
theorem dX10_givesUp_59 : decode cX10_givesUp 59 = .ok (.getfield 7, 3) := by decide +kernel
theorem dX10_givesUp_62 : decode cX10_givesUp 62 = .ok (.iload_n 1, 1) := by decide +kernel
theorem dX10_givesUp_63 : decode cX10_givesUp 63 = .ok (.invokestatic 35, 3) := by decide +kernel
theorem dX10_givesUp_66 : decode cX10_givesUp 66 = .ok (.iconst 2, 1) := by decide +kernel
theorem dX10_givesUp_67 : decode cX10_givesUp 67 = .ok (.iadd, 1) := by decide +kernel
theorem dX10_givesUp_68 : decode cX10_givesUp 68 = .ok (.iconst (-1), 1) := by decide +kernel
theorem dX10_givesUp_69 : decode cX10_givesUp 69 = .ok (.iastore, 1) := by decide +kernel
theorem dX10_givesUp_70 : decode cX10_givesUp 70 = .ok (.aload_n 0, 1) := by decide +kernel
theorem dX10_givesUp_71 : decode cX10_givesUp 71 = .ok (.getfield 7, 3) := by decide +kernel
theorem dX10_givesUp_74 : decode cX10_givesUp 74 = .ok (.iconst 4, 1) := by decide +kernel
theorem dX10_givesUp_75 : decode cX10_givesUp 75 = .ok (.dup2, 1) := by decide +kernel
theorem dX10_givesUp_76 : decode cX10_givesUp 76 = .ok (.iaload, 1) := by decide +kernel
theorem dX10_givesUp_77 : decode cX10_givesUp 77 = .ok (.iload_n 2, 1) := by decide +kernel
theorem dX10_givesUp_78 : decode cX10_givesUp 78 = .ok (.iadd, 1) := by decide +kernel
theorem dX10_givesUp_79 : decode cX10_givesUp 79 = .ok (.iastore, 1) := by decide +kernel
theorem dX10_givesUp_80 : decode cX10_givesUp 80 = .ok (.iload_n 2, 1) := by decide +kernel
theorem dX10_givesUp_81 : decode cX10_givesUp 81 = .ok (.ireturn, 1) := by decide +kernel
theorem dX10_moves_0 : decode cX10_moves 0 = .ok (.iload_n 1, 1) := by decide +kernel
theorem dX10_moves_1 : decode cX10_moves 1 = .ok (.invokestatic 35, 3) := by decide +kernel
theorem dX10_moves_4 : decode cX10_moves 4 = .ok (.istore 4, 2) := by decide +kernel
theorem dX10_moves_6 : decode cX10_moves 6 = .ok (.aload_n 0, 1) := by decide +kernel
theorem dX10_moves_7 : decode cX10_moves 7 = .ok (.getfield 7, 3) := by decide +kernel
theorem dX10_moves_10 : decode cX10_moves 10 = .ok (.iload 4, 2) := by decide +kernel
theorem dX10_moves_12 : decode cX10_moves 12 = .ok (.iconst 2, 1) := by decide +kernel
theorem dX10_moves_13 : decode cX10_moves 13 = .ok (.iadd, 1) := by decide +kernel
theorem dX10_moves_14 : decode cX10_moves 14 = .ok (.aload_n 0, 1) := by decide +kernel
theorem dX10_moves_15 : decode cX10_moves 15 = .ok (.getfield 7, 3) := by decide +kernel
theorem dX10_moves_18 : decode cX10_moves 18 = .ok (.iload 4, 2) := by decide +kernel
theorem dX10_moves_20 : decode cX10_moves 20 = .ok (.iaload, 1) := by decide +kernel
theorem dX10_moves_21 : decode cX10_moves 21 = .ok (.iastore, 1) := by decide +kernel
theorem dX10_moves_22 : decode cX10_moves 22 = .ok (.aload_n 0, 1) := by decide +kernel
theorem dX10_moves_23 : decode cX10_moves 23 = .ok (.getfield 7, 3) := by decide +kernel
theorem dX10_moves_26 : decode cX10_moves 26 = .ok (.iload 4, 2) := by decide +kernel
theorem dX10_moves_28 : decode cX10_moves 28 = .ok (.iconst 2, 1) := by decide +kernel
theorem dX10_moves_29 : decode cX10_moves 29 = .ok (.iadd, 1) := by decide +kernel
theorem dX10_moves_30 : decode cX10_moves 30 = .ok (.iconst 1, 1) := by decide +kernel
theorem dX10_moves_31 : decode cX10_moves 31 = .ok (.iadd, 1) := by decide +kernel
theorem dX10_moves_32 : decode cX10_moves 32 = .ok (.aload_n 0, 1) := by decide +kernel
theorem dX10_moves_33 : decode cX10_moves 33 = .ok (.getfield 7, 3) := by decide +kernel
theorem dX10_moves_36 : decode cX10_moves 36 = .ok (.iload 4, 2) := by decide +kernel
theorem dX10_moves_38 : decode cX10_moves 38 = .ok (.iconst 1, 1) := by decide +kernel
theorem dX10_moves_39 : decode cX10_moves 39 = .ok (.iadd, 1) := by decide +kernel
theorem dX10_moves_40 : decode cX10_moves 40 = .ok (.iaload, 1) := by decide +kernel
theorem dX10_moves_41 : decode cX10_moves 41 = .ok (.iastore, 1) := by decide +kernel
theorem dX10_moves_42 : decode cX10_moves 42 = .ok (.aload_n 0, 1) := by decide +kernel
theorem dX10_moves_43 : decode cX10_moves 43 = .ok (.getfield 7, 3) := by decide +kernel
theorem dX10_moves_46 : decode cX10_moves 46 = .ok (.iload 4, 2) := by decide +kernel
theorem dX10_moves_48 : decode cX10_moves 48 = .ok (.iconst 4, 1) := by decide +kernel
theorem dX10_moves_49 : decode cX10_moves 49 = .ok (.iadd, 1) := by decide +kernel
theorem dX10_moves_50 : decode cX10_moves 50 = .ok (.aload_n 0, 1) := by decide +kernel
theorem dX10_moves_51 : decode cX10_moves 51 = .ok (.getfield 7, 3) := by decide +kernel
theorem dX10_moves_54 : decode cX10_moves 54 = .ok (.iconst 0, 1) := by decide +kernel
theorem dX10_moves_55 : decode cX10_moves 55 = .ok (.iaload, 1) := by decide +kernel
theorem dX10_moves_56 : decode cX10_moves 56 = .ok (.aload_n 0, 1) := by decide +kernel
theorem dX10_moves_57 : decode cX10_moves 57 = .ok (.getfield 7, 3) := by decide +kernel
theorem dX10_moves_60 : decode cX10_moves 60 = .ok (.iconst 2, 1) := by decide +kernel
theorem dX10_moves_61 : decode cX10_moves 61 = .ok (.iaload, 1) := by decide +kernel
theorem dX10_moves_62 : decode cX10_moves 62 = .ok (.iadd, 1) := by decide +kernel
theorem dX10_moves_63 : decode cX10_moves 63 = .ok (.iastore, 1) := by decide +kernel
theorem dX10_moves_64 : decode cX10_moves 64 = .ok (.aload_n 0, 1) := by decide +kernel
theorem dX10_moves_65 : decode cX10_moves 65 = .ok (.getfield 7, 3) := by decide +kernel
theorem dX10_moves_68 : decode cX10_moves 68 = .ok (.iload 4, 2) := by decide +kernel
theorem dX10_moves_70 : decode cX10_moves 70 = .ok (.iload_n 2, 1) := by decide +kernel
theorem dX10_moves_71 : decode cX10_moves 71 = .ok (.iastore, 1) := by decide +kernel
theorem dX10_moves_72 : decode cX10_moves 72 = .ok (.aload_n 0, 1) := by decide +kernel
theorem dX10_moves_73 : decode cX10_moves 73 = .ok (.getfield 7, 3) := by decide +kernel
theorem dX10_moves_76 : decode cX10_moves 76 = .ok (.iload 4, 2) := by decide +kernel
theorem dX10_moves_78 : decode cX10_moves 78 = .ok (.iconst 1, 1) := by decide +kernel
theorem dX10_moves_79 : decode cX10_moves 79 = .ok (.iadd, 1) := by decide +kernel
theorem dX10_moves_80 : decode cX10_moves 80 = .ok (.iload_n 3, 1) := by decide +kernel
theorem dX10_moves_81 : decode cX10_moves 81 = .ok (.iastore, 1) := by decide +kernel
theorem dX10_moves_82 : decode cX10_moves 82 = .ok (.iconst 0, 1) := by decide +kernel
theorem dX10_moves_83 : decode cX10_moves 83 = .ok (.istore 5, 2) := by decide +kernel
theorem dX10_moves_85 : decode cX10_moves 85 = .ok (.iload 5, 2) := by decide +kernel
theorem dX10_moves_87 : decode cX10_moves 87 = .ok (.bipush 16, 2) := by decide +kernel
theorem dX10_moves_89 : decode cX10_moves 89 = .ok (.if_icmp .ge 77, 3) := by decide +kernel
theorem dX10_moves_92 : decode cX10_moves 92 = .ok (.iload 5, 2) := by decide +kernel
theorem dX10_moves_94 : decode cX10_moves 94 = .ok (.invokestatic 43, 3) := by decide +kernel
theorem dX10_moves_97 : decode cX10_moves 97 = .ok (.istore 6, 2) := by decide +kernel
theorem dX10_moves_99 : decode cX10_moves 99 = .ok (.aload_n 0, 1) := by decide +kernel
theorem dX10_moves_100 : decode cX10_moves 100 = .ok (.getfield 7, 3) := by decide +kernel
theorem dX10_moves_103 : decode cX10_moves 103 = .ok (.iload 6, 2) := by decide +kernel
theorem dX10_moves_105 : decode cX10_moves 105 = .ok (.iaload, 1) := by decide +kernel
theorem dX10_moves_106 : decode cX10_moves 106 = .ok (.iload_n 1, 1) := by decide +kernel
theorem dX10_moves_107 : decode cX10_moves 107 = .ok (.if_icmp .ne 53, 3) := by decide +kernel
theorem dX10_moves_110 : decode cX10_moves 110 = .ok (.aload_n 0, 1) := by decide +kernel
theorem dX10_moves_111 : decode cX10_moves 111 = .ok (.getfield 7, 3) := by decide +kernel
theorem dX10_moves_114 : decode cX10_moves 114 = .ok (.iload 6, 2) := by decide +kernel
theorem dX10_moves_116 : decode cX10_moves 116 = .ok (.iconst 4, 1) := by decide +kernel
theorem dX10_moves_117 : decode cX10_moves 117 = .ok (.iadd, 1) := by decide +kernel
theorem dX10_moves_118 : decode cX10_moves 118 = .ok (.aload_n 0, 1) := by decide +kernel
theorem dX10_moves_119 : decode cX10_moves 119 = .ok (.getfield 7, 3) := by decide +kernel
theorem dX10_moves_122 : decode cX10_moves 122 = .ok (.iload 6, 2) := by decide +kernel
theorem dX10_moves_124 : decode cX10_moves 124 = .ok (.iconst 2, 1) := by decide +kernel
theorem dX10_moves_125 : decode cX10_moves 125 = .ok (.iadd, 1) := by decide +kernel
theorem dX10_moves_126 : decode cX10_moves 126 = .ok (.iaload, 1) := by decide +kernel
theorem dX10_moves_127 : decode cX10_moves 127 = .ok (.iastore, 1) := by decide +kernel
theorem dX10_moves_128 : decode cX10_moves 128 = .ok (.aload_n 0, 1) := by decide +kernel
theorem dX10_moves_129 : decode cX10_moves 129 = .ok (.getfield 7, 3) := by decide +kernel
theorem dX10_moves_132 : decode cX10_moves 132 = .ok (.iload 6, 2) := by decide +kernel
theorem dX10_moves_134 : decode cX10_moves 134 = .ok (.iconst 4, 1) := by decide +kernel
theorem dX10_moves_135 : decode cX10_moves 135 = .ok (.iadd, 1) := by decide +kernel
theorem dX10_moves_136 : decode cX10_moves 136 = .ok (.iconst 1, 1) := by decide +kernel
theorem dX10_moves_137 : decode cX10_moves 137 = .ok (.iadd, 1) := by decide +kernel
theorem dX10_moves_138 : decode cX10_moves 138 = .ok (.aload_n 0, 1) := by decide +kernel
theorem dX10_moves_139 : decode cX10_moves 139 = .ok (.getfield 7, 3) := by decide +kernel
theorem dX10_moves_142 : decode cX10_moves 142 = .ok (.iload 6, 2) := by decide +kernel
theorem dX10_moves_144 : decode cX10_moves 144 = .ok (.iconst 2, 1) := by decide +kernel
theorem dX10_moves_145 : decode cX10_moves 145 = .ok (.iadd, 1) := by decide +kernel
theorem dX10_moves_146 : decode cX10_moves 146 = .ok (.iconst 1, 1) := by decide +kernel
theorem dX10_moves_147 : decode cX10_moves 147 = .ok (.iadd, 1) := by decide +kernel
theorem dX10_moves_148 : decode cX10_moves 148 = .ok (.iaload, 1) := by decide +kernel
theorem dX10_moves_149 : decode cX10_moves 149 = .ok (.iastore, 1) := by decide +kernel
theorem dX10_moves_150 : decode cX10_moves 150 = .ok (.aload_n 0, 1) := by decide +kernel
theorem dX10_moves_151 : decode cX10_moves 151 = .ok (.getfield 7, 3) := by decide +kernel
theorem dX10_moves_154 : decode cX10_moves 154 = .ok (.iload 6, 2) := by decide +kernel
theorem dX10_moves_156 : decode cX10_moves 156 = .ok (.iconst 2, 1) := by decide +kernel
theorem dX10_moves_157 : decode cX10_moves 157 = .ok (.iadd, 1) := by decide +kernel
theorem dX10_moves_158 : decode cX10_moves 158 = .ok (.iconst (-1), 1) := by decide +kernel
theorem dX10_moves_159 : decode cX10_moves 159 = .ok (.iastore, 1) := by decide +kernel
theorem dX10_moves_160 : decode cX10_moves 160 = .ok (.iinc 5 1, 3) := by decide +kernel
theorem dX10_moves_163 : decode cX10_moves 163 = .ok (.goto (-78), 3) := by decide +kernel
theorem dX10_moves_166 : decode cX10_moves 166 = .ok (.aload_n 0, 1) := by decide +kernel
theorem dX10_moves_167 : decode cX10_moves 167 = .ok (.getfield 7, 3) := by decide +kernel
theorem dX10_moves_170 : decode cX10_moves 170 = .ok (.iconst 2, 1) := by decide +kernel
theorem dX10_moves_171 : decode cX10_moves 171 = .ok (.iaload, 1) := by decide +kernel
theorem dX10_moves_172 : decode cX10_moves 172 = .ok (.ifCond .ne 9, 3) := by decide +kernel
theorem dX10_moves_175 : decode cX10_moves 175 = .ok (.aload_n 0, 1) := by decide +kernel
theorem dX10_moves_176 : decode cX10_moves 176 = .ok (.iload_n 1, 1) := by decide +kernel
theorem dX10_moves_177 : decode cX10_moves 177 = .ok (.invokevirtual 198, 3) := by decide +kernel
theorem dX10_moves_180 : decode cX10_moves 180 = .ok (.pop, 1) := by decide +kernel
theorem dX10_moves_181 : decode cX10_moves 181 = .ok (.return_, 1) := by decide +kernel
theorem dX10_renumber_0 : decode cX10_renumber 0 = .ok (.iload_n 1, 1) := by decide +kernel
theorem dX10_renumber_1 : decode cX10_renumber 1 = .ok (.invokestatic 183, 3) := by decide +kernel
theorem dX10_renumber_4 : decode cX10_renumber 4 = .ok (.ifCond .eq 13, 3) := by decide +kernel
theorem dX10_renumber_7 : decode cX10_renumber 7 = .ok (.iload_n 2, 1) := by decide +kernel
theorem dX10_renumber_8 : decode cX10_renumber 8 = .ok (.iconst 5, 1) := by decide +kernel
theorem dX10_renumber_9 : decode cX10_renumber 9 = .ok (.bipush 16, 2) := by decide +kernel
theorem dX10_renumber_11 : decode cX10_renumber 11 = .ok (.invokestatic 82, 3) := by decide +kernel
theorem dX10_renumber_14 : decode cX10_renumber 14 = .ok (.ifCond .ne 5, 3) := by decide +kernel
theorem dX10_renumber_17 : decode cX10_renumber 17 = .ok (.iconst (-1), 1) := by decide +kernel
theorem dX10_renumber_18 : decode cX10_renumber 18 = .ok (.ireturn, 1) := by decide +kernel
theorem dX10_renumber_19 : decode cX10_renumber 19 = .ok (.aload_n 0, 1) := by decide +kernel
theorem dX10_renumber_20 : decode cX10_renumber 20 = .ok (.iload_n 1, 1) := by decide +kernel
theorem dX10_renumber_21 : decode cX10_renumber 21 = .ok (.invokevirtual 186, 3) := by decide +kernel
theorem dX10_renumber_24 : decode cX10_renumber 24 = .ok (.ifCond .eq 11, 3) := by decide +kernel
theorem dX10_renumber_27 : decode cX10_renumber 27 = .ok (.aload_n 0, 1) := by decide +kernel
theorem dX10_renumber_28 : decode cX10_renumber 28 = .ok (.iload_n 1, 1) := by decide +kernel
theorem dX10_renumber_29 : decode cX10_renumber 29 = .ok (.invokevirtual 201, 3) := by decide +kernel
theorem dX10_renumber_32 : decode cX10_renumber 32 = .ok (.ifCond .eq 6, 3) := by decide +kernel
theorem dX10_renumber_35 : decode cX10_renumber 35 = .ok (.bipush (-2), 2) := by decide +kernel
theorem dX10_renumber_37 : decode cX10_renumber 37 = .ok (.ireturn, 1) := by decide +kernel
theorem dX10_renumber_38 : decode cX10_renumber 38 = .ok (.aload_n 0, 1) := by decide +kernel
theorem dX10_renumber_39 : decode cX10_renumber 39 = .ok (.iload_n 2, 1) := by decide +kernel
theorem dX10_renumber_40 : decode cX10_renumber 40 = .ok (.invokevirtual 136, 3) := by decide +kernel
theorem dX10_renumber_43 : decode cX10_renumber 43 = .ok (.istore_n 3, 1) := by decide +kernel
theorem dX10_renumber_44 : decode cX10_renumber 44 = .ok (.iload_n 3, 1) := by decide +kernel
theorem dX10_renumber_45 : decode cX10_renumber 45 = .ok (.ifCond .ge 6, 3) := by decide +kernel
theorem dX10_renumber_48 : decode cX10_renumber 48 = .ok (.bipush (-3), 2) := by decide +kernel
theorem dX10_renumber_50 : decode cX10_renumber 50 = .ok (.ireturn, 1) := by decide +kernel
theorem dX10_renumber_51 : decode cX10_renumber 51 = .ok (.aload_n 0, 1) := by decide +kernel
theorem dX10_renumber_52 : decode cX10_renumber 52 = .ok (.invokevirtual 170, 3) := by decide +kernel
theorem dX10_renumber_55 : decode cX10_renumber 55 = .ok (.aload_n 0, 1) := by decide +kernel
theorem dX10_renumber_56 : decode cX10_renumber 56 = .ok (.iload_n 1, 1) := by decide +kernel
theorem dX10_renumber_57 : decode cX10_renumber 57 = .ok (.iload_n 3, 1) := by decide +kernel
theorem dX10_renumber_58 : decode cX10_renumber 58 = .ok (.iload_n 2, 1) := by decide +kernel
theorem dX10_renumber_59 : decode cX10_renumber 59 = .ok (.invokevirtual 204, 3) := by decide +kernel
theorem dX10_renumber_62 : decode cX10_renumber 62 = .ok (.iload_n 3, 1) := by decide +kernel
theorem dX10_renumber_63 : decode cX10_renumber 63 = .ok (.ireturn, 1) := by decide +kernel
theorem dX10_highest_0 : decode cX10_highest 0 = .ok (.iconst (-1), 1) := by decide +kernel
theorem dX10_highest_1 : decode cX10_highest 1 = .ok (.istore_n 2, 1) := by decide +kernel
theorem dX10_highest_2 : decode cX10_highest 2 = .ok (.iconst 0, 1) := by decide +kernel
theorem dX10_highest_3 : decode cX10_highest 3 = .ok (.istore_n 3, 1) := by decide +kernel
theorem dX10_highest_4 : decode cX10_highest 4 = .ok (.iload_n 3, 1) := by decide +kernel
theorem dX10_highest_5 : decode cX10_highest 5 = .ok (.bipush 12, 2) := by decide +kernel
theorem dX10_highest_7 : decode cX10_highest 7 = .ok (.if_icmp .ge 81, 3) := by decide +kernel
theorem dX10_highest_10 : decode cX10_highest 10 = .ok (.aload_n 0, 1) := by decide +kernel
theorem dX10_highest_11 : decode cX10_highest 11 = .ok (.getfield 20, 3) := by decide +kernel
theorem dX10_highest_14 : decode cX10_highest 14 = .ok (.iload_n 3, 1) := by decide +kernel
theorem dX10_highest_15 : decode cX10_highest 15 = .ok (.invokestatic 35, 3) := by decide +kernel
theorem dX10_highest_18 : decode cX10_highest 18 = .ok (.iaload, 1) := by decide +kernel
theorem dX10_highest_19 : decode cX10_highest 19 = .ok (.istore 4, 2) := by decide +kernel
theorem dX10_highest_21 : decode cX10_highest 21 = .ok (.iload 4, 2) := by decide +kernel
theorem dX10_highest_23 : decode cX10_highest 23 = .ok (.ifCond .lt 27, 3) := by decide +kernel
theorem dX10_highest_26 : decode cX10_highest 26 = .ok (.aload_n 0, 1) := by decide +kernel
theorem dX10_highest_27 : decode cX10_highest 27 = .ok (.getfield 20, 3) := by decide +kernel
theorem dX10_highest_30 : decode cX10_highest 30 = .ok (.iload_n 3, 1) := by decide +kernel
theorem dX10_highest_31 : decode cX10_highest 31 = .ok (.invokestatic 35, 3) := by decide +kernel
theorem dX10_highest_34 : decode cX10_highest 34 = .ok (.iconst 2, 1) := by decide +kernel
theorem dX10_highest_35 : decode cX10_highest 35 = .ok (.iadd, 1) := by decide +kernel
theorem dX10_highest_36 : decode cX10_highest 36 = .ok (.iaload, 1) := by decide +kernel
theorem dX10_highest_37 : decode cX10_highest 37 = .ok (.ifCond .ge 13, 3) := by decide +kernel
theorem dX10_highest_40 : decode cX10_highest 40 = .ok (.iload 4, 2) := by decide +kernel
theorem dX10_highest_42 : decode cX10_highest 42 = .ok (.iload_n 1, 1) := by decide +kernel
theorem dX10_highest_43 : decode cX10_highest 43 = .ok (.if_icmp .ge 7, 3) := by decide +kernel
theorem dX10_highest_46 : decode cX10_highest 46 = .ok (.iconst 1, 1) := by decide +kernel
theorem dX10_highest_47 : decode cX10_highest 47 = .ok (.goto 4, 3) := by decide +kernel
theorem dX10_highest_50 : decode cX10_highest 50 = .ok (.iconst 0, 1) := by decide +kernel
theorem dX10_highest_51 : decode cX10_highest 51 = .ok (.istore 5, 2) := by decide +kernel
theorem dX10_highest_53 : decode cX10_highest 53 = .ok (.iload 5, 2) := by decide +kernel
theorem dX10_highest_55 : decode cX10_highest 55 = .ok (.ifCond .eq 25, 3) := by decide +kernel
theorem dX10_highest_58 : decode cX10_highest 58 = .ok (.iload_n 2, 1) := by decide +kernel
theorem dX10_highest_59 : decode cX10_highest 59 = .ok (.ifCond .lt 17, 3) := by decide +kernel
theorem dX10_highest_62 : decode cX10_highest 62 = .ok (.iload 4, 2) := by decide +kernel
theorem dX10_highest_64 : decode cX10_highest 64 = .ok (.aload_n 0, 1) := by decide +kernel
theorem dX10_highest_65 : decode cX10_highest 65 = .ok (.getfield 20, 3) := by decide +kernel
theorem dX10_highest_68 : decode cX10_highest 68 = .ok (.iload_n 2, 1) := by decide +kernel
theorem dX10_highest_69 : decode cX10_highest 69 = .ok (.invokestatic 35, 3) := by decide +kernel
theorem dX10_highest_72 : decode cX10_highest 72 = .ok (.iaload, 1) := by decide +kernel
theorem dX10_highest_73 : decode cX10_highest 73 = .ok (.if_icmp .le 7, 3) := by decide +kernel
theorem dX10_highest_76 : decode cX10_highest 76 = .ok (.iload_n 3, 1) := by decide +kernel
theorem dX10_highest_77 : decode cX10_highest 77 = .ok (.goto 4, 3) := by decide +kernel
theorem dX10_highest_80 : decode cX10_highest 80 = .ok (.iload_n 2, 1) := by decide +kernel
theorem dX10_highest_81 : decode cX10_highest 81 = .ok (.istore_n 2, 1) := by decide +kernel
theorem dX10_highest_82 : decode cX10_highest 82 = .ok (.iinc 3 1, 3) := by decide +kernel
theorem dX10_highest_85 : decode cX10_highest 85 = .ok (.goto (-81), 3) := by decide +kernel
theorem dX10_highest_88 : decode cX10_highest 88 = .ok (.iload_n 2, 1) := by decide +kernel
theorem dX10_highest_89 : decode cX10_highest 89 = .ok (.ireturn, 1) := by decide +kernel
theorem dX10_wave_0 : decode cX10_wave 0 = .ok (.iload_n 1, 1) := by decide +kernel
theorem dX10_wave_1 : decode cX10_wave 1 = .ok (.iconst 1, 1) := by decide +kernel
theorem dX10_wave_2 : decode cX10_wave 2 = .ok (.bipush 12, 2) := by decide +kernel
theorem dX10_wave_4 : decode cX10_wave 4 = .ok (.invokestatic 82, 3) := by decide +kernel
theorem dX10_wave_7 : decode cX10_wave 7 = .ok (.ifCond .ne 5, 3) := by decide +kernel
theorem dX10_wave_10 : decode cX10_wave 10 = .ok (.iconst (-1), 1) := by decide +kernel
theorem dX10_wave_11 : decode cX10_wave 11 = .ok (.ireturn, 1) := by decide +kernel
theorem dX10_wave_12 : decode cX10_wave 12 = .ok (.aload_n 0, 1) := by decide +kernel
theorem dX10_wave_13 : decode cX10_wave 13 = .ok (.invokevirtual 161, 3) := by decide +kernel
theorem dX10_wave_16 : decode cX10_wave 16 = .ok (.iconst 0, 1) := by decide +kernel
theorem dX10_wave_17 : decode cX10_wave 17 = .ok (.istore_n 2, 1) := by decide +kernel
theorem dX10_wave_18 : decode cX10_wave 18 = .ok (.aload_n 0, 1) := by decide +kernel
theorem dX10_wave_19 : decode cX10_wave 19 = .ok (.ldc 207, 2) := by decide +kernel
theorem dX10_wave_21 : decode cX10_wave 21 = .ok (.invokevirtual 208, 3) := by decide +kernel
theorem dX10_wave_24 : decode cX10_wave 24 = .ok (.istore_n 3, 1) := by decide +kernel
theorem dX10_wave_25 : decode cX10_wave 25 = .ok (.iload_n 3, 1) := by decide +kernel
theorem dX10_wave_26 : decode cX10_wave 26 = .ok (.ifCond .lt 82, 3) := by decide +kernel
theorem dX10_wave_29 : decode cX10_wave 29 = .ok (.iload_n 2, 1) := by decide +kernel
theorem dX10_wave_30 : decode cX10_wave 30 = .ok (.iload_n 1, 1) := by decide +kernel
theorem dX10_wave_31 : decode cX10_wave 31 = .ok (.if_icmp .ge 77, 3) := by decide +kernel
theorem dX10_wave_34 : decode cX10_wave 34 = .ok (.aload_n 0, 1) := by decide +kernel
theorem dX10_wave_35 : decode cX10_wave 35 = .ok (.aload_n 0, 1) := by decide +kernel
theorem dX10_wave_36 : decode cX10_wave 36 = .ok (.getfield 7, 3) := by decide +kernel
theorem dX10_wave_39 : decode cX10_wave 39 = .ok (.iload_n 3, 1) := by decide +kernel
theorem dX10_wave_40 : decode cX10_wave 40 = .ok (.invokestatic 35, 3) := by decide +kernel
theorem dX10_wave_43 : decode cX10_wave 43 = .ok (.iconst 1, 1) := by decide +kernel
theorem dX10_wave_44 : decode cX10_wave 44 = .ok (.iadd, 1) := by decide +kernel
theorem dX10_wave_45 : decode cX10_wave 45 = .ok (.iaload, 1) := by decide +kernel
theorem dX10_wave_46 : decode cX10_wave 46 = .ok (.invokevirtual 136, 3) := by decide +kernel
theorem dX10_wave_49 : decode cX10_wave 49 = .ok (.istore 4, 2) := by decide +kernel
theorem dX10_wave_51 : decode cX10_wave 51 = .ok (.iload 4, 2) := by decide +kernel
theorem dX10_wave_53 : decode cX10_wave 53 = .ok (.ifCond .lt 38, 3) := by decide +kernel
theorem dX10_wave_56 : decode cX10_wave 56 = .ok (.iload 4, 2) := by decide +kernel
theorem dX10_wave_58 : decode cX10_wave 58 = .ok (.aload_n 0, 1) := by decide +kernel
theorem dX10_wave_59 : decode cX10_wave 59 = .ok (.getfield 7, 3) := by decide +kernel
theorem dX10_wave_62 : decode cX10_wave 62 = .ok (.iload_n 3, 1) := by decide +kernel
theorem dX10_wave_63 : decode cX10_wave 63 = .ok (.invokestatic 35, 3) := by decide +kernel
theorem dX10_wave_66 : decode cX10_wave 66 = .ok (.iaload, 1) := by decide +kernel
theorem dX10_wave_67 : decode cX10_wave 67 = .ok (.if_icmp .ge 24, 3) := by decide +kernel
theorem dX10_wave_70 : decode cX10_wave 70 = .ok (.aload_n 0, 1) := by decide +kernel
theorem dX10_wave_71 : decode cX10_wave 71 = .ok (.iload_n 3, 1) := by decide +kernel
theorem dX10_wave_72 : decode cX10_wave 72 = .ok (.iload 4, 2) := by decide +kernel
theorem dX10_wave_74 : decode cX10_wave 74 = .ok (.aload_n 0, 1) := by decide +kernel
theorem dX10_wave_75 : decode cX10_wave 75 = .ok (.getfield 7, 3) := by decide +kernel
theorem dX10_wave_78 : decode cX10_wave 78 = .ok (.iload_n 3, 1) := by decide +kernel
theorem dX10_wave_79 : decode cX10_wave 79 = .ok (.invokestatic 35, 3) := by decide +kernel
theorem dX10_wave_82 : decode cX10_wave 82 = .ok (.iconst 1, 1) := by decide +kernel
theorem dX10_wave_83 : decode cX10_wave 83 = .ok (.iadd, 1) := by decide +kernel
theorem dX10_wave_84 : decode cX10_wave 84 = .ok (.iaload, 1) := by decide +kernel
theorem dX10_wave_85 : decode cX10_wave 85 = .ok (.invokevirtual 204, 3) := by decide +kernel
theorem dX10_wave_88 : decode cX10_wave 88 = .ok (.iinc 2 1, 3) := by decide +kernel
theorem dX10_wave_91 : decode cX10_wave 91 = .ok (.aload_n 0, 1) := by decide +kernel
theorem dX10_wave_92 : decode cX10_wave 92 = .ok (.aload_n 0, 1) := by decide +kernel
theorem dX10_wave_93 : decode cX10_wave 93 = .ok (.getfield 20, 3) := by decide +kernel
theorem dX10_wave_96 : decode cX10_wave 96 = .ok (.iload_n 3, 1) := by decide +kernel
theorem dX10_wave_97 : decode cX10_wave 97 = .ok (.invokestatic 35, 3) := by decide +kernel
theorem dX10_wave_100 : decode cX10_wave 100 = .ok (.iaload, 1) := by decide +kernel
theorem dX10_wave_101 : decode cX10_wave 101 = .ok (.invokevirtual 208, 3) := by decide +kernel
theorem dX10_wave_104 : decode cX10_wave 104 = .ok (.istore_n 3, 1) := by decide +kernel
theorem dX10_wave_105 : decode cX10_wave 105 = .ok (.goto (-80), 3) := by decide +kernel
theorem dX10_wave_108 : decode cX10_wave 108 = .ok (.iload_n 2, 1) := by decide +kernel
theorem dX10_wave_109 : decode cX10_wave 109 = .ok (.ifCond .ne 6, 3) := by decide +kernel
theorem dX10_wave_112 : decode cX10_wave 112 = .ok (.bipush (-2), 2) := by decide +kernel
theorem dX10_wave_114 : decode cX10_wave 114 = .ok (.ireturn, 1) := by decide +kernel
theorem dX10_wave_115 : decode cX10_wave 115 = .ok (.aload_n 0, 1) := by decide +kernel
theorem dX10_wave_116 : decode cX10_wave 116 = .ok (.invokevirtual 167, 3) := by decide +kernel
theorem dX10_wave_119 : decode cX10_wave 119 = .ok (.aload_n 0, 1) := by decide +kernel
theorem dX10_wave_120 : decode cX10_wave 120 = .ok (.invokevirtual 170, 3) := by decide +kernel
theorem dX10_wave_123 : decode cX10_wave 123 = .ok (.aload_n 0, 1) := by decide +kernel
theorem dX10_wave_124 : decode cX10_wave 124 = .ok (.invokevirtual 167, 3) := by decide +kernel
theorem dX10_wave_127 : decode cX10_wave 127 = .ok (.iload_n 2, 1) := by decide +kernel
theorem dX10_wave_128 : decode cX10_wave 128 = .ok (.ireturn, 1) := by decide +kernel
theorem dX10_network_0 : decode cX10_network 0 = .ok (.iload_n 1, 1) := by decide +kernel
theorem dX10_network_1 : decode cX10_network 1 = .ok (.invokestatic 183, 3) := by decide +kernel
theorem dX10_network_4 : decode cX10_network 4 = .ok (.ifCond .eq 12, 3) := by decide +kernel
theorem dX10_network_7 : decode cX10_network 7 = .ok (.iload_n 2, 1) := by decide +kernel
theorem dX10_network_8 : decode cX10_network 8 = .ok (.iconst 0, 1) := by decide +kernel
theorem dX10_network_9 : decode cX10_network 9 = .ok (.iconst 5, 1) := by decide +kernel
theorem dX10_network_10 : decode cX10_network 10 = .ok (.invokestatic 82, 3) := by decide +kernel
theorem dX10_network_13 : decode cX10_network 13 = .ok (.ifCond .ne 5, 3) := by decide +kernel
theorem dX10_network_16 : decode cX10_network 16 = .ok (.iconst (-1), 1) := by decide +kernel
theorem dX10_network_17 : decode cX10_network 17 = .ok (.ireturn, 1) := by decide +kernel
theorem dX10_network_18 : decode cX10_network 18 = .ok (.iload_n 2, 1) := by decide +kernel
theorem dX10_network_19 : decode cX10_network 19 = .ok (.iconst 5, 1) := by decide +kernel
theorem dX10_network_20 : decode cX10_network 20 = .ok (.if_icmp .ne 9, 3) := by decide +kernel
theorem dX10_network_23 : decode cX10_network 23 = .ok (.aload_n 0, 1) := by decide +kernel
theorem dX10_network_24 : decode cX10_network 24 = .ok (.iload_n 1, 1) := by decide +kernel
theorem dX10_network_25 : decode cX10_network 25 = .ok (.invokevirtual 189, 3) := by decide +kernel
theorem dX10_network_28 : decode cX10_network 28 = .ok (.ireturn, 1) := by decide +kernel
theorem dX10_network_29 : decode cX10_network 29 = .ok (.iload_n 2, 1) := by decide +kernel
theorem dX10_network_30 : decode cX10_network 30 = .ok (.iconst 2, 1) := by decide +kernel
theorem dX10_network_31 : decode cX10_network 31 = .ok (.if_icmp .ge 14, 3) := by decide +kernel
theorem dX10_network_34 : decode cX10_network 34 = .ok (.aload_n 0, 1) := by decide +kernel
theorem dX10_network_35 : decode cX10_network 35 = .ok (.iload_n 1, 1) := by decide +kernel
theorem dX10_network_36 : decode cX10_network 36 = .ok (.invokevirtual 186, 3) := by decide +kernel
theorem dX10_network_39 : decode cX10_network 39 = .ok (.ifCond .eq 28, 3) := by decide +kernel
theorem dX10_network_42 : decode cX10_network 42 = .ok (.goto 11, 3) := by decide +kernel
theorem dX10_network_45 : decode cX10_network 45 = .ok (.aload_n 0, 1) := by decide +kernel
theorem dX10_network_46 : decode cX10_network 46 = .ok (.iload_n 1, 1) := by decide +kernel
theorem dX10_network_47 : decode cX10_network 47 = .ok (.invokevirtual 201, 3) := by decide +kernel
theorem dX10_network_50 : decode cX10_network 50 = .ok (.ifCond .eq 17, 3) := by decide +kernel
theorem dX10_network_53 : decode cX10_network 53 = .ok (.aload_n 0, 1) := by decide +kernel
theorem dX10_network_54 : decode cX10_network 54 = .ok (.getfield 7, 3) := by decide +kernel
theorem dX10_network_57 : decode cX10_network 57 = .ok (.iload_n 1, 1) := by decide +kernel
theorem dX10_network_58 : decode cX10_network 58 = .ok (.invokestatic 35, 3) := by decide +kernel
theorem dX10_network_61 : decode cX10_network 61 = .ok (.iload_n 2, 1) := by decide +kernel
theorem dX10_network_62 : decode cX10_network 62 = .ok (.iadd, 1) := by decide +kernel
theorem dX10_network_63 : decode cX10_network 63 = .ok (.iaload, 1) := by decide +kernel
theorem dX10_network_64 : decode cX10_network 64 = .ok (.goto 5, 3) := by decide +kernel
theorem dX10_network_67 : decode cX10_network 67 = .ok (.bipush (-9), 2) := by decide +kernel
theorem dX10_network_69 : decode cX10_network 69 = .ok (.ireturn, 1) := by decide +kernel
theorem dX10_owner_0 : decode cX10_owner 0 = .ok (.iload_n 1, 1) := by decide +kernel
theorem dX10_owner_1 : decode cX10_owner 1 = .ok (.iconst 0, 1) := by decide +kernel
theorem dX10_owner_2 : decode cX10_owner 2 = .ok (.ldc 128, 2) := by decide +kernel
theorem dX10_owner_4 : decode cX10_owner 4 = .ok (.invokestatic 82, 3) := by decide +kernel
theorem dX10_owner_7 : decode cX10_owner 7 = .ok (.ifCond .ne 5, 3) := by decide +kernel
theorem dX10_owner_10 : decode cX10_owner 10 = .ok (.iconst (-1), 1) := by decide +kernel
theorem dX10_owner_11 : decode cX10_owner 11 = .ok (.ireturn, 1) := by decide +kernel
theorem dX10_owner_12 : decode cX10_owner 12 = .ok (.iconst 0, 1) := by decide +kernel
theorem dX10_owner_13 : decode cX10_owner 13 = .ok (.istore_n 2, 1) := by decide +kernel
theorem dX10_owner_14 : decode cX10_owner 14 = .ok (.iload_n 2, 1) := by decide +kernel
theorem dX10_owner_15 : decode cX10_owner 15 = .ok (.bipush 24, 2) := by decide +kernel
theorem dX10_owner_17 : decode cX10_owner 17 = .ok (.if_icmp .ge 49, 3) := by decide +kernel
theorem dX10_owner_20 : decode cX10_owner 20 = .ok (.aload_n 0, 1) := by decide +kernel
theorem dX10_owner_21 : decode cX10_owner 21 = .ok (.iload_n 2, 1) := by decide +kernel
theorem dX10_owner_22 : decode cX10_owner 22 = .ok (.invokevirtual 50, 3) := by decide +kernel
theorem dX10_owner_25 : decode cX10_owner 25 = .ok (.ifCond .lt 35, 3) := by decide +kernel
theorem dX10_owner_28 : decode cX10_owner 28 = .ok (.iload_n 1, 1) := by decide +kernel
theorem dX10_owner_29 : decode cX10_owner 29 = .ok (.aload_n 0, 1) := by decide +kernel
theorem dX10_owner_30 : decode cX10_owner 30 = .ok (.iload_n 2, 1) := by decide +kernel
theorem dX10_owner_31 : decode cX10_owner 31 = .ok (.invokevirtual 50, 3) := by decide +kernel
theorem dX10_owner_34 : decode cX10_owner 34 = .ok (.aload_n 0, 1) := by decide +kernel
theorem dX10_owner_35 : decode cX10_owner 35 = .ok (.iload_n 2, 1) := by decide +kernel
theorem dX10_owner_36 : decode cX10_owner 36 = .ok (.invokevirtual 50, 3) := by decide +kernel
theorem dX10_owner_39 : decode cX10_owner 39 = .ok (.aload_n 0, 1) := by decide +kernel
theorem dX10_owner_40 : decode cX10_owner 40 = .ok (.iload_n 2, 1) := by decide +kernel
theorem dX10_owner_41 : decode cX10_owner 41 = .ok (.invokevirtual 53, 3) := by decide +kernel
theorem dX10_owner_44 : decode cX10_owner 44 = .ok (.invokestatic 56, 3) := by decide +kernel
theorem dX10_owner_47 : decode cX10_owner 47 = .ok (.iadd, 1) := by decide +kernel
theorem dX10_owner_48 : decode cX10_owner 48 = .ok (.iconst 1, 1) := by decide +kernel
theorem dX10_owner_49 : decode cX10_owner 49 = .ok (.isub, 1) := by decide +kernel
theorem dX10_owner_50 : decode cX10_owner 50 = .ok (.invokestatic 82, 3) := by decide +kernel
theorem dX10_owner_53 : decode cX10_owner 53 = .ok (.ifCond .eq 7, 3) := by decide +kernel
theorem dX10_owner_56 : decode cX10_owner 56 = .ok (.iload_n 2, 1) := by decide +kernel
theorem dX10_owner_57 : decode cX10_owner 57 = .ok (.iconst 2, 1) := by decide +kernel
theorem dX10_owner_58 : decode cX10_owner 58 = .ok (.idiv, 1) := by decide +kernel
theorem dX10_owner_59 : decode cX10_owner 59 = .ok (.ireturn, 1) := by decide +kernel
theorem dX10_owner_60 : decode cX10_owner 60 = .ok (.iinc 2 1, 3) := by decide +kernel
theorem dX10_owner_63 : decode cX10_owner 63 = .ok (.goto (-49), 3) := by decide +kernel
theorem dX10_owner_66 : decode cX10_owner 66 = .ok (.bipush (-9), 2) := by decide +kernel
theorem dX10_owner_68 : decode cX10_owner 68 = .ok (.ireturn, 1) := by decide +kernel
theorem dX10_isHost_0 : decode cX10_isHost 0 = .ok (.iload_n 0, 1) := by decide +kernel
theorem dX10_isHost_1 : decode cX10_isHost 1 = .ok (.iconst 0, 1) := by decide +kernel
theorem dX10_isHost_2 : decode cX10_isHost 2 = .ok (.bipush 15, 2) := by decide +kernel
theorem dX10_isHost_4 : decode cX10_isHost 4 = .ok (.invokestatic 82, 3) := by decide +kernel
theorem dX10_isHost_7 : decode cX10_isHost 7 = .ok (.ireturn, 1) := by decide +kernel
theorem dX10_addHost_0 : decode cX10_addHost 0 = .ok (.iload_n 1, 1) := by decide +kernel
theorem dX10_addHost_1 : decode cX10_addHost 1 = .ok (.invokestatic 211, 3) := by decide +kernel
theorem dX10_addHost_4 : decode cX10_addHost 4 = .ok (.ifCond .eq 19, 3) := by decide +kernel
theorem dX10_addHost_7 : decode cX10_addHost 7 = .ok (.iload_n 2, 1) := by decide +kernel
theorem dX10_addHost_8 : decode cX10_addHost 8 = .ok (.invokestatic 183, 3) := by decide +kernel
theorem dX10_addHost_11 : decode cX10_addHost 11 = .ok (.ifCond .eq 12, 3) := by decide +kernel
theorem dX10_addHost_14 : decode cX10_addHost 14 = .ok (.iload_n 3, 1) := by decide +kernel
theorem dX10_addHost_15 : decode cX10_addHost 15 = .ok (.iconst 0, 1) := by decide +kernel
theorem dX10_addHost_16 : decode cX10_addHost 16 = .ok (.iconst 1, 1) := by decide +kernel
theorem dX10_addHost_17 : decode cX10_addHost 17 = .ok (.invokestatic 82, 3) := by decide +kernel
theorem dX10_addHost_20 : decode cX10_addHost 20 = .ok (.ifCond .ne 5, 3) := by decide +kernel
theorem dX10_addHost_23 : decode cX10_addHost 23 = .ok (.iconst (-1), 1) := by decide +kernel
theorem dX10_addHost_24 : decode cX10_addHost 24 = .ok (.ireturn, 1) := by decide +kernel
theorem dX10_addHost_25 : decode cX10_addHost 25 = .ok (.aload_n 0, 1) := by decide +kernel
theorem dX10_addHost_26 : decode cX10_addHost 26 = .ok (.getfield 7, 3) := by decide +kernel
theorem dX10_addHost_29 : decode cX10_addHost 29 = .ok (.iload_n 1, 1) := by decide +kernel
theorem dX10_addHost_30 : decode cX10_addHost 30 = .ok (.invokestatic 43, 3) := by decide +kernel
theorem dX10_addHost_33 : decode cX10_addHost 33 = .ok (.iaload, 1) := by decide +kernel
theorem dX10_addHost_34 : decode cX10_addHost 34 = .ok (.ifCond .ge 11, 3) := by decide +kernel
theorem dX10_addHost_37 : decode cX10_addHost 37 = .ok (.aload_n 0, 1) := by decide +kernel
theorem dX10_addHost_38 : decode cX10_addHost 38 = .ok (.iload_n 2, 1) := by decide +kernel
theorem dX10_addHost_39 : decode cX10_addHost 39 = .ok (.invokevirtual 186, 3) := by decide +kernel
theorem dX10_addHost_42 : decode cX10_addHost 42 = .ok (.ifCond .ne 6, 3) := by decide +kernel
theorem dX10_addHost_45 : decode cX10_addHost 45 = .ok (.bipush (-2), 2) := by decide +kernel
theorem dX10_addHost_47 : decode cX10_addHost 47 = .ok (.ireturn, 1) := by decide +kernel
theorem dX10_addHost_48 : decode cX10_addHost 48 = .ok (.aload_n 0, 1) := by decide +kernel
theorem dX10_addHost_49 : decode cX10_addHost 49 = .ok (.invokevirtual 170, 3) := by decide +kernel
theorem dX10_addHost_52 : decode cX10_addHost 52 = .ok (.aload_n 0, 1) := by decide +kernel
theorem dX10_addHost_53 : decode cX10_addHost 53 = .ok (.getfield 7, 3) := by decide +kernel
theorem dX10_addHost_56 : decode cX10_addHost 56 = .ok (.iload_n 1, 1) := by decide +kernel
theorem dX10_addHost_57 : decode cX10_addHost 57 = .ok (.invokestatic 43, 3) := by decide +kernel
theorem dX10_addHost_60 : decode cX10_addHost 60 = .ok (.iload_n 2, 1) := by decide +kernel
theorem dX10_addHost_61 : decode cX10_addHost 61 = .ok (.iastore, 1) := by decide +kernel
theorem dX10_addHost_62 : decode cX10_addHost 62 = .ok (.aload_n 0, 1) := by decide +kernel
theorem dX10_addHost_63 : decode cX10_addHost 63 = .ok (.getfield 7, 3) := by decide +kernel
theorem dX10_addHost_66 : decode cX10_addHost 66 = .ok (.iload_n 1, 1) := by decide +kernel
theorem dX10_addHost_67 : decode cX10_addHost 67 = .ok (.invokestatic 43, 3) := by decide +kernel
theorem dX10_addHost_70 : decode cX10_addHost 70 = .ok (.iconst 1, 1) := by decide +kernel
theorem dX10_addHost_71 : decode cX10_addHost 71 = .ok (.iadd, 1) := by decide +kernel
theorem dX10_addHost_72 : decode cX10_addHost 72 = .ok (.iload_n 3, 1) := by decide +kernel
theorem dX10_addHost_73 : decode cX10_addHost 73 = .ok (.iastore, 1) := by decide +kernel
theorem dX10_addHost_74 : decode cX10_addHost 74 = .ok (.aload_n 0, 1) := by decide +kernel
theorem dX10_addHost_75 : decode cX10_addHost 75 = .ok (.iload_n 2, 1) := by decide +kernel
theorem dX10_addHost_76 : decode cX10_addHost 76 = .ok (.invokevirtual 189, 3) := by decide +kernel
theorem dX10_addHost_79 : decode cX10_addHost 79 = .ok (.ireturn, 1) := by decide +kernel
theorem dX10_removeHost_0 : decode cX10_removeHost 0 = .ok (.iload_n 1, 1) := by decide +kernel
theorem dX10_removeHost_1 : decode cX10_removeHost 1 = .ok (.invokestatic 211, 3) := by decide +kernel
theorem dX10_removeHost_4 : decode cX10_removeHost 4 = .ok (.ifCond .ne 5, 3) := by decide +kernel
theorem dX10_removeHost_7 : decode cX10_removeHost 7 = .ok (.iconst (-1), 1) := by decide +kernel
theorem dX10_removeHost_8 : decode cX10_removeHost 8 = .ok (.ireturn, 1) := by decide +kernel
theorem dX10_removeHost_9 : decode cX10_removeHost 9 = .ok (.iload_n 1, 1) := by decide +kernel
theorem dX10_removeHost_10 : decode cX10_removeHost 10 = .ok (.invokestatic 43, 3) := by decide +kernel
theorem dX10_removeHost_13 : decode cX10_removeHost 13 = .ok (.istore_n 2, 1) := by decide +kernel
theorem dX10_removeHost_14 : decode cX10_removeHost 14 = .ok (.aload_n 0, 1) := by decide +kernel
theorem dX10_removeHost_15 : decode cX10_removeHost 15 = .ok (.getfield 7, 3) := by decide +kernel
theorem dX10_removeHost_18 : decode cX10_removeHost 18 = .ok (.iload_n 2, 1) := by decide +kernel
theorem dX10_removeHost_19 : decode cX10_removeHost 19 = .ok (.iaload, 1) := by decide +kernel
theorem dX10_removeHost_20 : decode cX10_removeHost 20 = .ok (.ifCond .ge 6, 3) := by decide +kernel
theorem dX10_removeHost_23 : decode cX10_removeHost 23 = .ok (.bipush (-2), 2) := by decide +kernel
theorem dX10_removeHost_25 : decode cX10_removeHost 25 = .ok (.ireturn, 1) := by decide +kernel
theorem dX10_removeHost_26 : decode cX10_removeHost 26 = .ok (.aload_n 0, 1) := by decide +kernel
theorem dX10_removeHost_27 : decode cX10_removeHost 27 = .ok (.invokevirtual 170, 3) := by decide +kernel
theorem dX10_removeHost_30 : decode cX10_removeHost 30 = .ok (.aload_n 0, 1) := by decide +kernel
theorem dX10_removeHost_31 : decode cX10_removeHost 31 = .ok (.getfield 7, 3) := by decide +kernel
theorem dX10_removeHost_34 : decode cX10_removeHost 34 = .ok (.iload_n 2, 1) := by decide +kernel
theorem dX10_removeHost_35 : decode cX10_removeHost 35 = .ok (.iconst 2, 1) := by decide +kernel
theorem dX10_removeHost_36 : decode cX10_removeHost 36 = .ok (.iadd, 1) := by decide +kernel
theorem dX10_removeHost_37 : decode cX10_removeHost 37 = .ok (.iaload, 1) := by decide +kernel
theorem dX10_removeHost_38 : decode cX10_removeHost 38 = .ok (.ifCond .lt 7, 3) := by decide +kernel
theorem dX10_removeHost_41 : decode cX10_removeHost 41 = .ok (.iconst 1, 1) := by decide +kernel
theorem dX10_removeHost_42 : decode cX10_removeHost 42 = .ok (.goto 4, 3) := by decide +kernel
theorem dX10_removeHost_45 : decode cX10_removeHost 45 = .ok (.iconst 0, 1) := by decide +kernel
theorem dX10_removeHost_46 : decode cX10_removeHost 46 = .ok (.aload_n 0, 1) := by decide +kernel
theorem dX10_removeHost_47 : decode cX10_removeHost 47 = .ok (.getfield 7, 3) := by decide +kernel
theorem dX10_removeHost_50 : decode cX10_removeHost 50 = .ok (.iload_n 2, 1) := by decide +kernel
theorem dX10_removeHost_51 : decode cX10_removeHost 51 = .ok (.iconst 4, 1) := by decide +kernel
theorem dX10_removeHost_52 : decode cX10_removeHost 52 = .ok (.iadd, 1) := by decide +kernel
theorem dX10_removeHost_53 : decode cX10_removeHost 53 = .ok (.iaload, 1) := by decide +kernel
theorem dX10_removeHost_54 : decode cX10_removeHost 54 = .ok (.ifCond .lt 7, 3) := by decide +kernel
theorem dX10_removeHost_57 : decode cX10_removeHost 57 = .ok (.iconst 1, 1) := by decide +kernel
theorem dX10_removeHost_58 : decode cX10_removeHost 58 = .ok (.goto 4, 3) := by decide +kernel
theorem dX10_removeHost_61 : decode cX10_removeHost 61 = .ok (.iconst 0, 1) := by decide +kernel
theorem dX10_removeHost_62 : decode cX10_removeHost 62 = .ok (.iadd, 1) := by decide +kernel
theorem dX10_removeHost_63 : decode cX10_removeHost 63 = .ok (.istore_n 3, 1) := by decide +kernel
theorem dX10_removeHost_64 : decode cX10_removeHost 64 = .ok (.aload_n 0, 1) := by decide +kernel
theorem dX10_removeHost_65 : decode cX10_removeHost 65 = .ok (.iload_n 1, 1) := by decide +kernel
theorem dX10_removeHost_66 : decode cX10_removeHost 66 = .ok (.invokevirtual 39, 3) := by decide +kernel
theorem dX10_removeHost_69 : decode cX10_removeHost 69 = .ok (.iload_n 3, 1) := by decide +kernel
theorem dX10_removeHost_70 : decode cX10_removeHost 70 = .ok (.ireturn, 1) := by decide +kernel
theorem dX10_holder_0 : decode cX10_holder 0 = .ok (.iconst 0, 1) := by decide +kernel
theorem dX10_holder_1 : decode cX10_holder 1 = .ok (.istore_n 2, 1) := by decide +kernel
theorem dX10_holder_2 : decode cX10_holder 2 = .ok (.iload_n 2, 1) := by decide +kernel
theorem dX10_holder_3 : decode cX10_holder 3 = .ok (.bipush 16, 2) := by decide +kernel
theorem dX10_holder_5 : decode cX10_holder 5 = .ok (.if_icmp .ge 41, 3) := by decide +kernel
theorem dX10_holder_8 : decode cX10_holder 8 = .ok (.aload_n 0, 1) := by decide +kernel
theorem dX10_holder_9 : decode cX10_holder 9 = .ok (.getfield 7, 3) := by decide +kernel
theorem dX10_holder_12 : decode cX10_holder 12 = .ok (.iload_n 2, 1) := by decide +kernel
theorem dX10_holder_13 : decode cX10_holder 13 = .ok (.invokestatic 43, 3) := by decide +kernel
theorem dX10_holder_16 : decode cX10_holder 16 = .ok (.iconst 2, 1) := by decide +kernel
theorem dX10_holder_17 : decode cX10_holder 17 = .ok (.iadd, 1) := by decide +kernel
theorem dX10_holder_18 : decode cX10_holder 18 = .ok (.iaload, 1) := by decide +kernel
theorem dX10_holder_19 : decode cX10_holder 19 = .ok (.iload_n 1, 1) := by decide +kernel
theorem dX10_holder_20 : decode cX10_holder 20 = .ok (.if_icmp .eq 18, 3) := by decide +kernel
theorem dX10_holder_23 : decode cX10_holder 23 = .ok (.aload_n 0, 1) := by decide +kernel
theorem dX10_holder_24 : decode cX10_holder 24 = .ok (.getfield 7, 3) := by decide +kernel
theorem dX10_holder_27 : decode cX10_holder 27 = .ok (.iload_n 2, 1) := by decide +kernel
theorem dX10_holder_28 : decode cX10_holder 28 = .ok (.invokestatic 43, 3) := by decide +kernel
theorem dX10_holder_31 : decode cX10_holder 31 = .ok (.iconst 4, 1) := by decide +kernel
theorem dX10_holder_32 : decode cX10_holder 32 = .ok (.iadd, 1) := by decide +kernel
theorem dX10_holder_33 : decode cX10_holder 33 = .ok (.iaload, 1) := by decide +kernel
theorem dX10_holder_34 : decode cX10_holder 34 = .ok (.iload_n 1, 1) := by decide +kernel
theorem dX10_holder_35 : decode cX10_holder 35 = .ok (.if_icmp .ne 5, 3) := by decide +kernel
theorem dX10_holder_38 : decode cX10_holder 38 = .ok (.iload_n 2, 1) := by decide +kernel
theorem dX10_holder_39 : decode cX10_holder 39 = .ok (.ireturn, 1) := by decide +kernel
theorem dX10_holder_40 : decode cX10_holder 40 = .ok (.iinc 2 1, 3) := by decide +kernel
theorem dX10_holder_43 : decode cX10_holder 43 = .ok (.goto (-41), 3) := by decide +kernel
theorem dX10_holder_46 : decode cX10_holder 46 = .ok (.bipush (-9), 2) := by decide +kernel
theorem dX10_holder_48 : decode cX10_holder 48 = .ok (.ireturn, 1) := by decide +kernel
theorem dX10_newAddress_0 : decode cX10_newAddress 0 = .ok (.iload_n 1, 1) := by decide +kernel
theorem dX10_newAddress_1 : decode cX10_newAddress 1 = .ok (.invokestatic 43, 3) := by decide +kernel
theorem dX10_newAddress_4 : decode cX10_newAddress 4 = .ok (.istore_n 2, 1) := by decide +kernel
theorem dX10_newAddress_5 : decode cX10_newAddress 5 = .ok (.aload_n 0, 1) := by decide +kernel
theorem dX10_newAddress_6 : decode cX10_newAddress 6 = .ok (.getfield 7, 3) := by decide +kernel
theorem dX10_newAddress_9 : decode cX10_newAddress 9 = .ok (.iload_n 2, 1) := by decide +kernel
theorem dX10_newAddress_10 : decode cX10_newAddress 10 = .ok (.iaload, 1) := by decide +kernel
theorem dX10_newAddress_11 : decode cX10_newAddress 11 = .ok (.invokestatic 35, 3) := by decide +kernel
theorem dX10_newAddress_14 : decode cX10_newAddress 14 = .ok (.istore_n 3, 1) := by decide +kernel
theorem dX10_newAddress_15 : decode cX10_newAddress 15 = .ok (.aload_n 0, 1) := by decide +kernel
theorem dX10_newAddress_16 : decode cX10_newAddress 16 = .ok (.getfield 7, 3) := by decide +kernel
theorem dX10_newAddress_19 : decode cX10_newAddress 19 = .ok (.iload_n 2, 1) := by decide +kernel
theorem dX10_newAddress_20 : decode cX10_newAddress 20 = .ok (.iconst 4, 1) := by decide +kernel
theorem dX10_newAddress_21 : decode cX10_newAddress 21 = .ok (.iadd, 1) := by decide +kernel
theorem dX10_newAddress_22 : decode cX10_newAddress 22 = .ok (.iaload, 1) := by decide +kernel
theorem dX10_newAddress_23 : decode cX10_newAddress 23 = .ok (.ifCond .lt 65, 3) := by decide +kernel
theorem dX10_newAddress_26 : decode cX10_newAddress 26 = .ok (.aload_n 0, 1) := by decide +kernel
theorem dX10_newAddress_27 : decode cX10_newAddress 27 = .ok (.getfield 7, 3) := by decide +kernel
theorem dX10_newAddress_30 : decode cX10_newAddress 30 = .ok (.iload_n 3, 1) := by decide +kernel
theorem dX10_newAddress_31 : decode cX10_newAddress 31 = .ok (.iaload, 1) := by decide +kernel
theorem dX10_newAddress_32 : decode cX10_newAddress 32 = .ok (.aload_n 0, 1) := by decide +kernel
theorem dX10_newAddress_33 : decode cX10_newAddress 33 = .ok (.getfield 7, 3) := by decide +kernel
theorem dX10_newAddress_36 : decode cX10_newAddress 36 = .ok (.iload_n 2, 1) := by decide +kernel
theorem dX10_newAddress_37 : decode cX10_newAddress 37 = .ok (.iconst 4, 1) := by decide +kernel
theorem dX10_newAddress_38 : decode cX10_newAddress 38 = .ok (.iadd, 1) := by decide +kernel
theorem dX10_newAddress_39 : decode cX10_newAddress 39 = .ok (.iaload, 1) := by decide +kernel
theorem dX10_newAddress_40 : decode cX10_newAddress 40 = .ok (.iadd, 1) := by decide +kernel
theorem dX10_newAddress_41 : decode cX10_newAddress 41 = .ok (.aload_n 0, 1) := by decide +kernel
theorem dX10_newAddress_42 : decode cX10_newAddress 42 = .ok (.getfield 7, 3) := by decide +kernel
theorem dX10_newAddress_45 : decode cX10_newAddress 45 = .ok (.iload_n 3, 1) := by decide +kernel
theorem dX10_newAddress_46 : decode cX10_newAddress 46 = .ok (.iconst 2, 1) := by decide +kernel
theorem dX10_newAddress_47 : decode cX10_newAddress 47 = .ok (.iadd, 1) := by decide +kernel
theorem dX10_newAddress_48 : decode cX10_newAddress 48 = .ok (.iaload, 1) := by decide +kernel
theorem dX10_newAddress_49 : decode cX10_newAddress 49 = .ok (.isub, 1) := by decide +kernel
theorem dX10_newAddress_50 : decode cX10_newAddress 50 = .ok (.istore 4, 2) := by decide +kernel
theorem dX10_newAddress_52 : decode cX10_newAddress 52 = .ok (.iload 4, 2) := by decide +kernel
theorem dX10_newAddress_54 : decode cX10_newAddress 54 = .ok (.aload_n 0, 1) := by decide +kernel
theorem dX10_newAddress_55 : decode cX10_newAddress 55 = .ok (.getfield 7, 3) := by decide +kernel
theorem dX10_newAddress_58 : decode cX10_newAddress 58 = .ok (.iload_n 3, 1) := by decide +kernel
theorem dX10_newAddress_59 : decode cX10_newAddress 59 = .ok (.iaload, 1) := by decide +kernel
theorem dX10_newAddress_60 : decode cX10_newAddress 60 = .ok (.aload_n 0, 1) := by decide +kernel
theorem dX10_newAddress_61 : decode cX10_newAddress 61 = .ok (.getfield 7, 3) := by decide +kernel
theorem dX10_newAddress_64 : decode cX10_newAddress 64 = .ok (.iload_n 3, 1) := by decide +kernel
theorem dX10_newAddress_65 : decode cX10_newAddress 65 = .ok (.iconst 1, 1) := by decide +kernel
theorem dX10_newAddress_66 : decode cX10_newAddress 66 = .ok (.iadd, 1) := by decide +kernel
theorem dX10_newAddress_67 : decode cX10_newAddress 67 = .ok (.iaload, 1) := by decide +kernel
theorem dX10_newAddress_68 : decode cX10_newAddress 68 = .ok (.invokestatic 195, 3) := by decide +kernel
theorem dX10_newAddress_71 : decode cX10_newAddress 71 = .ok (.ifCond .eq 17, 3) := by decide +kernel
theorem dX10_newAddress_74 : decode cX10_newAddress 74 = .ok (.aload_n 0, 1) := by decide +kernel
theorem dX10_newAddress_75 : decode cX10_newAddress 75 = .ok (.iload 4, 2) := by decide +kernel
theorem dX10_newAddress_77 : decode cX10_newAddress 77 = .ok (.invokevirtual 214, 3) := by decide +kernel
theorem dX10_newAddress_80 : decode cX10_newAddress 80 = .ok (.bipush (-9), 2) := by decide +kernel
theorem dX10_newAddress_82 : decode cX10_newAddress 82 = .ok (.if_icmp .ne 6, 3) := by decide +kernel
theorem dX10_newAddress_85 : decode cX10_newAddress 85 = .ok (.iload 4, 2) := by decide +kernel
theorem dX10_newAddress_87 : decode cX10_newAddress 87 = .ok (.ireturn, 1) := by decide +kernel
theorem dX10_newAddress_88 : decode cX10_newAddress 88 = .ok (.aload_n 0, 1) := by decide +kernel
theorem dX10_newAddress_89 : decode cX10_newAddress 89 = .ok (.getfield 7, 3) := by decide +kernel
theorem dX10_newAddress_92 : decode cX10_newAddress 92 = .ok (.iload_n 3, 1) := by decide +kernel
theorem dX10_newAddress_93 : decode cX10_newAddress 93 = .ok (.iaload, 1) := by decide +kernel
theorem dX10_newAddress_94 : decode cX10_newAddress 94 = .ok (.istore 4, 2) := by decide +kernel
theorem dX10_newAddress_96 : decode cX10_newAddress 96 = .ok (.iload 4, 2) := by decide +kernel
theorem dX10_newAddress_98 : decode cX10_newAddress 98 = .ok (.aload_n 0, 1) := by decide +kernel
theorem dX10_newAddress_99 : decode cX10_newAddress 99 = .ok (.getfield 7, 3) := by decide +kernel
theorem dX10_newAddress_102 : decode cX10_newAddress 102 = .ok (.iload_n 3, 1) := by decide +kernel
theorem dX10_newAddress_103 : decode cX10_newAddress 103 = .ok (.iaload, 1) := by decide +kernel
theorem dX10_newAddress_104 : decode cX10_newAddress 104 = .ok (.aload_n 0, 1) := by decide +kernel
theorem dX10_newAddress_105 : decode cX10_newAddress 105 = .ok (.getfield 7, 3) := by decide +kernel
theorem dX10_newAddress_108 : decode cX10_newAddress 108 = .ok (.iload_n 3, 1) := by decide +kernel
theorem dX10_newAddress_109 : decode cX10_newAddress 109 = .ok (.iconst 1, 1) := by decide +kernel
theorem dX10_newAddress_110 : decode cX10_newAddress 110 = .ok (.iadd, 1) := by decide +kernel
theorem dX10_newAddress_111 : decode cX10_newAddress 111 = .ok (.iaload, 1) := by decide +kernel
theorem dX10_newAddress_112 : decode cX10_newAddress 112 = .ok (.invokestatic 56, 3) := by decide +kernel
theorem dX10_newAddress_115 : decode cX10_newAddress 115 = .ok (.iadd, 1) := by decide +kernel
theorem dX10_newAddress_116 : decode cX10_newAddress 116 = .ok (.if_icmp .ge 45, 3) := by decide +kernel
theorem dX10_newAddress_119 : decode cX10_newAddress 119 = .ok (.iload 4, 2) := by decide +kernel
theorem dX10_newAddress_121 : decode cX10_newAddress 121 = .ok (.aload_n 0, 1) := by decide +kernel
theorem dX10_newAddress_122 : decode cX10_newAddress 122 = .ok (.getfield 7, 3) := by decide +kernel
theorem dX10_newAddress_125 : decode cX10_newAddress 125 = .ok (.iload_n 3, 1) := by decide +kernel
theorem dX10_newAddress_126 : decode cX10_newAddress 126 = .ok (.iaload, 1) := by decide +kernel
theorem dX10_newAddress_127 : decode cX10_newAddress 127 = .ok (.aload_n 0, 1) := by decide +kernel
theorem dX10_newAddress_128 : decode cX10_newAddress 128 = .ok (.getfield 7, 3) := by decide +kernel
theorem dX10_newAddress_131 : decode cX10_newAddress 131 = .ok (.iload_n 3, 1) := by decide +kernel
theorem dX10_newAddress_132 : decode cX10_newAddress 132 = .ok (.iconst 1, 1) := by decide +kernel
theorem dX10_newAddress_133 : decode cX10_newAddress 133 = .ok (.iadd, 1) := by decide +kernel
theorem dX10_newAddress_134 : decode cX10_newAddress 134 = .ok (.iaload, 1) := by decide +kernel
theorem dX10_newAddress_135 : decode cX10_newAddress 135 = .ok (.invokestatic 195, 3) := by decide +kernel
theorem dX10_newAddress_138 : decode cX10_newAddress 138 = .ok (.ifCond .eq 17, 3) := by decide +kernel
theorem dX10_newAddress_141 : decode cX10_newAddress 141 = .ok (.aload_n 0, 1) := by decide +kernel
theorem dX10_newAddress_142 : decode cX10_newAddress 142 = .ok (.iload 4, 2) := by decide +kernel
theorem dX10_newAddress_144 : decode cX10_newAddress 144 = .ok (.invokevirtual 214, 3) := by decide +kernel
theorem dX10_newAddress_147 : decode cX10_newAddress 147 = .ok (.bipush (-9), 2) := by decide +kernel
theorem dX10_newAddress_149 : decode cX10_newAddress 149 = .ok (.if_icmp .ne 6, 3) := by decide +kernel
theorem dX10_newAddress_152 : decode cX10_newAddress 152 = .ok (.iload 4, 2) := by decide +kernel
theorem dX10_newAddress_154 : decode cX10_newAddress 154 = .ok (.ireturn, 1) := by decide +kernel
theorem dX10_newAddress_155 : decode cX10_newAddress 155 = .ok (.iinc 4 1, 3) := by decide +kernel
theorem dX10_newAddress_158 : decode cX10_newAddress 158 = .ok (.goto (-62), 3) := by decide +kernel
theorem dX10_newAddress_161 : decode cX10_newAddress 161 = .ok (.iconst (-1), 1) := by decide +kernel
theorem dX10_newAddress_162 : decode cX10_newAddress 162 = .ok (.ireturn, 1) := by decide +kernel
theorem dX10_request_0 : decode cX10_request 0 = .ok (.iload_n 1, 1) := by decide +kernel
theorem dX10_request_1 : decode cX10_request 1 = .ok (.invokestatic 211, 3) := by decide +kernel
theorem dX10_request_4 : decode cX10_request 4 = .ok (.ifCond .ne 5, 3) := by decide +kernel
theorem dX10_request_7 : decode cX10_request 7 = .ok (.iconst (-1), 1) := by decide +kernel
theorem dX10_request_8 : decode cX10_request 8 = .ok (.ireturn, 1) := by decide +kernel
theorem dX10_request_9 : decode cX10_request 9 = .ok (.iload_n 1, 1) := by decide +kernel
theorem dX10_request_10 : decode cX10_request 10 = .ok (.invokestatic 43, 3) := by decide +kernel
theorem dX10_request_13 : decode cX10_request 13 = .ok (.istore_n 2, 1) := by decide +kernel
theorem dX10_request_14 : decode cX10_request 14 = .ok (.aload_n 0, 1) := by decide +kernel
theorem dX10_request_15 : decode cX10_request 15 = .ok (.getfield 7, 3) := by decide +kernel
theorem dX10_request_18 : decode cX10_request 18 = .ok (.iload_n 2, 1) := by decide +kernel
theorem dX10_request_19 : decode cX10_request 19 = .ok (.iaload, 1) := by decide +kernel
theorem dX10_request_20 : decode cX10_request 20 = .ok (.ifCond .ge 6, 3) := by decide +kernel
theorem dX10_request_23 : decode cX10_request 23 = .ok (.bipush (-2), 2) := by decide +kernel
theorem dX10_request_25 : decode cX10_request 25 = .ok (.ireturn, 1) := by decide +kernel
theorem dX10_request_26 : decode cX10_request 26 = .ok (.aload_n 0, 1) := by decide +kernel
theorem dX10_request_27 : decode cX10_request 27 = .ok (.getfield 7, 3) := by decide +kernel
theorem dX10_request_30 : decode cX10_request 30 = .ok (.iconst 0, 1) := by decide +kernel
theorem dX10_request_31 : decode cX10_request 31 = .ok (.iaload, 1) := by decide +kernel
theorem dX10_request_32 : decode cX10_request 32 = .ok (.aload_n 0, 1) := by decide +kernel
theorem dX10_request_33 : decode cX10_request 33 = .ok (.getfield 7, 3) := by decide +kernel
theorem dX10_request_36 : decode cX10_request 36 = .ok (.iconst 1, 1) := by decide +kernel
theorem dX10_request_37 : decode cX10_request 37 = .ok (.iaload, 1) := by decide +kernel
theorem dX10_request_38 : decode cX10_request 38 = .ok (.iadd, 1) := by decide +kernel
theorem dX10_request_39 : decode cX10_request 39 = .ok (.istore_n 3, 1) := by decide +kernel
theorem dX10_request_40 : decode cX10_request 40 = .ok (.aload_n 0, 1) := by decide +kernel
theorem dX10_request_41 : decode cX10_request 41 = .ok (.getfield 7, 3) := by decide +kernel
theorem dX10_request_44 : decode cX10_request 44 = .ok (.iload_n 2, 1) := by decide +kernel
theorem dX10_request_45 : decode cX10_request 45 = .ok (.iconst 2, 1) := by decide +kernel
theorem dX10_request_46 : decode cX10_request 46 = .ok (.iadd, 1) := by decide +kernel
theorem dX10_request_47 : decode cX10_request 47 = .ok (.iaload, 1) := by decide +kernel
theorem dX10_request_48 : decode cX10_request 48 = .ok (.ifCond .ge 79, 3) := by decide +kernel
theorem dX10_request_51 : decode cX10_request 51 = .ok (.aload_n 0, 1) := by decide +kernel
theorem dX10_request_52 : decode cX10_request 52 = .ok (.getfield 7, 3) := by decide +kernel
theorem dX10_request_55 : decode cX10_request 55 = .ok (.iload_n 2, 1) := by decide +kernel
theorem dX10_request_56 : decode cX10_request 56 = .ok (.iconst 1, 1) := by decide +kernel
theorem dX10_request_57 : decode cX10_request 57 = .ok (.iadd, 1) := by decide +kernel
theorem dX10_request_58 : decode cX10_request 58 = .ok (.iaload, 1) := by decide +kernel
theorem dX10_request_59 : decode cX10_request 59 = .ok (.iconst 1, 1) := by decide +kernel
theorem dX10_request_60 : decode cX10_request 60 = .ok (.if_icmp .ne 67, 3) := by decide +kernel
theorem dX10_request_63 : decode cX10_request 63 = .ok (.aload_n 0, 1) := by decide +kernel
theorem dX10_request_64 : decode cX10_request 64 = .ok (.getfield 7, 3) := by decide +kernel
theorem dX10_request_67 : decode cX10_request 67 = .ok (.iload_n 2, 1) := by decide +kernel
theorem dX10_request_68 : decode cX10_request 68 = .ok (.iconst 4, 1) := by decide +kernel
theorem dX10_request_69 : decode cX10_request 69 = .ok (.iadd, 1) := by decide +kernel
theorem dX10_request_70 : decode cX10_request 70 = .ok (.iaload, 1) := by decide +kernel
theorem dX10_request_71 : decode cX10_request 71 = .ok (.ifCond .lt 56, 3) := by decide +kernel
theorem dX10_request_74 : decode cX10_request 74 = .ok (.aload_n 0, 1) := by decide +kernel
theorem dX10_request_75 : decode cX10_request 75 = .ok (.invokevirtual 170, 3) := by decide +kernel
theorem dX10_request_78 : decode cX10_request 78 = .ok (.aload_n 0, 1) := by decide +kernel
theorem dX10_request_79 : decode cX10_request 79 = .ok (.getfield 7, 3) := by decide +kernel
theorem dX10_request_82 : decode cX10_request 82 = .ok (.aload_n 0, 1) := by decide +kernel
theorem dX10_request_83 : decode cX10_request 83 = .ok (.getfield 7, 3) := by decide +kernel
theorem dX10_request_86 : decode cX10_request 86 = .ok (.iload_n 2, 1) := by decide +kernel
theorem dX10_request_87 : decode cX10_request 87 = .ok (.iaload, 1) := by decide +kernel
theorem dX10_request_88 : decode cX10_request 88 = .ok (.invokestatic 35, 3) := by decide +kernel
theorem dX10_request_91 : decode cX10_request 91 = .ok (.iconst 4, 1) := by decide +kernel
theorem dX10_request_92 : decode cX10_request 92 = .ok (.iadd, 1) := by decide +kernel
theorem dX10_request_93 : decode cX10_request 93 = .ok (.iaload, 1) := by decide +kernel
theorem dX10_request_94 : decode cX10_request 94 = .ok (.istore 4, 2) := by decide +kernel
theorem dX10_request_96 : decode cX10_request 96 = .ok (.aload_n 0, 1) := by decide +kernel
theorem dX10_request_97 : decode cX10_request 97 = .ok (.getfield 7, 3) := by decide +kernel
theorem dX10_request_100 : decode cX10_request 100 = .ok (.iload_n 2, 1) := by decide +kernel
theorem dX10_request_101 : decode cX10_request 101 = .ok (.iconst 4, 1) := by decide +kernel
theorem dX10_request_102 : decode cX10_request 102 = .ok (.iadd, 1) := by decide +kernel
theorem dX10_request_103 : decode cX10_request 103 = .ok (.iconst 1, 1) := by decide +kernel
theorem dX10_request_104 : decode cX10_request 104 = .ok (.iadd, 1) := by decide +kernel
theorem dX10_request_105 : decode cX10_request 105 = .ok (.iload_n 3, 1) := by decide +kernel
theorem dX10_request_106 : decode cX10_request 106 = .ok (.iload 4, 2) := by decide +kernel
theorem dX10_request_108 : decode cX10_request 108 = .ok (.if_icmp .ge 7, 3) := by decide +kernel
theorem dX10_request_111 : decode cX10_request 111 = .ok (.iload_n 3, 1) := by decide +kernel
theorem dX10_request_112 : decode cX10_request 112 = .ok (.goto 5, 3) := by decide +kernel
theorem dX10_request_115 : decode cX10_request 115 = .ok (.iload 4, 2) := by decide +kernel
theorem dX10_request_117 : decode cX10_request 117 = .ok (.iastore, 1) := by decide +kernel
theorem dX10_request_118 : decode cX10_request 118 = .ok (.aload_n 0, 1) := by decide +kernel
theorem dX10_request_119 : decode cX10_request 119 = .ok (.getfield 7, 3) := by decide +kernel
theorem dX10_request_122 : decode cX10_request 122 = .ok (.iload_n 2, 1) := by decide +kernel
theorem dX10_request_123 : decode cX10_request 123 = .ok (.iconst 4, 1) := by decide +kernel
theorem dX10_request_124 : decode cX10_request 124 = .ok (.iadd, 1) := by decide +kernel
theorem dX10_request_125 : decode cX10_request 125 = .ok (.iaload, 1) := by decide +kernel
theorem dX10_request_126 : decode cX10_request 126 = .ok (.ireturn, 1) := by decide +kernel
theorem dX10_request_127 : decode cX10_request 127 = .ok (.aload_n 0, 1) := by decide +kernel
theorem dX10_request_128 : decode cX10_request 128 = .ok (.getfield 7, 3) := by decide +kernel
theorem dX10_request_131 : decode cX10_request 131 = .ok (.iload_n 2, 1) := by decide +kernel
theorem dX10_request_132 : decode cX10_request 132 = .ok (.iconst 2, 1) := by decide +kernel
theorem dX10_request_133 : decode cX10_request 133 = .ok (.iadd, 1) := by decide +kernel
theorem dX10_request_134 : decode cX10_request 134 = .ok (.iaload, 1) := by decide +kernel
theorem dX10_request_135 : decode cX10_request 135 = .ok (.ifCond .lt 14, 3) := by decide +kernel
theorem dX10_request_138 : decode cX10_request 138 = .ok (.aload_n 0, 1) := by decide +kernel
theorem dX10_request_139 : decode cX10_request 139 = .ok (.getfield 7, 3) := by decide +kernel
theorem dX10_request_142 : decode cX10_request 142 = .ok (.iload_n 2, 1) := by decide +kernel
theorem dX10_request_143 : decode cX10_request 143 = .ok (.iconst 2, 1) := by decide +kernel
theorem dX10_request_144 : decode cX10_request 144 = .ok (.iadd, 1) := by decide +kernel
theorem dX10_request_145 : decode cX10_request 145 = .ok (.iaload, 1) := by decide +kernel
theorem dX10_request_146 : decode cX10_request 146 = .ok (.goto 8, 3) := by decide +kernel
theorem dX10_request_149 : decode cX10_request 149 = .ok (.aload_n 0, 1) := by decide +kernel
theorem dX10_request_150 : decode cX10_request 150 = .ok (.iload_n 1, 1) := by decide +kernel
theorem dX10_request_151 : decode cX10_request 151 = .ok (.invokevirtual 217, 3) := by decide +kernel
theorem dX10_request_154 : decode cX10_request 154 = .ok (.istore 4, 2) := by decide +kernel
theorem dX10_request_156 : decode cX10_request 156 = .ok (.iload 4, 2) := by decide +kernel
theorem dX10_request_158 : decode cX10_request 158 = .ok (.ifCond .ge 6, 3) := by decide +kernel
theorem dX10_request_161 : decode cX10_request 161 = .ok (.bipush (-3), 2) := by decide +kernel
theorem dX10_request_163 : decode cX10_request 163 = .ok (.ireturn, 1) := by decide +kernel
theorem dX10_request_164 : decode cX10_request 164 = .ok (.aload_n 0, 1) := by decide +kernel
theorem dX10_request_165 : decode cX10_request 165 = .ok (.invokevirtual 170, 3) := by decide +kernel
theorem dX10_request_168 : decode cX10_request 168 = .ok (.aload_n 0, 1) := by decide +kernel
theorem dX10_request_169 : decode cX10_request 169 = .ok (.getfield 7, 3) := by decide +kernel
theorem dX10_request_172 : decode cX10_request 172 = .ok (.iload_n 2, 1) := by decide +kernel
theorem dX10_request_173 : decode cX10_request 173 = .ok (.iconst 2, 1) := by decide +kernel
theorem dX10_request_174 : decode cX10_request 174 = .ok (.iadd, 1) := by decide +kernel
theorem dX10_request_175 : decode cX10_request 175 = .ok (.iload 4, 2) := by decide +kernel
theorem dX10_request_177 : decode cX10_request 177 = .ok (.iastore, 1) := by decide +kernel
theorem dX10_request_178 : decode cX10_request 178 = .ok (.aload_n 0, 1) := by decide +kernel
theorem dX10_request_179 : decode cX10_request 179 = .ok (.getfield 7, 3) := by decide +kernel
theorem dX10_request_182 : decode cX10_request 182 = .ok (.iload_n 2, 1) := by decide +kernel
theorem dX10_request_183 : decode cX10_request 183 = .ok (.iconst 2, 1) := by decide +kernel
theorem dX10_request_184 : decode cX10_request 184 = .ok (.iadd, 1) := by decide +kernel
theorem dX10_request_185 : decode cX10_request 185 = .ok (.iconst 1, 1) := by decide +kernel
theorem dX10_request_186 : decode cX10_request 186 = .ok (.iadd, 1) := by decide +kernel
theorem dX10_request_187 : decode cX10_request 187 = .ok (.iload_n 3, 1) := by decide +kernel
theorem dX10_request_188 : decode cX10_request 188 = .ok (.iastore, 1) := by decide +kernel
theorem dX10_request_189 : decode cX10_request 189 = .ok (.iload 4, 2) := by decide +kernel
theorem dX10_request_191 : decode cX10_request 191 = .ok (.ireturn, 1) := by decide +kernel
theorem dX10_host_0 : decode cX10_host 0 = .ok (.iload_n 1, 1) := by decide +kernel
theorem dX10_host_1 : decode cX10_host 1 = .ok (.invokestatic 211, 3) := by decide +kernel
theorem dX10_host_4 : decode cX10_host 4 = .ok (.ifCond .eq 12, 3) := by decide +kernel
theorem dX10_host_7 : decode cX10_host 7 = .ok (.iload_n 2, 1) := by decide +kernel
theorem dX10_host_8 : decode cX10_host 8 = .ok (.iconst 0, 1) := by decide +kernel
theorem dX10_host_9 : decode cX10_host 9 = .ok (.iconst 5, 1) := by decide +kernel
theorem dX10_host_10 : decode cX10_host 10 = .ok (.invokestatic 82, 3) := by decide +kernel
theorem dX10_host_13 : decode cX10_host 13 = .ok (.ifCond .ne 5, 3) := by decide +kernel
theorem dX10_host_16 : decode cX10_host 16 = .ok (.iconst (-1), 1) := by decide +kernel
theorem dX10_host_17 : decode cX10_host 17 = .ok (.ireturn, 1) := by decide +kernel
theorem dX10_host_18 : decode cX10_host 18 = .ok (.iload_n 1, 1) := by decide +kernel
theorem dX10_host_19 : decode cX10_host 19 = .ok (.invokestatic 43, 3) := by decide +kernel
theorem dX10_host_22 : decode cX10_host 22 = .ok (.istore_n 3, 1) := by decide +kernel
theorem dX10_host_23 : decode cX10_host 23 = .ok (.aload_n 0, 1) := by decide +kernel
theorem dX10_host_24 : decode cX10_host 24 = .ok (.getfield 7, 3) := by decide +kernel
theorem dX10_host_27 : decode cX10_host 27 = .ok (.iload_n 3, 1) := by decide +kernel
theorem dX10_host_28 : decode cX10_host 28 = .ok (.iaload, 1) := by decide +kernel
theorem dX10_host_29 : decode cX10_host 29 = .ok (.ifCond .lt 27, 3) := by decide +kernel
theorem dX10_host_32 : decode cX10_host 32 = .ok (.iload_n 2, 1) := by decide +kernel
theorem dX10_host_33 : decode cX10_host 33 = .ok (.iconst 2, 1) := by decide +kernel
theorem dX10_host_34 : decode cX10_host 34 = .ok (.if_icmp .lt 18, 3) := by decide +kernel
theorem dX10_host_37 : decode cX10_host 37 = .ok (.aload_n 0, 1) := by decide +kernel
theorem dX10_host_38 : decode cX10_host 38 = .ok (.getfield 7, 3) := by decide +kernel
theorem dX10_host_41 : decode cX10_host 41 = .ok (.iload_n 3, 1) := by decide +kernel
theorem dX10_host_42 : decode cX10_host 42 = .ok (.iload_n 2, 1) := by decide +kernel
theorem dX10_host_43 : decode cX10_host 43 = .ok (.iadd, 1) := by decide +kernel
theorem dX10_host_44 : decode cX10_host 44 = .ok (.iload_n 2, 1) := by decide +kernel
theorem dX10_host_45 : decode cX10_host 45 = .ok (.iconst 2, 1) := by decide +kernel
theorem dX10_host_46 : decode cX10_host 46 = .ok (.irem, 1) := by decide +kernel
theorem dX10_host_47 : decode cX10_host 47 = .ok (.isub, 1) := by decide +kernel
theorem dX10_host_48 : decode cX10_host 48 = .ok (.iaload, 1) := by decide +kernel
theorem dX10_host_49 : decode cX10_host 49 = .ok (.ifCond .lt 7, 3) := by decide +kernel
theorem dX10_host_52 : decode cX10_host 52 = .ok (.iconst 1, 1) := by decide +kernel
theorem dX10_host_53 : decode cX10_host 53 = .ok (.goto 4, 3) := by decide +kernel
theorem dX10_host_56 : decode cX10_host 56 = .ok (.iconst 0, 1) := by decide +kernel
theorem dX10_host_57 : decode cX10_host 57 = .ok (.istore 4, 2) := by decide +kernel
theorem dX10_host_59 : decode cX10_host 59 = .ok (.iload 4, 2) := by decide +kernel
theorem dX10_host_61 : decode cX10_host 61 = .ok (.ifCond .eq 14, 3) := by decide +kernel
theorem dX10_host_64 : decode cX10_host 64 = .ok (.aload_n 0, 1) := by decide +kernel
theorem dX10_host_65 : decode cX10_host 65 = .ok (.getfield 7, 3) := by decide +kernel
theorem dX10_host_68 : decode cX10_host 68 = .ok (.iload_n 3, 1) := by decide +kernel
theorem dX10_host_69 : decode cX10_host 69 = .ok (.iload_n 2, 1) := by decide +kernel
theorem dX10_host_70 : decode cX10_host 70 = .ok (.iadd, 1) := by decide +kernel
theorem dX10_host_71 : decode cX10_host 71 = .ok (.iaload, 1) := by decide +kernel
theorem dX10_host_72 : decode cX10_host 72 = .ok (.goto 5, 3) := by decide +kernel
theorem dX10_host_75 : decode cX10_host 75 = .ok (.bipush (-9), 2) := by decide +kernel
theorem dX10_host_77 : decode cX10_host 77 = .ok (.ireturn, 1) := by decide +kernel
theorem dX10_leaseOf_0 : decode cX10_leaseOf 0 = .ok (.iload_n 1, 1) := by decide +kernel
theorem dX10_leaseOf_1 : decode cX10_leaseOf 1 = .ok (.iconst 0, 1) := by decide +kernel
theorem dX10_leaseOf_2 : decode cX10_leaseOf 2 = .ok (.ldc 128, 2) := by decide +kernel
theorem dX10_leaseOf_4 : decode cX10_leaseOf 4 = .ok (.invokestatic 82, 3) := by decide +kernel
theorem dX10_leaseOf_7 : decode cX10_leaseOf 7 = .ok (.ifCond .eq 11, 3) := by decide +kernel
theorem dX10_leaseOf_10 : decode cX10_leaseOf 10 = .ok (.aload_n 0, 1) := by decide +kernel
theorem dX10_leaseOf_11 : decode cX10_leaseOf 11 = .ok (.iload_n 1, 1) := by decide +kernel
theorem dX10_leaseOf_12 : decode cX10_leaseOf 12 = .ok (.invokevirtual 214, 3) := by decide +kernel
theorem dX10_leaseOf_15 : decode cX10_leaseOf 15 = .ok (.goto 4, 3) := by decide +kernel
theorem dX10_leaseOf_18 : decode cX10_leaseOf 18 = .ok (.iconst (-1), 1) := by decide +kernel
theorem dX10_leaseOf_19 : decode cX10_leaseOf 19 = .ok (.ireturn, 1) := by decide +kernel
theorem dX10_pass_0 : decode cX10_pass 0 = .ok (.iload_n 1, 1) := by decide +kernel
theorem dX10_pass_1 : decode cX10_pass 1 = .ok (.iconst 1, 1) := by decide +kernel
theorem dX10_pass_2 : decode cX10_pass 2 = .ok (.sipush 1000, 3) := by decide +kernel
theorem dX10_pass_5 : decode cX10_pass 5 = .ok (.invokestatic 82, 3) := by decide +kernel
theorem dX10_pass_8 : decode cX10_pass 8 = .ok (.ifCond .ne 5, 3) := by decide +kernel
theorem dX10_pass_11 : decode cX10_pass 11 = .ok (.iconst (-1), 1) := by decide +kernel
theorem dX10_pass_12 : decode cX10_pass 12 = .ok (.ireturn, 1) := by decide +kernel
theorem dX10_pass_13 : decode cX10_pass 13 = .ok (.aload_n 0, 1) := by decide +kernel
theorem dX10_pass_14 : decode cX10_pass 14 = .ok (.getfield 7, 3) := by decide +kernel
theorem dX10_pass_17 : decode cX10_pass 17 = .ok (.iconst 0, 1) := by decide +kernel
theorem dX10_pass_18 : decode cX10_pass 18 = .ok (.iaload, 1) := by decide +kernel
theorem dX10_pass_19 : decode cX10_pass 19 = .ok (.iload_n 1, 1) := by decide +kernel
theorem dX10_pass_20 : decode cX10_pass 20 = .ok (.iadd, 1) := by decide +kernel
theorem dX10_pass_21 : decode cX10_pass 21 = .ok (.sipush 9999, 3) := by decide +kernel
theorem dX10_pass_24 : decode cX10_pass 24 = .ok (.if_icmp .le 6, 3) := by decide +kernel
theorem dX10_pass_27 : decode cX10_pass 27 = .ok (.bipush (-3), 2) := by decide +kernel
theorem dX10_pass_29 : decode cX10_pass 29 = .ok (.ireturn, 1) := by decide +kernel
theorem dX10_pass_30 : decode cX10_pass 30 = .ok (.aload_n 0, 1) := by decide +kernel
theorem dX10_pass_31 : decode cX10_pass 31 = .ok (.invokevirtual 170, 3) := by decide +kernel
theorem dX10_pass_34 : decode cX10_pass 34 = .ok (.aload_n 0, 1) := by decide +kernel
theorem dX10_pass_35 : decode cX10_pass 35 = .ok (.getfield 7, 3) := by decide +kernel
theorem dX10_pass_38 : decode cX10_pass 38 = .ok (.iconst 0, 1) := by decide +kernel
theorem dX10_pass_39 : decode cX10_pass 39 = .ok (.dup2, 1) := by decide +kernel
theorem dX10_pass_40 : decode cX10_pass 40 = .ok (.iaload, 1) := by decide +kernel
theorem dX10_pass_41 : decode cX10_pass 41 = .ok (.iload_n 1, 1) := by decide +kernel
theorem dX10_pass_42 : decode cX10_pass 42 = .ok (.iadd, 1) := by decide +kernel
theorem dX10_pass_43 : decode cX10_pass 43 = .ok (.iastore, 1) := by decide +kernel
theorem dX10_pass_44 : decode cX10_pass 44 = .ok (.iconst 0, 1) := by decide +kernel
theorem dX10_pass_45 : decode cX10_pass 45 = .ok (.istore_n 2, 1) := by decide +kernel
theorem dX10_pass_46 : decode cX10_pass 46 = .ok (.iconst 0, 1) := by decide +kernel
theorem dX10_pass_47 : decode cX10_pass 47 = .ok (.istore_n 3, 1) := by decide +kernel
theorem dX10_pass_48 : decode cX10_pass 48 = .ok (.iload_n 3, 1) := by decide +kernel
theorem dX10_pass_49 : decode cX10_pass 49 = .ok (.bipush 16, 2) := by decide +kernel
theorem dX10_pass_51 : decode cX10_pass 51 = .ok (.if_icmp .ge 73, 3) := by decide +kernel
theorem dX10_pass_54 : decode cX10_pass 54 = .ok (.iload_n 3, 1) := by decide +kernel
theorem dX10_pass_55 : decode cX10_pass 55 = .ok (.invokestatic 43, 3) := by decide +kernel
theorem dX10_pass_58 : decode cX10_pass 58 = .ok (.iconst 2, 1) := by decide +kernel
theorem dX10_pass_59 : decode cX10_pass 59 = .ok (.iadd, 1) := by decide +kernel
theorem dX10_pass_60 : decode cX10_pass 60 = .ok (.istore 4, 2) := by decide +kernel
theorem dX10_pass_62 : decode cX10_pass 62 = .ok (.iload 4, 2) := by decide +kernel
theorem dX10_pass_64 : decode cX10_pass 64 = .ok (.iload_n 3, 1) := by decide +kernel
theorem dX10_pass_65 : decode cX10_pass 65 = .ok (.invokestatic 43, 3) := by decide +kernel
theorem dX10_pass_68 : decode cX10_pass 68 = .ok (.iconst 4, 1) := by decide +kernel
theorem dX10_pass_69 : decode cX10_pass 69 = .ok (.iadd, 1) := by decide +kernel
theorem dX10_pass_70 : decode cX10_pass 70 = .ok (.if_icmp .gt 48, 3) := by decide +kernel
theorem dX10_pass_73 : decode cX10_pass 73 = .ok (.aload_n 0, 1) := by decide +kernel
theorem dX10_pass_74 : decode cX10_pass 74 = .ok (.getfield 7, 3) := by decide +kernel
theorem dX10_pass_77 : decode cX10_pass 77 = .ok (.iload 4, 2) := by decide +kernel
theorem dX10_pass_79 : decode cX10_pass 79 = .ok (.iaload, 1) := by decide +kernel
theorem dX10_pass_80 : decode cX10_pass 80 = .ok (.ifCond .lt 32, 3) := by decide +kernel
theorem dX10_pass_83 : decode cX10_pass 83 = .ok (.aload_n 0, 1) := by decide +kernel
theorem dX10_pass_84 : decode cX10_pass 84 = .ok (.getfield 7, 3) := by decide +kernel
theorem dX10_pass_87 : decode cX10_pass 87 = .ok (.iload 4, 2) := by decide +kernel
theorem dX10_pass_89 : decode cX10_pass 89 = .ok (.iconst 1, 1) := by decide +kernel
theorem dX10_pass_90 : decode cX10_pass 90 = .ok (.iadd, 1) := by decide +kernel
theorem dX10_pass_91 : decode cX10_pass 91 = .ok (.iaload, 1) := by decide +kernel
theorem dX10_pass_92 : decode cX10_pass 92 = .ok (.aload_n 0, 1) := by decide +kernel
theorem dX10_pass_93 : decode cX10_pass 93 = .ok (.getfield 7, 3) := by decide +kernel
theorem dX10_pass_96 : decode cX10_pass 96 = .ok (.iconst 0, 1) := by decide +kernel
theorem dX10_pass_97 : decode cX10_pass 97 = .ok (.iaload, 1) := by decide +kernel
theorem dX10_pass_98 : decode cX10_pass 98 = .ok (.if_icmp .gt 14, 3) := by decide +kernel
theorem dX10_pass_101 : decode cX10_pass 101 = .ok (.aload_n 0, 1) := by decide +kernel
theorem dX10_pass_102 : decode cX10_pass 102 = .ok (.getfield 7, 3) := by decide +kernel
theorem dX10_pass_105 : decode cX10_pass 105 = .ok (.iload 4, 2) := by decide +kernel
theorem dX10_pass_107 : decode cX10_pass 107 = .ok (.iconst (-1), 1) := by decide +kernel
theorem dX10_pass_108 : decode cX10_pass 108 = .ok (.iastore, 1) := by decide +kernel
theorem dX10_pass_109 : decode cX10_pass 109 = .ok (.iinc 2 1, 3) := by decide +kernel
theorem dX10_pass_112 : decode cX10_pass 112 = .ok (.iinc 4 2, 3) := by decide +kernel
theorem dX10_pass_115 : decode cX10_pass 115 = .ok (.goto (-53), 3) := by decide +kernel
theorem dX10_pass_118 : decode cX10_pass 118 = .ok (.iinc 3 1, 3) := by decide +kernel
theorem dX10_pass_121 : decode cX10_pass 121 = .ok (.goto (-73), 3) := by decide +kernel
theorem dX10_pass_124 : decode cX10_pass 124 = .ok (.iconst 0, 1) := by decide +kernel
theorem dX10_pass_125 : decode cX10_pass 125 = .ok (.istore_n 3, 1) := by decide +kernel
theorem dX10_pass_126 : decode cX10_pass 126 = .ok (.iload_n 3, 1) := by decide +kernel
theorem dX10_pass_127 : decode cX10_pass 127 = .ok (.bipush 12, 2) := by decide +kernel
theorem dX10_pass_129 : decode cX10_pass 129 = .ok (.if_icmp .ge 49, 3) := by decide +kernel
theorem dX10_pass_132 : decode cX10_pass 132 = .ok (.iload_n 2, 1) := by decide +kernel
theorem dX10_pass_133 : decode cX10_pass 133 = .ok (.aload_n 0, 1) := by decide +kernel
theorem dX10_pass_134 : decode cX10_pass 134 = .ok (.iload_n 3, 1) := by decide +kernel
theorem dX10_pass_135 : decode cX10_pass 135 = .ok (.invokevirtual 201, 3) := by decide +kernel
theorem dX10_pass_138 : decode cX10_pass 138 = .ok (.ifCond .eq 31, 3) := by decide +kernel
theorem dX10_pass_141 : decode cX10_pass 141 = .ok (.aload_n 0, 1) := by decide +kernel
theorem dX10_pass_142 : decode cX10_pass 142 = .ok (.getfield 7, 3) := by decide +kernel
theorem dX10_pass_145 : decode cX10_pass 145 = .ok (.iload_n 3, 1) := by decide +kernel
theorem dX10_pass_146 : decode cX10_pass 146 = .ok (.invokestatic 35, 3) := by decide +kernel
theorem dX10_pass_149 : decode cX10_pass 149 = .ok (.iconst 4, 1) := by decide +kernel
theorem dX10_pass_150 : decode cX10_pass 150 = .ok (.iadd, 1) := by decide +kernel
theorem dX10_pass_151 : decode cX10_pass 151 = .ok (.iaload, 1) := by decide +kernel
theorem dX10_pass_152 : decode cX10_pass 152 = .ok (.aload_n 0, 1) := by decide +kernel
theorem dX10_pass_153 : decode cX10_pass 153 = .ok (.getfield 7, 3) := by decide +kernel
theorem dX10_pass_156 : decode cX10_pass 156 = .ok (.iconst 0, 1) := by decide +kernel
theorem dX10_pass_157 : decode cX10_pass 157 = .ok (.iaload, 1) := by decide +kernel
theorem dX10_pass_158 : decode cX10_pass 158 = .ok (.if_icmp .gt 11, 3) := by decide +kernel
theorem dX10_pass_161 : decode cX10_pass 161 = .ok (.aload_n 0, 1) := by decide +kernel
theorem dX10_pass_162 : decode cX10_pass 162 = .ok (.iload_n 3, 1) := by decide +kernel
theorem dX10_pass_163 : decode cX10_pass 163 = .ok (.invokevirtual 198, 3) := by decide +kernel
theorem dX10_pass_166 : decode cX10_pass 166 = .ok (.goto 4, 3) := by decide +kernel
theorem dX10_pass_169 : decode cX10_pass 169 = .ok (.iconst 0, 1) := by decide +kernel
theorem dX10_pass_170 : decode cX10_pass 170 = .ok (.iadd, 1) := by decide +kernel
theorem dX10_pass_171 : decode cX10_pass 171 = .ok (.istore_n 2, 1) := by decide +kernel
theorem dX10_pass_172 : decode cX10_pass 172 = .ok (.iinc 3 1, 3) := by decide +kernel
theorem dX10_pass_175 : decode cX10_pass 175 = .ok (.goto (-49), 3) := by decide +kernel
theorem dX10_pass_178 : decode cX10_pass 178 = .ok (.iload_n 2, 1) := by decide +kernel
theorem dX10_pass_179 : decode cX10_pass 179 = .ok (.ireturn, 1) := by decide +kernel
theorem dX10_setTimes_0 : decode cX10_setTimes 0 = .ok (.iload_n 1, 1) := by decide +kernel
theorem dX10_setTimes_1 : decode cX10_setTimes 1 = .ok (.iconst 1, 1) := by decide +kernel
theorem dX10_setTimes_2 : decode cX10_setTimes 2 = .ok (.sipush 500, 3) := by decide +kernel
theorem dX10_setTimes_5 : decode cX10_setTimes 5 = .ok (.invokestatic 82, 3) := by decide +kernel
theorem dX10_setTimes_8 : decode cX10_setTimes 8 = .ok (.ifCond .eq 14, 3) := by decide +kernel
theorem dX10_setTimes_11 : decode cX10_setTimes 11 = .ok (.iload_n 2, 1) := by decide +kernel
theorem dX10_setTimes_12 : decode cX10_setTimes 12 = .ok (.iconst 0, 1) := by decide +kernel
theorem dX10_setTimes_13 : decode cX10_setTimes 13 = .ok (.sipush 500, 3) := by decide +kernel
theorem dX10_setTimes_16 : decode cX10_setTimes 16 = .ok (.invokestatic 82, 3) := by decide +kernel
theorem dX10_setTimes_19 : decode cX10_setTimes 19 = .ok (.ifCond .ne 5, 3) := by decide +kernel
theorem dX10_setTimes_22 : decode cX10_setTimes 22 = .ok (.iconst (-1), 1) := by decide +kernel
theorem dX10_setTimes_23 : decode cX10_setTimes 23 = .ok (.ireturn, 1) := by decide +kernel
theorem dX10_setTimes_24 : decode cX10_setTimes 24 = .ok (.aload_n 0, 1) := by decide +kernel
theorem dX10_setTimes_25 : decode cX10_setTimes 25 = .ok (.invokevirtual 170, 3) := by decide +kernel
theorem dX10_setTimes_28 : decode cX10_setTimes 28 = .ok (.aload_n 0, 1) := by decide +kernel
theorem dX10_setTimes_29 : decode cX10_setTimes 29 = .ok (.getfield 7, 3) := by decide +kernel
theorem dX10_setTimes_32 : decode cX10_setTimes 32 = .ok (.iconst 1, 1) := by decide +kernel
theorem dX10_setTimes_33 : decode cX10_setTimes 33 = .ok (.iaload, 1) := by decide +kernel
theorem dX10_setTimes_34 : decode cX10_setTimes 34 = .ok (.iload_n 1, 1) := by decide +kernel
theorem dX10_setTimes_35 : decode cX10_setTimes 35 = .ok (.if_icmp .ne 13, 3) := by decide +kernel
theorem dX10_setTimes_38 : decode cX10_setTimes 38 = .ok (.aload_n 0, 1) := by decide +kernel
theorem dX10_setTimes_39 : decode cX10_setTimes 39 = .ok (.getfield 7, 3) := by decide +kernel
theorem dX10_setTimes_42 : decode cX10_setTimes 42 = .ok (.iconst 2, 1) := by decide +kernel
theorem dX10_setTimes_43 : decode cX10_setTimes 43 = .ok (.iaload, 1) := by decide +kernel
theorem dX10_setTimes_44 : decode cX10_setTimes 44 = .ok (.iload_n 2, 1) := by decide +kernel
theorem dX10_setTimes_45 : decode cX10_setTimes 45 = .ok (.if_icmp .eq 7, 3) := by decide +kernel
theorem dX10_setTimes_48 : decode cX10_setTimes 48 = .ok (.iconst 1, 1) := by decide +kernel
theorem dX10_setTimes_49 : decode cX10_setTimes 49 = .ok (.goto 4, 3) := by decide +kernel
theorem dX10_setTimes_52 : decode cX10_setTimes 52 = .ok (.iconst 0, 1) := by decide +kernel
theorem dX10_setTimes_53 : decode cX10_setTimes 53 = .ok (.istore_n 3, 1) := by decide +kernel
theorem dX10_setTimes_54 : decode cX10_setTimes 54 = .ok (.aload_n 0, 1) := by decide +kernel
theorem dX10_setTimes_55 : decode cX10_setTimes 55 = .ok (.getfield 7, 3) := by decide +kernel
theorem dX10_setTimes_58 : decode cX10_setTimes 58 = .ok (.iconst 1, 1) := by decide +kernel
theorem dX10_setTimes_59 : decode cX10_setTimes 59 = .ok (.iload_n 1, 1) := by decide +kernel
theorem dX10_setTimes_60 : decode cX10_setTimes 60 = .ok (.iastore, 1) := by decide +kernel
theorem dX10_setTimes_61 : decode cX10_setTimes 61 = .ok (.aload_n 0, 1) := by decide +kernel
theorem dX10_setTimes_62 : decode cX10_setTimes 62 = .ok (.getfield 7, 3) := by decide +kernel
theorem dX10_setTimes_65 : decode cX10_setTimes 65 = .ok (.iconst 2, 1) := by decide +kernel
theorem dX10_setTimes_66 : decode cX10_setTimes 66 = .ok (.iload_n 2, 1) := by decide +kernel
theorem dX10_setTimes_67 : decode cX10_setTimes 67 = .ok (.iastore, 1) := by decide +kernel
theorem dX10_setTimes_68 : decode cX10_setTimes 68 = .ok (.iload_n 3, 1) := by decide +kernel
theorem dX10_setTimes_69 : decode cX10_setTimes 69 = .ok (.ifCond .eq 7, 3) := by decide +kernel
theorem dX10_setTimes_72 : decode cX10_setTimes 72 = .ok (.iconst 1, 1) := by decide +kernel
theorem dX10_setTimes_73 : decode cX10_setTimes 73 = .ok (.goto 4, 3) := by decide +kernel
theorem dX10_setTimes_76 : decode cX10_setTimes 76 = .ok (.iconst 0, 1) := by decide +kernel
theorem dX10_setTimes_77 : decode cX10_setTimes 77 = .ok (.ireturn, 1) := by decide +kernel
theorem dX10_leases_0 : decode cX10_leases 0 = .ok (.iconst 0, 1) := by decide +kernel
theorem dX10_leases_1 : decode cX10_leases 1 = .ok (.istore_n 1, 1) := by decide +kernel
theorem dX10_leases_2 : decode cX10_leases 2 = .ok (.iconst 0, 1) := by decide +kernel
theorem dX10_leases_3 : decode cX10_leases 3 = .ok (.istore_n 2, 1) := by decide +kernel
theorem dX10_leases_4 : decode cX10_leases 4 = .ok (.iload_n 2, 1) := by decide +kernel
theorem dX10_leases_5 : decode cX10_leases 5 = .ok (.bipush 16, 2) := by decide +kernel
theorem dX10_leases_7 : decode cX10_leases 7 = .ok (.if_icmp .ge 51, 3) := by decide +kernel
theorem dX10_leases_10 : decode cX10_leases 10 = .ok (.iload_n 1, 1) := by decide +kernel
theorem dX10_leases_11 : decode cX10_leases 11 = .ok (.aload_n 0, 1) := by decide +kernel
theorem dX10_leases_12 : decode cX10_leases 12 = .ok (.getfield 7, 3) := by decide +kernel
theorem dX10_leases_15 : decode cX10_leases 15 = .ok (.iload_n 2, 1) := by decide +kernel
theorem dX10_leases_16 : decode cX10_leases 16 = .ok (.invokestatic 43, 3) := by decide +kernel
theorem dX10_leases_19 : decode cX10_leases 19 = .ok (.iconst 2, 1) := by decide +kernel
theorem dX10_leases_20 : decode cX10_leases 20 = .ok (.iadd, 1) := by decide +kernel
theorem dX10_leases_21 : decode cX10_leases 21 = .ok (.iaload, 1) := by decide +kernel
theorem dX10_leases_22 : decode cX10_leases 22 = .ok (.ifCond .lt 7, 3) := by decide +kernel
theorem dX10_leases_25 : decode cX10_leases 25 = .ok (.iconst 1, 1) := by decide +kernel
theorem dX10_leases_26 : decode cX10_leases 26 = .ok (.goto 4, 3) := by decide +kernel
theorem dX10_leases_29 : decode cX10_leases 29 = .ok (.iconst 0, 1) := by decide +kernel
theorem dX10_leases_30 : decode cX10_leases 30 = .ok (.aload_n 0, 1) := by decide +kernel
theorem dX10_leases_31 : decode cX10_leases 31 = .ok (.getfield 7, 3) := by decide +kernel
theorem dX10_leases_34 : decode cX10_leases 34 = .ok (.iload_n 2, 1) := by decide +kernel
theorem dX10_leases_35 : decode cX10_leases 35 = .ok (.invokestatic 43, 3) := by decide +kernel
theorem dX10_leases_38 : decode cX10_leases 38 = .ok (.iconst 4, 1) := by decide +kernel
theorem dX10_leases_39 : decode cX10_leases 39 = .ok (.iadd, 1) := by decide +kernel
theorem dX10_leases_40 : decode cX10_leases 40 = .ok (.iaload, 1) := by decide +kernel
theorem dX10_leases_41 : decode cX10_leases 41 = .ok (.ifCond .lt 7, 3) := by decide +kernel
theorem dX10_leases_44 : decode cX10_leases 44 = .ok (.iconst 1, 1) := by decide +kernel
theorem dX10_leases_45 : decode cX10_leases 45 = .ok (.goto 4, 3) := by decide +kernel
theorem dX10_leases_48 : decode cX10_leases 48 = .ok (.iconst 0, 1) := by decide +kernel
theorem dX10_leases_49 : decode cX10_leases 49 = .ok (.iadd, 1) := by decide +kernel
theorem dX10_leases_50 : decode cX10_leases 50 = .ok (.iadd, 1) := by decide +kernel
theorem dX10_leases_51 : decode cX10_leases 51 = .ok (.istore_n 1, 1) := by decide +kernel
theorem dX10_leases_52 : decode cX10_leases 52 = .ok (.iinc 2 1, 3) := by decide +kernel
theorem dX10_leases_55 : decode cX10_leases 55 = .ok (.goto (-51), 3) := by decide +kernel
theorem dX10_leases_58 : decode cX10_leases 58 = .ok (.iload_n 1, 1) := by decide +kernel
theorem dX10_leases_59 : decode cX10_leases 59 = .ok (.ireturn, 1) := by decide +kernel
theorem dX10_nextEvent_0 : decode cX10_nextEvent 0 = .ok (.bipush (-9), 2) := by decide +kernel
theorem dX10_nextEvent_2 : decode cX10_nextEvent 2 = .ok (.istore_n 1, 1) := by decide +kernel
theorem dX10_nextEvent_3 : decode cX10_nextEvent 3 = .ok (.iconst 0, 1) := by decide +kernel
theorem dX10_nextEvent_4 : decode cX10_nextEvent 4 = .ok (.istore_n 2, 1) := by decide +kernel
theorem dX10_nextEvent_5 : decode cX10_nextEvent 5 = .ok (.iload_n 2, 1) := by decide +kernel
theorem dX10_nextEvent_6 : decode cX10_nextEvent 6 = .ok (.bipush 16, 2) := by decide +kernel
theorem dX10_nextEvent_8 : decode cX10_nextEvent 8 = .ok (.if_icmp .ge 72, 3) := by decide +kernel
theorem dX10_nextEvent_11 : decode cX10_nextEvent 11 = .ok (.iload_n 2, 1) := by decide +kernel
theorem dX10_nextEvent_12 : decode cX10_nextEvent 12 = .ok (.invokestatic 43, 3) := by decide +kernel
theorem dX10_nextEvent_15 : decode cX10_nextEvent 15 = .ok (.iconst 2, 1) := by decide +kernel
theorem dX10_nextEvent_16 : decode cX10_nextEvent 16 = .ok (.iadd, 1) := by decide +kernel
theorem dX10_nextEvent_17 : decode cX10_nextEvent 17 = .ok (.istore_n 3, 1) := by decide +kernel
theorem dX10_nextEvent_18 : decode cX10_nextEvent 18 = .ok (.iload_n 3, 1) := by decide +kernel
theorem dX10_nextEvent_19 : decode cX10_nextEvent 19 = .ok (.iload_n 2, 1) := by decide +kernel
theorem dX10_nextEvent_20 : decode cX10_nextEvent 20 = .ok (.invokestatic 43, 3) := by decide +kernel
theorem dX10_nextEvent_23 : decode cX10_nextEvent 23 = .ok (.iconst 4, 1) := by decide +kernel
theorem dX10_nextEvent_24 : decode cX10_nextEvent 24 = .ok (.iadd, 1) := by decide +kernel
theorem dX10_nextEvent_25 : decode cX10_nextEvent 25 = .ok (.if_icmp .gt 49, 3) := by decide +kernel
theorem dX10_nextEvent_28 : decode cX10_nextEvent 28 = .ok (.aload_n 0, 1) := by decide +kernel
theorem dX10_nextEvent_29 : decode cX10_nextEvent 29 = .ok (.getfield 7, 3) := by decide +kernel
theorem dX10_nextEvent_32 : decode cX10_nextEvent 32 = .ok (.iload_n 3, 1) := by decide +kernel
theorem dX10_nextEvent_33 : decode cX10_nextEvent 33 = .ok (.iaload, 1) := by decide +kernel
theorem dX10_nextEvent_34 : decode cX10_nextEvent 34 = .ok (.ifCond .lt 32, 3) := by decide +kernel
theorem dX10_nextEvent_37 : decode cX10_nextEvent 37 = .ok (.iload_n 1, 1) := by decide +kernel
theorem dX10_nextEvent_38 : decode cX10_nextEvent 38 = .ok (.bipush (-9), 2) := by decide +kernel
theorem dX10_nextEvent_40 : decode cX10_nextEvent 40 = .ok (.if_icmp .eq 15, 3) := by decide +kernel
theorem dX10_nextEvent_43 : decode cX10_nextEvent 43 = .ok (.aload_n 0, 1) := by decide +kernel
theorem dX10_nextEvent_44 : decode cX10_nextEvent 44 = .ok (.getfield 7, 3) := by decide +kernel
theorem dX10_nextEvent_47 : decode cX10_nextEvent 47 = .ok (.iload_n 3, 1) := by decide +kernel
theorem dX10_nextEvent_48 : decode cX10_nextEvent 48 = .ok (.iconst 1, 1) := by decide +kernel
theorem dX10_nextEvent_49 : decode cX10_nextEvent 49 = .ok (.iadd, 1) := by decide +kernel
theorem dX10_nextEvent_50 : decode cX10_nextEvent 50 = .ok (.iaload, 1) := by decide +kernel
theorem dX10_nextEvent_51 : decode cX10_nextEvent 51 = .ok (.iload_n 1, 1) := by decide +kernel
theorem dX10_nextEvent_52 : decode cX10_nextEvent 52 = .ok (.if_icmp .ge 14, 3) := by decide +kernel
theorem dX10_nextEvent_55 : decode cX10_nextEvent 55 = .ok (.aload_n 0, 1) := by decide +kernel
theorem dX10_nextEvent_56 : decode cX10_nextEvent 56 = .ok (.getfield 7, 3) := by decide +kernel
theorem dX10_nextEvent_59 : decode cX10_nextEvent 59 = .ok (.iload_n 3, 1) := by decide +kernel
theorem dX10_nextEvent_60 : decode cX10_nextEvent 60 = .ok (.iconst 1, 1) := by decide +kernel
theorem dX10_nextEvent_61 : decode cX10_nextEvent 61 = .ok (.iadd, 1) := by decide +kernel
theorem dX10_nextEvent_62 : decode cX10_nextEvent 62 = .ok (.iaload, 1) := by decide +kernel
theorem dX10_nextEvent_63 : decode cX10_nextEvent 63 = .ok (.goto 4, 3) := by decide +kernel
theorem dX10_nextEvent_66 : decode cX10_nextEvent 66 = .ok (.iload_n 1, 1) := by decide +kernel
theorem dX10_nextEvent_67 : decode cX10_nextEvent 67 = .ok (.istore_n 1, 1) := by decide +kernel
theorem dX10_nextEvent_68 : decode cX10_nextEvent 68 = .ok (.iinc 3 2, 3) := by decide +kernel
theorem dX10_nextEvent_71 : decode cX10_nextEvent 71 = .ok (.goto (-53), 3) := by decide +kernel
theorem dX10_nextEvent_74 : decode cX10_nextEvent 74 = .ok (.iinc 2 1, 3) := by decide +kernel
theorem dX10_nextEvent_77 : decode cX10_nextEvent 77 = .ok (.goto (-72), 3) := by decide +kernel
theorem dX10_nextEvent_80 : decode cX10_nextEvent 80 = .ok (.iconst 0, 1) := by decide +kernel
theorem dX10_nextEvent_81 : decode cX10_nextEvent 81 = .ok (.istore_n 2, 1) := by decide +kernel
theorem dX10_nextEvent_82 : decode cX10_nextEvent 82 = .ok (.iload_n 2, 1) := by decide +kernel
theorem dX10_nextEvent_83 : decode cX10_nextEvent 83 = .ok (.bipush 12, 2) := by decide +kernel
theorem dX10_nextEvent_85 : decode cX10_nextEvent 85 = .ok (.if_icmp .ge 46, 3) := by decide +kernel
theorem dX10_nextEvent_88 : decode cX10_nextEvent 88 = .ok (.aload_n 0, 1) := by decide +kernel
theorem dX10_nextEvent_89 : decode cX10_nextEvent 89 = .ok (.getfield 7, 3) := by decide +kernel
theorem dX10_nextEvent_92 : decode cX10_nextEvent 92 = .ok (.iload_n 2, 1) := by decide +kernel
theorem dX10_nextEvent_93 : decode cX10_nextEvent 93 = .ok (.invokestatic 35, 3) := by decide +kernel
theorem dX10_nextEvent_96 : decode cX10_nextEvent 96 = .ok (.iconst 4, 1) := by decide +kernel
theorem dX10_nextEvent_97 : decode cX10_nextEvent 97 = .ok (.iadd, 1) := by decide +kernel
theorem dX10_nextEvent_98 : decode cX10_nextEvent 98 = .ok (.iaload, 1) := by decide +kernel
theorem dX10_nextEvent_99 : decode cX10_nextEvent 99 = .ok (.istore_n 3, 1) := by decide +kernel
theorem dX10_nextEvent_100 : decode cX10_nextEvent 100 = .ok (.aload_n 0, 1) := by decide +kernel
theorem dX10_nextEvent_101 : decode cX10_nextEvent 101 = .ok (.iload_n 2, 1) := by decide +kernel
theorem dX10_nextEvent_102 : decode cX10_nextEvent 102 = .ok (.invokevirtual 201, 3) := by decide +kernel
theorem dX10_nextEvent_105 : decode cX10_nextEvent 105 = .ok (.ifCond .eq 18, 3) := by decide +kernel
theorem dX10_nextEvent_108 : decode cX10_nextEvent 108 = .ok (.iload_n 1, 1) := by decide +kernel
theorem dX10_nextEvent_109 : decode cX10_nextEvent 109 = .ok (.bipush (-9), 2) := by decide +kernel
theorem dX10_nextEvent_111 : decode cX10_nextEvent 111 = .ok (.if_icmp .eq 8, 3) := by decide +kernel
theorem dX10_nextEvent_114 : decode cX10_nextEvent 114 = .ok (.iload_n 3, 1) := by decide +kernel
theorem dX10_nextEvent_115 : decode cX10_nextEvent 115 = .ok (.iload_n 1, 1) := by decide +kernel
theorem dX10_nextEvent_116 : decode cX10_nextEvent 116 = .ok (.if_icmp .ge 7, 3) := by decide +kernel
theorem dX10_nextEvent_119 : decode cX10_nextEvent 119 = .ok (.iload_n 3, 1) := by decide +kernel
theorem dX10_nextEvent_120 : decode cX10_nextEvent 120 = .ok (.goto 4, 3) := by decide +kernel
theorem dX10_nextEvent_123 : decode cX10_nextEvent 123 = .ok (.iload_n 1, 1) := by decide +kernel
theorem dX10_nextEvent_124 : decode cX10_nextEvent 124 = .ok (.istore_n 1, 1) := by decide +kernel
theorem dX10_nextEvent_125 : decode cX10_nextEvent 125 = .ok (.iinc 2 1, 3) := by decide +kernel
theorem dX10_nextEvent_128 : decode cX10_nextEvent 128 = .ok (.goto (-46), 3) := by decide +kernel
theorem dX10_nextEvent_131 : decode cX10_nextEvent 131 = .ok (.iload_n 1, 1) := by decide +kernel
theorem dX10_nextEvent_132 : decode cX10_nextEvent 132 = .ok (.ireturn, 1) := by decide +kernel
theorem dX10_netsWith_0 : decode cX10_netsWith 0 = .ok (.iconst 0, 1) := by decide +kernel
theorem dX10_netsWith_1 : decode cX10_netsWith 1 = .ok (.istore_n 2, 1) := by decide +kernel
theorem dX10_netsWith_2 : decode cX10_netsWith 2 = .ok (.iconst 0, 1) := by decide +kernel
theorem dX10_netsWith_3 : decode cX10_netsWith 3 = .ok (.istore_n 3, 1) := by decide +kernel
theorem dX10_netsWith_4 : decode cX10_netsWith 4 = .ok (.iload_n 3, 1) := by decide +kernel
theorem dX10_netsWith_5 : decode cX10_netsWith 5 = .ok (.bipush 12, 2) := by decide +kernel
theorem dX10_netsWith_7 : decode cX10_netsWith 7 = .ok (.if_icmp .ge 31, 3) := by decide +kernel
theorem dX10_netsWith_10 : decode cX10_netsWith 10 = .ok (.iload_n 2, 1) := by decide +kernel
theorem dX10_netsWith_11 : decode cX10_netsWith 11 = .ok (.aload_n 0, 1) := by decide +kernel
theorem dX10_netsWith_12 : decode cX10_netsWith 12 = .ok (.getfield 7, 3) := by decide +kernel
theorem dX10_netsWith_15 : decode cX10_netsWith 15 = .ok (.iload_n 3, 1) := by decide +kernel
theorem dX10_netsWith_16 : decode cX10_netsWith 16 = .ok (.invokestatic 35, 3) := by decide +kernel
theorem dX10_netsWith_19 : decode cX10_netsWith 19 = .ok (.iload_n 1, 1) := by decide +kernel
theorem dX10_netsWith_20 : decode cX10_netsWith 20 = .ok (.iadd, 1) := by decide +kernel
theorem dX10_netsWith_21 : decode cX10_netsWith 21 = .ok (.iaload, 1) := by decide +kernel
theorem dX10_netsWith_22 : decode cX10_netsWith 22 = .ok (.ifCond .lt 7, 3) := by decide +kernel
theorem dX10_netsWith_25 : decode cX10_netsWith 25 = .ok (.iconst 1, 1) := by decide +kernel
theorem dX10_netsWith_26 : decode cX10_netsWith 26 = .ok (.goto 4, 3) := by decide +kernel
theorem dX10_netsWith_29 : decode cX10_netsWith 29 = .ok (.iconst 0, 1) := by decide +kernel
theorem dX10_netsWith_30 : decode cX10_netsWith 30 = .ok (.iadd, 1) := by decide +kernel
theorem dX10_netsWith_31 : decode cX10_netsWith 31 = .ok (.istore_n 2, 1) := by decide +kernel
theorem dX10_netsWith_32 : decode cX10_netsWith 32 = .ok (.iinc 3 1, 3) := by decide +kernel
theorem dX10_netsWith_35 : decode cX10_netsWith 35 = .ok (.goto (-31), 3) := by decide +kernel
theorem dX10_netsWith_38 : decode cX10_netsWith 38 = .ok (.iload_n 2, 1) := by decide +kernel
theorem dX10_netsWith_39 : decode cX10_netsWith 39 = .ok (.ireturn, 1) := by decide +kernel
theorem dX10_count_0 : decode cX10_count 0 = .ok (.aload_n 0, 1) := by decide +kernel
theorem dX10_count_1 : decode cX10_count 1 = .ok (.invokevirtual 75, 3) := by decide +kernel
theorem dX10_count_4 : decode cX10_count 4 = .ok (.iload_n 1, 1) := by decide +kernel
theorem dX10_count_5 : decode cX10_count 5 = .ok (.tableswitch 108 0 8 #[51, 58, 65, 71, 77, 86, 91, 98, 103], 51) := by decide +kernel
theorem dX10_count_56 : decode cX10_count 56 = .ok (.aload_n 0, 1) := by decide +kernel
theorem dX10_count_57 : decode cX10_count 57 = .ok (.getfield 7, 3) := by decide +kernel
theorem dX10_count_60 : decode cX10_count 60 = .ok (.iconst 0, 1) := by decide +kernel
theorem dX10_count_61 : decode cX10_count 61 = .ok (.iaload, 1) := by decide +kernel
theorem dX10_count_62 : decode cX10_count 62 = .ok (.ireturn, 1) := by decide +kernel
theorem dX10_count_63 : decode cX10_count 63 = .ok (.aload_n 0, 1) := by decide +kernel
theorem dX10_count_64 : decode cX10_count 64 = .ok (.getfield 7, 3) := by decide +kernel
theorem dX10_count_67 : decode cX10_count 67 = .ok (.iconst 5, 1) := by decide +kernel
theorem dX10_count_68 : decode cX10_count 68 = .ok (.iaload, 1) := by decide +kernel
theorem dX10_count_69 : decode cX10_count 69 = .ok (.ireturn, 1) := by decide +kernel
theorem dX10_count_70 : decode cX10_count 70 = .ok (.aload_n 0, 1) := by decide +kernel
theorem dX10_count_71 : decode cX10_count 71 = .ok (.iconst 0, 1) := by decide +kernel
theorem dX10_count_72 : decode cX10_count 72 = .ok (.invokevirtual 220, 3) := by decide +kernel
theorem dX10_count_75 : decode cX10_count 75 = .ok (.ireturn, 1) := by decide +kernel
theorem dX10_count_76 : decode cX10_count 76 = .ok (.aload_n 0, 1) := by decide +kernel
theorem dX10_count_77 : decode cX10_count 77 = .ok (.iconst 2, 1) := by decide +kernel
theorem dX10_count_78 : decode cX10_count 78 = .ok (.invokevirtual 220, 3) := by decide +kernel
theorem dX10_count_81 : decode cX10_count 81 = .ok (.ireturn, 1) := by decide +kernel
theorem dX10_count_82 : decode cX10_count 82 = .ok (.bipush 16, 2) := by decide +kernel
theorem dX10_count_84 : decode cX10_count 84 = .ok (.aload_n 0, 1) := by decide +kernel
theorem dX10_count_85 : decode cX10_count 85 = .ok (.iconst (-1), 1) := by decide +kernel
theorem dX10_count_86 : decode cX10_count 86 = .ok (.invokevirtual 189, 3) := by decide +kernel
theorem dX10_count_89 : decode cX10_count 89 = .ok (.isub, 1) := by decide +kernel
theorem dX10_count_90 : decode cX10_count 90 = .ok (.ireturn, 1) := by decide +kernel
theorem dX10_count_91 : decode cX10_count 91 = .ok (.aload_n 0, 1) := by decide +kernel
theorem dX10_count_92 : decode cX10_count 92 = .ok (.invokevirtual 223, 3) := by decide +kernel
theorem dX10_count_95 : decode cX10_count 95 = .ok (.ireturn, 1) := by decide +kernel
theorem dX10_count_96 : decode cX10_count 96 = .ok (.aload_n 0, 1) := by decide +kernel
theorem dX10_count_97 : decode cX10_count 97 = .ok (.getfield 7, 3) := by decide +kernel
theorem dX10_count_100 : decode cX10_count 100 = .ok (.iconst 4, 1) := by decide +kernel
theorem dX10_count_101 : decode cX10_count 101 = .ok (.iaload, 1) := by decide +kernel
theorem dX10_count_102 : decode cX10_count 102 = .ok (.ireturn, 1) := by decide +kernel
theorem dX10_count_103 : decode cX10_count 103 = .ok (.aload_n 0, 1) := by decide +kernel
theorem dX10_count_104 : decode cX10_count 104 = .ok (.getfield 66, 3) := by decide +kernel
theorem dX10_count_107 : decode cX10_count 107 = .ok (.ireturn, 1) := by decide +kernel
theorem dX10_count_108 : decode cX10_count 108 = .ok (.aload_n 0, 1) := by decide +kernel
theorem dX10_count_109 : decode cX10_count 109 = .ok (.getfield 46, 3) := by decide +kernel
theorem dX10_count_112 : decode cX10_count 112 = .ok (.ireturn, 1) := by decide +kernel
theorem dX10_count_113 : decode cX10_count 113 = .ok (.iconst (-1), 1) := by decide +kernel
theorem dX10_count_114 : decode cX10_count 114 = .ok (.ireturn, 1) := by decide +kernel
theorem dX10_nextBlock_0 : decode cX10_nextBlock 0 = .ok (.ldc 207, 2) := by decide +kernel
theorem dX10_nextBlock_2 : decode cX10_nextBlock 2 = .ok (.istore_n 2, 1) := by decide +kernel
theorem dX10_nextBlock_3 : decode cX10_nextBlock 3 = .ok (.iconst 0, 1) := by decide +kernel
theorem dX10_nextBlock_4 : decode cX10_nextBlock 4 = .ok (.istore_n 3, 1) := by decide +kernel
theorem dX10_nextBlock_5 : decode cX10_nextBlock 5 = .ok (.iload_n 3, 1) := by decide +kernel
theorem dX10_nextBlock_6 : decode cX10_nextBlock 6 = .ok (.bipush 24, 2) := by decide +kernel
theorem dX10_nextBlock_8 : decode cX10_nextBlock 8 = .ok (.if_icmp .ge 37, 3) := by decide +kernel
theorem dX10_nextBlock_11 : decode cX10_nextBlock 11 = .ok (.aload_n 0, 1) := by decide +kernel
theorem dX10_nextBlock_12 : decode cX10_nextBlock 12 = .ok (.iload_n 3, 1) := by decide +kernel
theorem dX10_nextBlock_13 : decode cX10_nextBlock 13 = .ok (.invokevirtual 50, 3) := by decide +kernel
theorem dX10_nextBlock_16 : decode cX10_nextBlock 16 = .ok (.iload_n 1, 1) := by decide +kernel
theorem dX10_nextBlock_17 : decode cX10_nextBlock 17 = .ok (.if_icmp .lt 20, 3) := by decide +kernel
theorem dX10_nextBlock_20 : decode cX10_nextBlock 20 = .ok (.aload_n 0, 1) := by decide +kernel
theorem dX10_nextBlock_21 : decode cX10_nextBlock 21 = .ok (.iload_n 3, 1) := by decide +kernel
theorem dX10_nextBlock_22 : decode cX10_nextBlock 22 = .ok (.invokevirtual 50, 3) := by decide +kernel
theorem dX10_nextBlock_25 : decode cX10_nextBlock 25 = .ok (.iload_n 2, 1) := by decide +kernel
theorem dX10_nextBlock_26 : decode cX10_nextBlock 26 = .ok (.if_icmp .ge 11, 3) := by decide +kernel
theorem dX10_nextBlock_29 : decode cX10_nextBlock 29 = .ok (.aload_n 0, 1) := by decide +kernel
theorem dX10_nextBlock_30 : decode cX10_nextBlock 30 = .ok (.iload_n 3, 1) := by decide +kernel
theorem dX10_nextBlock_31 : decode cX10_nextBlock 31 = .ok (.invokevirtual 50, 3) := by decide +kernel
theorem dX10_nextBlock_34 : decode cX10_nextBlock 34 = .ok (.goto 4, 3) := by decide +kernel
theorem dX10_nextBlock_37 : decode cX10_nextBlock 37 = .ok (.iload_n 2, 1) := by decide +kernel
theorem dX10_nextBlock_38 : decode cX10_nextBlock 38 = .ok (.istore_n 2, 1) := by decide +kernel
theorem dX10_nextBlock_39 : decode cX10_nextBlock 39 = .ok (.iinc 3 1, 3) := by decide +kernel
theorem dX10_nextBlock_42 : decode cX10_nextBlock 42 = .ok (.goto (-37), 3) := by decide +kernel
theorem dX10_nextBlock_45 : decode cX10_nextBlock 45 = .ok (.iload_n 2, 1) := by decide +kernel
theorem dX10_nextBlock_46 : decode cX10_nextBlock 46 = .ok (.ireturn, 1) := by decide +kernel
theorem dX10_findsRoute_0 : decode cX10_findsRoute 0 = .ok (.iconst 0, 1) := by decide +kernel
theorem dX10_findsRoute_1 : decode cX10_findsRoute 1 = .ok (.istore_n 2, 1) := by decide +kernel
theorem dX10_findsRoute_2 : decode cX10_findsRoute 2 = .ok (.aload_n 0, 1) := by decide +kernel
theorem dX10_findsRoute_3 : decode cX10_findsRoute 3 = .ok (.iconst 0, 1) := by decide +kernel
theorem dX10_findsRoute_4 : decode cX10_findsRoute 4 = .ok (.invokevirtual 226, 3) := by decide +kernel
theorem dX10_findsRoute_7 : decode cX10_findsRoute 7 = .ok (.istore_n 3, 1) := by decide +kernel
theorem dX10_findsRoute_8 : decode cX10_findsRoute 8 = .ok (.iload_n 3, 1) := by decide +kernel
theorem dX10_findsRoute_9 : decode cX10_findsRoute 9 = .ok (.ldc 207, 2) := by decide +kernel
theorem dX10_findsRoute_11 : decode cX10_findsRoute 11 = .ok (.if_icmp .ge 68, 3) := by decide +kernel
theorem dX10_findsRoute_14 : decode cX10_findsRoute 14 = .ok (.iconst 0, 1) := by decide +kernel
theorem dX10_findsRoute_15 : decode cX10_findsRoute 15 = .ok (.istore 4, 2) := by decide +kernel
theorem dX10_findsRoute_17 : decode cX10_findsRoute 17 = .ok (.iload_n 3, 1) := by decide +kernel
theorem dX10_findsRoute_18 : decode cX10_findsRoute 18 = .ok (.iload 4, 2) := by decide +kernel
theorem dX10_findsRoute_20 : decode cX10_findsRoute 20 = .ok (.invokestatic 56, 3) := by decide +kernel
theorem dX10_findsRoute_23 : decode cX10_findsRoute 23 = .ok (.irem, 1) := by decide +kernel
theorem dX10_findsRoute_24 : decode cX10_findsRoute 24 = .ok (.ifCond .ne 18, 3) := by decide +kernel
theorem dX10_findsRoute_27 : decode cX10_findsRoute 27 = .ok (.aload_n 0, 1) := by decide +kernel
theorem dX10_findsRoute_28 : decode cX10_findsRoute 28 = .ok (.iload_n 3, 1) := by decide +kernel
theorem dX10_findsRoute_29 : decode cX10_findsRoute 29 = .ok (.iload 4, 2) := by decide +kernel
theorem dX10_findsRoute_31 : decode cX10_findsRoute 31 = .ok (.invokevirtual 59, 3) := by decide +kernel
theorem dX10_findsRoute_34 : decode cX10_findsRoute 34 = .ok (.iload 4, 2) := by decide +kernel
theorem dX10_findsRoute_36 : decode cX10_findsRoute 36 = .ok (.invokestatic 56, 3) := by decide +kernel
theorem dX10_findsRoute_39 : decode cX10_findsRoute 39 = .ok (.if_icmp .ge 9, 3) := by decide +kernel
theorem dX10_findsRoute_42 : decode cX10_findsRoute 42 = .ok (.iinc 4 1, 3) := by decide +kernel
theorem dX10_findsRoute_45 : decode cX10_findsRoute 45 = .ok (.goto (-28), 3) := by decide +kernel
theorem dX10_findsRoute_48 : decode cX10_findsRoute 48 = .ok (.iload_n 2, 1) := by decide +kernel
theorem dX10_findsRoute_49 : decode cX10_findsRoute 49 = .ok (.iload_n 1, 1) := by decide +kernel
theorem dX10_findsRoute_50 : decode cX10_findsRoute 50 = .ok (.if_icmp .ne 11, 3) := by decide +kernel
theorem dX10_findsRoute_53 : decode cX10_findsRoute 53 = .ok (.aload_n 0, 1) := by decide +kernel
theorem dX10_findsRoute_54 : decode cX10_findsRoute 54 = .ok (.iload 4, 2) := by decide +kernel
theorem dX10_findsRoute_56 : decode cX10_findsRoute 56 = .ok (.putfield 229, 3) := by decide +kernel
theorem dX10_findsRoute_59 : decode cX10_findsRoute 59 = .ok (.iload_n 3, 1) := by decide +kernel
theorem dX10_findsRoute_60 : decode cX10_findsRoute 60 = .ok (.ireturn, 1) := by decide +kernel
theorem dX10_findsRoute_61 : decode cX10_findsRoute 61 = .ok (.iinc 2 1, 3) := by decide +kernel
theorem dX10_findsRoute_64 : decode cX10_findsRoute 64 = .ok (.aload_n 0, 1) := by decide +kernel
theorem dX10_findsRoute_65 : decode cX10_findsRoute 65 = .ok (.iload_n 3, 1) := by decide +kernel
theorem dX10_findsRoute_66 : decode cX10_findsRoute 66 = .ok (.iload 4, 2) := by decide +kernel
theorem dX10_findsRoute_68 : decode cX10_findsRoute 68 = .ok (.invokestatic 56, 3) := by decide +kernel
theorem dX10_findsRoute_71 : decode cX10_findsRoute 71 = .ok (.iadd, 1) := by decide +kernel
theorem dX10_findsRoute_72 : decode cX10_findsRoute 72 = .ok (.invokevirtual 226, 3) := by decide +kernel
theorem dX10_findsRoute_75 : decode cX10_findsRoute 75 = .ok (.istore_n 3, 1) := by decide +kernel
theorem dX10_findsRoute_76 : decode cX10_findsRoute 76 = .ok (.goto (-68), 3) := by decide +kernel
theorem dX10_findsRoute_79 : decode cX10_findsRoute 79 = .ok (.iload_n 1, 1) := by decide +kernel
theorem dX10_findsRoute_80 : decode cX10_findsRoute 80 = .ok (.ifCond .ge 7, 3) := by decide +kernel
theorem dX10_findsRoute_83 : decode cX10_findsRoute 83 = .ok (.iload_n 2, 1) := by decide +kernel
theorem dX10_findsRoute_84 : decode cX10_findsRoute 84 = .ok (.goto 5, 3) := by decide +kernel
theorem dX10_findsRoute_87 : decode cX10_findsRoute 87 = .ok (.bipush (-9), 2) := by decide +kernel
theorem dX10_findsRoute_89 : decode cX10_findsRoute 89 = .ok (.ireturn, 1) := by decide +kernel
theorem dX10_routeCount_0 : decode cX10_routeCount 0 = .ok (.aload_n 0, 1) := by decide +kernel
theorem dX10_routeCount_1 : decode cX10_routeCount 1 = .ok (.iconst (-1), 1) := by decide +kernel
theorem dX10_routeCount_2 : decode cX10_routeCount 2 = .ok (.invokevirtual 232, 3) := by decide +kernel
theorem dX10_routeCount_5 : decode cX10_routeCount 5 = .ok (.ireturn, 1) := by decide +kernel
theorem dX10_route_0 : decode cX10_route 0 = .ok (.iload_n 1, 1) := by decide +kernel
theorem dX10_route_1 : decode cX10_route 1 = .ok (.ifCond .lt 12, 3) := by decide +kernel
theorem dX10_route_4 : decode cX10_route 4 = .ok (.iload_n 2, 1) := by decide +kernel
theorem dX10_route_5 : decode cX10_route 5 = .ok (.iconst 0, 1) := by decide +kernel
theorem dX10_route_6 : decode cX10_route 6 = .ok (.iconst 1, 1) := by decide +kernel
theorem dX10_route_7 : decode cX10_route 7 = .ok (.invokestatic 82, 3) := by decide +kernel
theorem dX10_route_10 : decode cX10_route 10 = .ok (.ifCond .ne 5, 3) := by decide +kernel
theorem dX10_route_13 : decode cX10_route 13 = .ok (.iconst (-1), 1) := by decide +kernel
theorem dX10_route_14 : decode cX10_route 14 = .ok (.ireturn, 1) := by decide +kernel
theorem dX10_route_15 : decode cX10_route 15 = .ok (.aload_n 0, 1) := by decide +kernel
theorem dX10_route_16 : decode cX10_route 16 = .ok (.iload_n 1, 1) := by decide +kernel
theorem dX10_route_17 : decode cX10_route 17 = .ok (.invokevirtual 232, 3) := by decide +kernel
theorem dX10_route_20 : decode cX10_route 20 = .ok (.istore_n 3, 1) := by decide +kernel
theorem dX10_route_21 : decode cX10_route 21 = .ok (.iload_n 3, 1) := by decide +kernel
theorem dX10_route_22 : decode cX10_route 22 = .ok (.bipush (-9), 2) := by decide +kernel
theorem dX10_route_24 : decode cX10_route 24 = .ok (.if_icmp .eq 7, 3) := by decide +kernel
theorem dX10_route_27 : decode cX10_route 27 = .ok (.iload_n 2, 1) := by decide +kernel
theorem dX10_route_28 : decode cX10_route 28 = .ok (.ifCond .ne 7, 3) := by decide +kernel
theorem dX10_route_31 : decode cX10_route 31 = .ok (.iload_n 3, 1) := by decide +kernel
theorem dX10_route_32 : decode cX10_route 32 = .ok (.goto 7, 3) := by decide +kernel
theorem dX10_route_35 : decode cX10_route 35 = .ok (.aload_n 0, 1) := by decide +kernel
theorem dX10_route_36 : decode cX10_route 36 = .ok (.getfield 229, 3) := by decide +kernel
theorem dX10_route_39 : decode cX10_route 39 = .ok (.ireturn, 1) := by decide +kernel
theorem dX10_indexAfter_0 : decode cX10_indexAfter 0 = .ok (.aload_n 0, 1) := by decide +kernel
theorem dX10_indexAfter_1 : decode cX10_indexAfter 1 = .ok (.getfield 7, 3) := by decide +kernel
theorem dX10_indexAfter_4 : decode cX10_indexAfter 4 = .ok (.iload_n 1, 1) := by decide +kernel
theorem dX10_indexAfter_5 : decode cX10_indexAfter 5 = .ok (.invokestatic 35, 3) := by decide +kernel
theorem dX10_indexAfter_8 : decode cX10_indexAfter 8 = .ok (.iaload, 1) := by decide +kernel
theorem dX10_indexAfter_9 : decode cX10_indexAfter 9 = .ok (.istore_n 2, 1) := by decide +kernel
theorem dX10_indexAfter_10 : decode cX10_indexAfter 10 = .ok (.aload_n 0, 1) := by decide +kernel
theorem dX10_indexAfter_11 : decode cX10_indexAfter 11 = .ok (.aload_n 0, 1) := by decide +kernel
theorem dX10_indexAfter_12 : decode cX10_indexAfter 12 = .ok (.aload_n 0, 1) := by decide +kernel
theorem dX10_indexAfter_13 : decode cX10_indexAfter 13 = .ok (.getfield 7, 3) := by decide +kernel
theorem dX10_indexAfter_16 : decode cX10_indexAfter 16 = .ok (.iload_n 1, 1) := by decide +kernel
theorem dX10_indexAfter_17 : decode cX10_indexAfter 17 = .ok (.invokestatic 35, 3) := by decide +kernel
theorem dX10_indexAfter_20 : decode cX10_indexAfter 20 = .ok (.iconst 1, 1) := by decide +kernel
theorem dX10_indexAfter_21 : decode cX10_indexAfter 21 = .ok (.iadd, 1) := by decide +kernel
theorem dX10_indexAfter_22 : decode cX10_indexAfter 22 = .ok (.iaload, 1) := by decide +kernel
theorem dX10_indexAfter_23 : decode cX10_indexAfter 23 = .ok (.invokevirtual 136, 3) := by decide +kernel
theorem dX10_indexAfter_26 : decode cX10_indexAfter 26 = .ok (.putfield 235, 3) := by decide +kernel
theorem dX10_indexAfter_29 : decode cX10_indexAfter 29 = .ok (.aload_n 0, 1) := by decide +kernel
theorem dX10_indexAfter_30 : decode cX10_indexAfter 30 = .ok (.getfield 235, 3) := by decide +kernel
theorem dX10_indexAfter_33 : decode cX10_indexAfter 33 = .ok (.ifCond .ge 6, 3) := by decide +kernel
theorem dX10_indexAfter_36 : decode cX10_indexAfter 36 = .ok (.bipush (-9), 2) := by decide +kernel
theorem dX10_indexAfter_38 : decode cX10_indexAfter 38 = .ok (.ireturn, 1) := by decide +kernel
theorem dX10_indexAfter_39 : decode cX10_indexAfter 39 = .ok (.aload_n 0, 1) := by decide +kernel
theorem dX10_indexAfter_40 : decode cX10_indexAfter 40 = .ok (.getfield 7, 3) := by decide +kernel
theorem dX10_indexAfter_43 : decode cX10_indexAfter 43 = .ok (.iload_n 1, 1) := by decide +kernel
theorem dX10_indexAfter_44 : decode cX10_indexAfter 44 = .ok (.invokestatic 35, 3) := by decide +kernel
theorem dX10_indexAfter_47 : decode cX10_indexAfter 47 = .ok (.aload_n 0, 1) := by decide +kernel
theorem dX10_indexAfter_48 : decode cX10_indexAfter 48 = .ok (.getfield 235, 3) := by decide +kernel
theorem dX10_indexAfter_51 : decode cX10_indexAfter 51 = .ok (.iastore, 1) := by decide +kernel
theorem dX10_indexAfter_52 : decode cX10_indexAfter 52 = .ok (.aload_n 0, 1) := by decide +kernel
theorem dX10_indexAfter_53 : decode cX10_indexAfter 53 = .ok (.invokevirtual 180, 3) := by decide +kernel
theorem dX10_indexAfter_56 : decode cX10_indexAfter 56 = .ok (.istore_n 3, 1) := by decide +kernel
theorem dX10_indexAfter_57 : decode cX10_indexAfter 57 = .ok (.aload_n 0, 1) := by decide +kernel
theorem dX10_indexAfter_58 : decode cX10_indexAfter 58 = .ok (.getfield 7, 3) := by decide +kernel
theorem dX10_indexAfter_61 : decode cX10_indexAfter 61 = .ok (.iload_n 1, 1) := by decide +kernel
theorem dX10_indexAfter_62 : decode cX10_indexAfter 62 = .ok (.invokestatic 35, 3) := by decide +kernel
theorem dX10_indexAfter_65 : decode cX10_indexAfter 65 = .ok (.iload_n 2, 1) := by decide +kernel
theorem dX10_indexAfter_66 : decode cX10_indexAfter 66 = .ok (.iastore, 1) := by decide +kernel
theorem dX10_indexAfter_67 : decode cX10_indexAfter 67 = .ok (.iload_n 3, 1) := by decide +kernel
theorem dX10_indexAfter_68 : decode cX10_indexAfter 68 = .ok (.ireturn, 1) := by decide +kernel
theorem dX10_fragmentationAfter_0 : decode cX10_fragmentationAfter 0 = .ok (.iload_n 1, 1) := by decide +kernel
theorem dX10_fragmentationAfter_1 : decode cX10_fragmentationAfter 1 = .ok (.invokestatic 183, 3) := by decide +kernel
theorem dX10_fragmentationAfter_4 : decode cX10_fragmentationAfter 4 = .ok (.ifCond .ne 5, 3) := by decide +kernel
theorem dX10_fragmentationAfter_7 : decode cX10_fragmentationAfter 7 = .ok (.iconst (-1), 1) := by decide +kernel
theorem dX10_fragmentationAfter_8 : decode cX10_fragmentationAfter 8 = .ok (.ireturn, 1) := by decide +kernel
theorem dX10_fragmentationAfter_9 : decode cX10_fragmentationAfter 9 = .ok (.aload_n 0, 1) := by decide +kernel
theorem dX10_fragmentationAfter_10 : decode cX10_fragmentationAfter 10 = .ok (.iload_n 1, 1) := by decide +kernel
theorem dX10_fragmentationAfter_11 : decode cX10_fragmentationAfter 11 = .ok (.invokevirtual 186, 3) := by decide +kernel
theorem dX10_fragmentationAfter_14 : decode cX10_fragmentationAfter 14 = .ok (.ifCond .eq 11, 3) := by decide +kernel
theorem dX10_fragmentationAfter_17 : decode cX10_fragmentationAfter 17 = .ok (.aload_n 0, 1) := by decide +kernel
theorem dX10_fragmentationAfter_18 : decode cX10_fragmentationAfter 18 = .ok (.iload_n 1, 1) := by decide +kernel
theorem dX10_fragmentationAfter_19 : decode cX10_fragmentationAfter 19 = .ok (.invokevirtual 201, 3) := by decide +kernel
theorem dX10_fragmentationAfter_22 : decode cX10_fragmentationAfter 22 = .ok (.ifCond .eq 6, 3) := by decide +kernel
theorem dX10_fragmentationAfter_25 : decode cX10_fragmentationAfter 25 = .ok (.bipush (-2), 2) := by decide +kernel
theorem dX10_fragmentationAfter_27 : decode cX10_fragmentationAfter 27 = .ok (.ireturn, 1) := by decide +kernel
theorem dX10_fragmentationAfter_28 : decode cX10_fragmentationAfter 28 = .ok (.aload_n 0, 1) := by decide +kernel
theorem dX10_fragmentationAfter_29 : decode cX10_fragmentationAfter 29 = .ok (.iload_n 1, 1) := by decide +kernel
theorem dX10_fragmentationAfter_30 : decode cX10_fragmentationAfter 30 = .ok (.invokevirtual 238, 3) := by decide +kernel
theorem dX10_fragmentationAfter_33 : decode cX10_fragmentationAfter 33 = .ok (.ireturn, 1) := by decide +kernel
theorem dX10_best_0 : decode cX10_best 0 = .ok (.bipush (-9), 2) := by decide +kernel
theorem dX10_best_2 : decode cX10_best 2 = .ok (.istore_n 1, 1) := by decide +kernel
theorem dX10_best_3 : decode cX10_best 3 = .ok (.aload_n 0, 1) := by decide +kernel
theorem dX10_best_4 : decode cX10_best 4 = .ok (.invokevirtual 180, 3) := by decide +kernel
theorem dX10_best_7 : decode cX10_best 7 = .ok (.istore_n 2, 1) := by decide +kernel
theorem dX10_best_8 : decode cX10_best 8 = .ok (.iconst 0, 1) := by decide +kernel
theorem dX10_best_9 : decode cX10_best 9 = .ok (.istore_n 3, 1) := by decide +kernel
theorem dX10_best_10 : decode cX10_best 10 = .ok (.iload_n 3, 1) := by decide +kernel
theorem dX10_best_11 : decode cX10_best 11 = .ok (.bipush 12, 2) := by decide +kernel
theorem dX10_best_13 : decode cX10_best 13 = .ok (.if_icmp .ge 55, 3) := by decide +kernel
theorem dX10_best_16 : decode cX10_best 16 = .ok (.aload_n 0, 1) := by decide +kernel
theorem dX10_best_17 : decode cX10_best 17 = .ok (.iload_n 3, 1) := by decide +kernel
theorem dX10_best_18 : decode cX10_best 18 = .ok (.invokevirtual 186, 3) := by decide +kernel
theorem dX10_best_21 : decode cX10_best 21 = .ok (.ifCond .eq 19, 3) := by decide +kernel
theorem dX10_best_24 : decode cX10_best 24 = .ok (.aload_n 0, 1) := by decide +kernel
theorem dX10_best_25 : decode cX10_best 25 = .ok (.iload_n 3, 1) := by decide +kernel
theorem dX10_best_26 : decode cX10_best 26 = .ok (.invokevirtual 201, 3) := by decide +kernel
theorem dX10_best_29 : decode cX10_best 29 = .ok (.ifCond .ne 11, 3) := by decide +kernel
theorem dX10_best_32 : decode cX10_best 32 = .ok (.aload_n 0, 1) := by decide +kernel
theorem dX10_best_33 : decode cX10_best 33 = .ok (.iload_n 3, 1) := by decide +kernel
theorem dX10_best_34 : decode cX10_best 34 = .ok (.invokevirtual 238, 3) := by decide +kernel
theorem dX10_best_37 : decode cX10_best 37 = .ok (.goto 5, 3) := by decide +kernel
theorem dX10_best_40 : decode cX10_best 40 = .ok (.bipush (-9), 2) := by decide +kernel
theorem dX10_best_42 : decode cX10_best 42 = .ok (.istore 4, 2) := by decide +kernel
theorem dX10_best_44 : decode cX10_best 44 = .ok (.iload 4, 2) := by decide +kernel
theorem dX10_best_46 : decode cX10_best 46 = .ok (.bipush (-9), 2) := by decide +kernel
theorem dX10_best_48 : decode cX10_best 48 = .ok (.if_icmp .eq 14, 3) := by decide +kernel
theorem dX10_best_51 : decode cX10_best 51 = .ok (.iload 4, 2) := by decide +kernel
theorem dX10_best_53 : decode cX10_best 53 = .ok (.iload_n 2, 1) := by decide +kernel
theorem dX10_best_54 : decode cX10_best 54 = .ok (.if_icmp .ge 8, 3) := by decide +kernel
theorem dX10_best_57 : decode cX10_best 57 = .ok (.iload_n 3, 1) := by decide +kernel
theorem dX10_best_58 : decode cX10_best 58 = .ok (.istore_n 1, 1) := by decide +kernel
theorem dX10_best_59 : decode cX10_best 59 = .ok (.iload 4, 2) := by decide +kernel
theorem dX10_best_61 : decode cX10_best 61 = .ok (.istore_n 2, 1) := by decide +kernel
theorem dX10_best_62 : decode cX10_best 62 = .ok (.iinc 3 1, 3) := by decide +kernel
theorem dX10_best_65 : decode cX10_best 65 = .ok (.goto (-55), 3) := by decide +kernel
theorem dX10_best_68 : decode cX10_best 68 = .ok (.iload_n 1, 1) := by decide +kernel
theorem dX10_best_69 : decode cX10_best 69 = .ok (.ireturn, 1) := by decide +kernel
theorem dX10_bestMove_0 : decode cX10_bestMove 0 = .ok (.aload_n 0, 1) := by decide +kernel
theorem dX10_bestMove_1 : decode cX10_bestMove 1 = .ok (.invokevirtual 241, 3) := by decide +kernel
theorem dX10_bestMove_4 : decode cX10_bestMove 4 = .ok (.ireturn, 1) := by decide +kernel
theorem dX10_makePlan_0 : decode cX10_makePlan 0 = .ok (.iload_n 1, 1) := by decide +kernel
theorem dX10_makePlan_1 : decode cX10_makePlan 1 = .ok (.iconst 1, 1) := by decide +kernel
theorem dX10_makePlan_2 : decode cX10_makePlan 2 = .ok (.bipush 12, 2) := by decide +kernel
theorem dX10_makePlan_4 : decode cX10_makePlan 4 = .ok (.invokestatic 82, 3) := by decide +kernel
theorem dX10_makePlan_7 : decode cX10_makePlan 7 = .ok (.ifCond .ne 5, 3) := by decide +kernel
theorem dX10_makePlan_10 : decode cX10_makePlan 10 = .ok (.iconst (-1), 1) := by decide +kernel
theorem dX10_makePlan_11 : decode cX10_makePlan 11 = .ok (.ireturn, 1) := by decide +kernel
theorem dX10_makePlan_12 : decode cX10_makePlan 12 = .ok (.aload_n 0, 1) := by decide +kernel
theorem dX10_makePlan_13 : decode cX10_makePlan 13 = .ok (.invokevirtual 161, 3) := by decide +kernel
theorem dX10_makePlan_16 : decode cX10_makePlan 16 = .ok (.aload_n 0, 1) := by decide +kernel
theorem dX10_makePlan_17 : decode cX10_makePlan 17 = .ok (.iconst 0, 1) := by decide +kernel
theorem dX10_makePlan_18 : decode cX10_makePlan 18 = .ok (.putfield 244, 3) := by decide +kernel
theorem dX10_makePlan_21 : decode cX10_makePlan 21 = .ok (.aload_n 0, 1) := by decide +kernel
theorem dX10_makePlan_22 : decode cX10_makePlan 22 = .ok (.invokevirtual 241, 3) := by decide +kernel
theorem dX10_makePlan_25 : decode cX10_makePlan 25 = .ok (.istore_n 2, 1) := by decide +kernel
theorem dX10_makePlan_26 : decode cX10_makePlan 26 = .ok (.iload_n 2, 1) := by decide +kernel
theorem dX10_makePlan_27 : decode cX10_makePlan 27 = .ok (.bipush (-9), 2) := by decide +kernel
theorem dX10_makePlan_29 : decode cX10_makePlan 29 = .ok (.if_icmp .eq 96, 3) := by decide +kernel
theorem dX10_makePlan_32 : decode cX10_makePlan 32 = .ok (.aload_n 0, 1) := by decide +kernel
theorem dX10_makePlan_33 : decode cX10_makePlan 33 = .ok (.iload_n 2, 1) := by decide +kernel
theorem dX10_makePlan_34 : decode cX10_makePlan 34 = .ok (.invokevirtual 238, 3) := by decide +kernel
theorem dX10_makePlan_37 : decode cX10_makePlan 37 = .ok (.istore_n 3, 1) := by decide +kernel
theorem dX10_makePlan_38 : decode cX10_makePlan 38 = .ok (.aload_n 0, 1) := by decide +kernel
theorem dX10_makePlan_39 : decode cX10_makePlan 39 = .ok (.getfield 7, 3) := by decide +kernel
theorem dX10_makePlan_42 : decode cX10_makePlan 42 = .ok (.iload_n 2, 1) := by decide +kernel
theorem dX10_makePlan_43 : decode cX10_makePlan 43 = .ok (.invokestatic 35, 3) := by decide +kernel
theorem dX10_makePlan_46 : decode cX10_makePlan 46 = .ok (.aload_n 0, 1) := by decide +kernel
theorem dX10_makePlan_47 : decode cX10_makePlan 47 = .ok (.getfield 235, 3) := by decide +kernel
theorem dX10_makePlan_50 : decode cX10_makePlan 50 = .ok (.iastore, 1) := by decide +kernel
theorem dX10_makePlan_51 : decode cX10_makePlan 51 = .ok (.aload_n 0, 1) := by decide +kernel
theorem dX10_makePlan_52 : decode cX10_makePlan 52 = .ok (.getfield 29, 3) := by decide +kernel
theorem dX10_makePlan_55 : decode cX10_makePlan 55 = .ok (.iconst 3, 1) := by decide +kernel
theorem dX10_makePlan_56 : decode cX10_makePlan 56 = .ok (.aload_n 0, 1) := by decide +kernel
theorem dX10_makePlan_57 : decode cX10_makePlan 57 = .ok (.getfield 244, 3) := by decide +kernel
theorem dX10_makePlan_60 : decode cX10_makePlan 60 = .ok (.imul, 1) := by decide +kernel
theorem dX10_makePlan_61 : decode cX10_makePlan 61 = .ok (.iload_n 2, 1) := by decide +kernel
theorem dX10_makePlan_62 : decode cX10_makePlan 62 = .ok (.iastore, 1) := by decide +kernel
theorem dX10_makePlan_63 : decode cX10_makePlan 63 = .ok (.aload_n 0, 1) := by decide +kernel
theorem dX10_makePlan_64 : decode cX10_makePlan 64 = .ok (.getfield 29, 3) := by decide +kernel
theorem dX10_makePlan_67 : decode cX10_makePlan 67 = .ok (.iconst 3, 1) := by decide +kernel
theorem dX10_makePlan_68 : decode cX10_makePlan 68 = .ok (.aload_n 0, 1) := by decide +kernel
theorem dX10_makePlan_69 : decode cX10_makePlan 69 = .ok (.getfield 244, 3) := by decide +kernel
theorem dX10_makePlan_72 : decode cX10_makePlan 72 = .ok (.imul, 1) := by decide +kernel
theorem dX10_makePlan_73 : decode cX10_makePlan 73 = .ok (.iconst 1, 1) := by decide +kernel
theorem dX10_makePlan_74 : decode cX10_makePlan 74 = .ok (.iadd, 1) := by decide +kernel
theorem dX10_makePlan_75 : decode cX10_makePlan 75 = .ok (.aload_n 0, 1) := by decide +kernel
theorem dX10_makePlan_76 : decode cX10_makePlan 76 = .ok (.getfield 235, 3) := by decide +kernel
theorem dX10_makePlan_79 : decode cX10_makePlan 79 = .ok (.iastore, 1) := by decide +kernel
theorem dX10_makePlan_80 : decode cX10_makePlan 80 = .ok (.aload_n 0, 1) := by decide +kernel
theorem dX10_makePlan_81 : decode cX10_makePlan 81 = .ok (.getfield 29, 3) := by decide +kernel
theorem dX10_makePlan_84 : decode cX10_makePlan 84 = .ok (.iconst 3, 1) := by decide +kernel
theorem dX10_makePlan_85 : decode cX10_makePlan 85 = .ok (.aload_n 0, 1) := by decide +kernel
theorem dX10_makePlan_86 : decode cX10_makePlan 86 = .ok (.getfield 244, 3) := by decide +kernel
theorem dX10_makePlan_89 : decode cX10_makePlan 89 = .ok (.imul, 1) := by decide +kernel
theorem dX10_makePlan_90 : decode cX10_makePlan 90 = .ok (.iconst 2, 1) := by decide +kernel
theorem dX10_makePlan_91 : decode cX10_makePlan 91 = .ok (.iadd, 1) := by decide +kernel
theorem dX10_makePlan_92 : decode cX10_makePlan 92 = .ok (.iload_n 3, 1) := by decide +kernel
theorem dX10_makePlan_93 : decode cX10_makePlan 93 = .ok (.iastore, 1) := by decide +kernel
theorem dX10_makePlan_94 : decode cX10_makePlan 94 = .ok (.aload_n 0, 1) := by decide +kernel
theorem dX10_makePlan_95 : decode cX10_makePlan 95 = .ok (.dup, 1) := by decide +kernel
theorem dX10_makePlan_96 : decode cX10_makePlan 96 = .ok (.getfield 244, 3) := by decide +kernel
theorem dX10_makePlan_99 : decode cX10_makePlan 99 = .ok (.iconst 1, 1) := by decide +kernel
theorem dX10_makePlan_100 : decode cX10_makePlan 100 = .ok (.iadd, 1) := by decide +kernel
theorem dX10_makePlan_101 : decode cX10_makePlan 101 = .ok (.putfield 244, 3) := by decide +kernel
theorem dX10_makePlan_104 : decode cX10_makePlan 104 = .ok (.aload_n 0, 1) := by decide +kernel
theorem dX10_makePlan_105 : decode cX10_makePlan 105 = .ok (.getfield 244, 3) := by decide +kernel
theorem dX10_makePlan_108 : decode cX10_makePlan 108 = .ok (.iload_n 1, 1) := by decide +kernel
theorem dX10_makePlan_109 : decode cX10_makePlan 109 = .ok (.if_icmp .ge 10, 3) := by decide +kernel
theorem dX10_makePlan_112 : decode cX10_makePlan 112 = .ok (.aload_n 0, 1) := by decide +kernel
theorem dX10_makePlan_113 : decode cX10_makePlan 113 = .ok (.invokevirtual 241, 3) := by decide +kernel
theorem dX10_makePlan_116 : decode cX10_makePlan 116 = .ok (.goto 5, 3) := by decide +kernel
theorem dX10_makePlan_119 : decode cX10_makePlan 119 = .ok (.bipush (-9), 2) := by decide +kernel
theorem dX10_makePlan_121 : decode cX10_makePlan 121 = .ok (.istore_n 2, 1) := by decide +kernel
theorem dX10_makePlan_122 : decode cX10_makePlan 122 = .ok (.goto (-96), 3) := by decide +kernel
theorem dX10_makePlan_125 : decode cX10_makePlan 125 = .ok (.aload_n 0, 1) := by decide +kernel
theorem dX10_makePlan_126 : decode cX10_makePlan 126 = .ok (.invokevirtual 167, 3) := by decide +kernel
theorem dX10_makePlan_129 : decode cX10_makePlan 129 = .ok (.aload_n 0, 1) := by decide +kernel
theorem dX10_makePlan_130 : decode cX10_makePlan 130 = .ok (.getfield 244, 3) := by decide +kernel
theorem dX10_makePlan_133 : decode cX10_makePlan 133 = .ok (.ireturn, 1) := by decide +kernel
theorem dX10_plan_0 : decode cX10_plan 0 = .ok (.iload_n 1, 1) := by decide +kernel
theorem dX10_plan_1 : decode cX10_plan 1 = .ok (.ifCond .lt 12, 3) := by decide +kernel
theorem dX10_plan_4 : decode cX10_plan 4 = .ok (.iload_n 2, 1) := by decide +kernel
theorem dX10_plan_5 : decode cX10_plan 5 = .ok (.iconst 0, 1) := by decide +kernel
theorem dX10_plan_6 : decode cX10_plan 6 = .ok (.iconst 2, 1) := by decide +kernel
theorem dX10_plan_7 : decode cX10_plan 7 = .ok (.invokestatic 82, 3) := by decide +kernel
theorem dX10_plan_10 : decode cX10_plan 10 = .ok (.ifCond .ne 5, 3) := by decide +kernel
theorem dX10_plan_13 : decode cX10_plan 13 = .ok (.iconst (-1), 1) := by decide +kernel
theorem dX10_plan_14 : decode cX10_plan 14 = .ok (.ireturn, 1) := by decide +kernel
theorem dX10_plan_15 : decode cX10_plan 15 = .ok (.iload_n 1, 1) := by decide +kernel
theorem dX10_plan_16 : decode cX10_plan 16 = .ok (.aload_n 0, 1) := by decide +kernel
theorem dX10_plan_17 : decode cX10_plan 17 = .ok (.getfield 244, 3) := by decide +kernel
theorem dX10_plan_20 : decode cX10_plan 20 = .ok (.if_icmp .ge 16, 3) := by decide +kernel
theorem dX10_plan_23 : decode cX10_plan 23 = .ok (.aload_n 0, 1) := by decide +kernel
theorem dX10_plan_24 : decode cX10_plan 24 = .ok (.getfield 29, 3) := by decide +kernel
theorem dX10_plan_27 : decode cX10_plan 27 = .ok (.iconst 3, 1) := by decide +kernel
theorem dX10_plan_28 : decode cX10_plan 28 = .ok (.iload_n 1, 1) := by decide +kernel
theorem dX10_plan_29 : decode cX10_plan 29 = .ok (.imul, 1) := by decide +kernel
theorem dX10_plan_30 : decode cX10_plan 30 = .ok (.iload_n 2, 1) := by decide +kernel
theorem dX10_plan_31 : decode cX10_plan 31 = .ok (.iadd, 1) := by decide +kernel
theorem dX10_plan_32 : decode cX10_plan 32 = .ok (.iaload, 1) := by decide +kernel
theorem dX10_plan_33 : decode cX10_plan 33 = .ok (.goto 5, 3) := by decide +kernel
theorem dX10_plan_36 : decode cX10_plan 36 = .ok (.bipush (-9), 2) := by decide +kernel
theorem dX10_plan_38 : decode cX10_plan 38 = .ok (.ireturn, 1) := by decide +kernel
theorem dJ0_length_8abf5_0 : decode cJ0_length_8abf5 0 = .ok (.aload_n 0, 1) := by decide +kernel
theorem dJ0_length_8abf5_1 : decode cJ0_length_8abf5 1 = .ok (.getfield 9, 3) := by decide +kernel
theorem dJ0_length_8abf5_4 : decode cJ0_length_8abf5 4 = .ok (.arraylength, 1) := by decide +kernel
theorem dJ0_length_8abf5_5 : decode cJ0_length_8abf5 5 = .ok (.aload_n 0, 1) := by decide +kernel
theorem dJ0_length_8abf5_6 : decode cJ0_length_8abf5 6 = .ok (.invokevirtual 335, 3) := by decide +kernel
theorem dJ0_length_8abf5_9 : decode cJ0_length_8abf5 9 = .ok (.ishr, 1) := by decide +kernel
theorem dJ0_length_8abf5_10 : decode cJ0_length_8abf5 10 = .ok (.ireturn, 1) := by decide +kernel
theorem dJ0_charAt_5068e_0 : decode cJ0_charAt_5068e 0 = .ok (.aload_n 0, 1) := by decide +kernel
theorem dJ0_charAt_5068e_1 : decode cJ0_charAt_5068e 1 = .ok (.invokevirtual 492, 3) := by decide +kernel
theorem dJ0_charAt_5068e_4 : decode cJ0_charAt_5068e 4 = .ok (.ifCond .eq 12, 3) := by decide +kernel
theorem dJ0_charAt_5068e_7 : decode cJ0_charAt_5068e 7 = .ok (.aload_n 0, 1) := by decide +kernel
theorem dJ0_charAt_5068e_8 : decode cJ0_charAt_5068e 8 = .ok (.getfield 9, 3) := by decide +kernel
theorem dJ0_charAt_5068e_11 : decode cJ0_charAt_5068e 11 = .ok (.iload_n 1, 1) := by decide +kernel
theorem dJ0_charAt_5068e_12 : decode cJ0_charAt_5068e 12 = .ok (.invokestatic 495, 3) := by decide +kernel
theorem dJ0_charAt_5068e_15 : decode cJ0_charAt_5068e 15 = .ok (.ireturn, 1) := by decide +kernel
theorem dJ0_charAt_5068e_16 : decode cJ0_charAt_5068e 16 = .ok (.aload_n 0, 1) := by decide +kernel
theorem dJ0_charAt_5068e_17 : decode cJ0_charAt_5068e 17 = .ok (.getfield 9, 3) := by decide +kernel
theorem dJ0_charAt_5068e_20 : decode cJ0_charAt_5068e 20 = .ok (.iload_n 1, 1) := by decide +kernel
theorem dJ0_charAt_5068e_21 : decode cJ0_charAt_5068e 21 = .ok (.invokestatic 498, 3) := by decide +kernel
theorem dJ0_charAt_5068e_24 : decode cJ0_charAt_5068e 24 = .ok (.ireturn, 1) := by decide +kernel
theorem dJ0_coder_7d493_0 : decode cJ0_coder_7d493 0 = .ok (.getstatic 38, 3) := by decide +kernel
theorem dJ0_coder_7d493_3 : decode cJ0_coder_7d493 3 = .ok (.ifCond .eq 10, 3) := by decide +kernel
theorem dJ0_coder_7d493_6 : decode cJ0_coder_7d493 6 = .ok (.aload_n 0, 1) := by decide +kernel
theorem dJ0_coder_7d493_7 : decode cJ0_coder_7d493 7 = .ok (.getfield 15, 3) := by decide +kernel
theorem dJ0_coder_7d493_10 : decode cJ0_coder_7d493 10 = .ok (.goto 4, 3) := by decide +kernel
theorem dJ0_coder_7d493_13 : decode cJ0_coder_7d493 13 = .ok (.iconst 1, 1) := by decide +kernel
theorem dJ0_coder_7d493_14 : decode cJ0_coder_7d493 14 = .ok (.ireturn, 1) := by decide +kernel
theorem dJ0_isLatin1_aae02_0 : decode cJ0_isLatin1_aae02 0 = .ok (.getstatic 38, 3) := by decide +kernel
theorem dJ0_isLatin1_aae02_3 : decode cJ0_isLatin1_aae02 3 = .ok (.ifCond .eq 14, 3) := by decide +kernel
theorem dJ0_isLatin1_aae02_6 : decode cJ0_isLatin1_aae02 6 = .ok (.aload_n 0, 1) := by decide +kernel
theorem dJ0_isLatin1_aae02_7 : decode cJ0_isLatin1_aae02 7 = .ok (.getfield 15, 3) := by decide +kernel
theorem dJ0_isLatin1_aae02_10 : decode cJ0_isLatin1_aae02 10 = .ok (.ifCond .ne 7, 3) := by decide +kernel
theorem dJ0_isLatin1_aae02_13 : decode cJ0_isLatin1_aae02 13 = .ok (.iconst 1, 1) := by decide +kernel
theorem dJ0_isLatin1_aae02_14 : decode cJ0_isLatin1_aae02 14 = .ok (.goto 4, 3) := by decide +kernel
theorem dJ0_isLatin1_aae02_17 : decode cJ0_isLatin1_aae02 17 = .ok (.iconst 0, 1) := by decide +kernel
theorem dJ0_isLatin1_aae02_18 : decode cJ0_isLatin1_aae02 18 = .ok (.ireturn, 1) := by decide +kernel
theorem dJ0_checkIndex_df160_0 : decode cJ0_checkIndex_df160 0 = .ok (.iload_n 0, 1) := by decide +kernel
theorem dJ0_checkIndex_df160_1 : decode cJ0_checkIndex_df160 1 = .ok (.iload_n 1, 1) := by decide +kernel
theorem dJ0_checkIndex_df160_2 : decode cJ0_checkIndex_df160 2 = .ok (.getstatic 1053, 3) := by decide +kernel
theorem dJ0_checkIndex_df160_5 : decode cJ0_checkIndex_df160 5 = .ok (.invokestatic 1059, 3) := by decide +kernel
theorem dJ0_checkIndex_df160_8 : decode cJ0_checkIndex_df160 8 = .ok (.pop, 1) := by decide +kernel
theorem dJ0_checkIndex_df160_9 : decode cJ0_checkIndex_df160 9 = .ok (.return_, 1) := by decide +kernel
theorem dJ1_charAt_3b067_0 : decode cJ1_charAt_3b067 0 = .ok (.iload_n 1, 1) := by decide +kernel
theorem dJ1_charAt_3b067_1 : decode cJ1_charAt_3b067 1 = .ok (.aload_n 0, 1) := by decide +kernel
theorem dJ1_charAt_3b067_2 : decode cJ1_charAt_3b067 2 = .ok (.arraylength, 1) := by decide +kernel
theorem dJ1_charAt_3b067_3 : decode cJ1_charAt_3b067 3 = .ok (.invokestatic 9, 3) := by decide +kernel
theorem dJ1_charAt_3b067_6 : decode cJ1_charAt_3b067 6 = .ok (.aload_n 0, 1) := by decide +kernel
theorem dJ1_charAt_3b067_7 : decode cJ1_charAt_3b067 7 = .ok (.iload_n 1, 1) := by decide +kernel
theorem dJ1_charAt_3b067_8 : decode cJ1_charAt_3b067 8 = .ok (.baload, 1) := by decide +kernel
theorem dJ1_charAt_3b067_9 : decode cJ1_charAt_3b067 9 = .ok (.sipush 255, 3) := by decide +kernel
theorem dJ1_charAt_3b067_12 : decode cJ1_charAt_3b067 12 = .ok (.iand, 1) := by decide +kernel
theorem dJ1_charAt_3b067_13 : decode cJ1_charAt_3b067 13 = .ok (.i2c, 1) := by decide +kernel
theorem dJ1_charAt_3b067_14 : decode cJ1_charAt_3b067 14 = .ok (.ireturn, 1) := by decide +kernel
theorem dJ2_getChar_3b067_0 : decode cJ2_getChar_3b067 0 = .ok (.getstatic 44, 3) := by decide +kernel
theorem dJ2_getChar_3b067_3 : decode cJ2_getChar_3b067 3 = .ok (.ifCond .ne 25, 3) := by decide +kernel
theorem dJ2_getChar_3b067_6 : decode cJ2_getChar_3b067 6 = .ok (.iload_n 1, 1) := by decide +kernel
theorem dJ2_getChar_3b067_7 : decode cJ2_getChar_3b067 7 = .ok (.ifCond .lt 11, 3) := by decide +kernel
theorem dJ2_getChar_3b067_10 : decode cJ2_getChar_3b067 10 = .ok (.iload_n 1, 1) := by decide +kernel
theorem dJ2_getChar_3b067_11 : decode cJ2_getChar_3b067 11 = .ok (.aload_n 0, 1) := by decide +kernel
theorem dJ2_getChar_3b067_12 : decode cJ2_getChar_3b067 12 = .ok (.invokestatic 48, 3) := by decide +kernel
theorem dJ2_getChar_3b067_15 : decode cJ2_getChar_3b067 15 = .ok (.if_icmp .lt 13, 3) := by decide +kernel
theorem dJ2_getChar_3b067_18 : decode cJ2_getChar_3b067 18 = .ok (.new 52, 3) := by decide +kernel
theorem dJ2_getChar_3b067_21 : decode cJ2_getChar_3b067 21 = .ok (.dup, 1) := by decide +kernel
theorem dJ2_getChar_3b067_22 : decode cJ2_getChar_3b067 22 = .ok (.ldc 54, 2) := by decide +kernel
theorem dJ2_getChar_3b067_24 : decode cJ2_getChar_3b067 24 = .ok (.invokespecial 56, 3) := by decide +kernel
theorem dJ2_getChar_3b067_27 : decode cJ2_getChar_3b067 27 = .ok (.athrow, 1) := by decide +kernel
theorem dJ2_getChar_3b067_28 : decode cJ2_getChar_3b067 28 = .ok (.iload_n 1, 1) := by decide +kernel
theorem dJ2_getChar_3b067_29 : decode cJ2_getChar_3b067 29 = .ok (.iconst 1, 1) := by decide +kernel
theorem dJ2_getChar_3b067_30 : decode cJ2_getChar_3b067 30 = .ok (.ishl, 1) := by decide +kernel
theorem dJ2_getChar_3b067_31 : decode cJ2_getChar_3b067 31 = .ok (.istore_n 1, 1) := by decide +kernel
theorem dJ2_getChar_3b067_32 : decode cJ2_getChar_3b067 32 = .ok (.aload_n 0, 1) := by decide +kernel
theorem dJ2_getChar_3b067_33 : decode cJ2_getChar_3b067 33 = .ok (.iload_n 1, 1) := by decide +kernel
theorem dJ2_getChar_3b067_34 : decode cJ2_getChar_3b067 34 = .ok (.iinc 1 1, 3) := by decide +kernel
theorem dJ2_getChar_3b067_37 : decode cJ2_getChar_3b067 37 = .ok (.baload, 1) := by decide +kernel
theorem dJ2_getChar_3b067_38 : decode cJ2_getChar_3b067 38 = .ok (.sipush 255, 3) := by decide +kernel
theorem dJ2_getChar_3b067_41 : decode cJ2_getChar_3b067 41 = .ok (.iand, 1) := by decide +kernel
theorem dJ2_getChar_3b067_42 : decode cJ2_getChar_3b067 42 = .ok (.getstatic 59, 3) := by decide +kernel
theorem dJ2_getChar_3b067_45 : decode cJ2_getChar_3b067 45 = .ok (.ishl, 1) := by decide +kernel
theorem dJ2_getChar_3b067_46 : decode cJ2_getChar_3b067 46 = .ok (.aload_n 0, 1) := by decide +kernel
theorem dJ2_getChar_3b067_47 : decode cJ2_getChar_3b067 47 = .ok (.iload_n 1, 1) := by decide +kernel
theorem dJ2_getChar_3b067_48 : decode cJ2_getChar_3b067 48 = .ok (.baload, 1) := by decide +kernel
theorem dJ2_getChar_3b067_49 : decode cJ2_getChar_3b067 49 = .ok (.sipush 255, 3) := by decide +kernel
theorem dJ2_getChar_3b067_52 : decode cJ2_getChar_3b067 52 = .ok (.iand, 1) := by decide +kernel
theorem dJ2_getChar_3b067_53 : decode cJ2_getChar_3b067 53 = .ok (.getstatic 63, 3) := by decide +kernel
theorem dJ2_getChar_3b067_56 : decode cJ2_getChar_3b067 56 = .ok (.ishl, 1) := by decide +kernel
theorem dJ2_getChar_3b067_57 : decode cJ2_getChar_3b067 57 = .ok (.ior, 1) := by decide +kernel
theorem dJ2_getChar_3b067_58 : decode cJ2_getChar_3b067 58 = .ok (.i2c, 1) := by decide +kernel
theorem dJ2_getChar_3b067_59 : decode cJ2_getChar_3b067 59 = .ok (.ireturn, 1) := by decide +kernel
theorem dJ2_length_9d52b_0 : decode cJ2_length_9d52b 0 = .ok (.aload_n 0, 1) := by decide +kernel
theorem dJ2_length_9d52b_1 : decode cJ2_length_9d52b 1 = .ok (.arraylength, 1) := by decide +kernel
theorem dJ2_length_9d52b_2 : decode cJ2_length_9d52b 2 = .ok (.iconst 1, 1) := by decide +kernel
theorem dJ2_length_9d52b_3 : decode cJ2_length_9d52b 3 = .ok (.ishr, 1) := by decide +kernel
theorem dJ2_length_9d52b_4 : decode cJ2_length_9d52b 4 = .ok (.ireturn, 1) := by decide +kernel
theorem dJ2_charAt_3b067_0 : decode cJ2_charAt_3b067 0 = .ok (.iload_n 1, 1) := by decide +kernel
theorem dJ2_charAt_3b067_1 : decode cJ2_charAt_3b067 1 = .ok (.aload_n 0, 1) := by decide +kernel
theorem dJ2_charAt_3b067_2 : decode cJ2_charAt_3b067 2 = .ok (.invokestatic 67, 3) := by decide +kernel
theorem dJ2_charAt_3b067_5 : decode cJ2_charAt_3b067 5 = .ok (.aload_n 0, 1) := by decide +kernel
theorem dJ2_charAt_3b067_6 : decode cJ2_charAt_3b067 6 = .ok (.iload_n 1, 1) := by decide +kernel
theorem dJ2_charAt_3b067_7 : decode cJ2_charAt_3b067 7 = .ok (.invokestatic 71, 3) := by decide +kernel
theorem dJ2_charAt_3b067_10 : decode cJ2_charAt_3b067 10 = .ok (.ireturn, 1) := by decide +kernel
theorem dJ2_checkIndex_2214a_0 : decode cJ2_checkIndex_2214a 0 = .ok (.iload_n 0, 1) := by decide +kernel
theorem dJ2_checkIndex_2214a_1 : decode cJ2_checkIndex_2214a 1 = .ok (.aload_n 1, 1) := by decide +kernel
theorem dJ2_checkIndex_2214a_2 : decode cJ2_checkIndex_2214a 2 = .ok (.invokestatic 48, 3) := by decide +kernel
theorem dJ2_checkIndex_2214a_5 : decode cJ2_checkIndex_2214a 5 = .ok (.invokestatic 414, 3) := by decide +kernel
theorem dJ2_checkIndex_2214a_8 : decode cJ2_checkIndex_2214a 8 = .ok (.return_, 1) := by decide +kernel
theorem dJ3_checkIndex_8e157_0 : decode cJ3_checkIndex_8e157 0 = .ok (.iload_n 0, 1) := by decide +kernel
theorem dJ3_checkIndex_8e157_1 : decode cJ3_checkIndex_8e157 1 = .ok (.ifCond .lt 8, 3) := by decide +kernel
theorem dJ3_checkIndex_8e157_4 : decode cJ3_checkIndex_8e157 4 = .ok (.iload_n 0, 1) := by decide +kernel
theorem dJ3_checkIndex_8e157_5 : decode cJ3_checkIndex_8e157 5 = .ok (.iload_n 1, 1) := by decide +kernel
theorem dJ3_checkIndex_8e157_6 : decode cJ3_checkIndex_8e157 6 = .ok (.if_icmp .lt 10, 3) := by decide +kernel
theorem dJ3_checkIndex_8e157_9 : decode cJ3_checkIndex_8e157 9 = .ok (.aload_n 2, 1) := by decide +kernel
theorem dJ3_checkIndex_8e157_10 : decode cJ3_checkIndex_8e157 10 = .ok (.iload_n 0, 1) := by decide +kernel
theorem dJ3_checkIndex_8e157_11 : decode cJ3_checkIndex_8e157 11 = .ok (.iload_n 1, 1) := by decide +kernel
theorem dJ3_checkIndex_8e157_12 : decode cJ3_checkIndex_8e157 12 = .ok (.invokestatic 95, 3) := by decide +kernel
theorem dJ3_checkIndex_8e157_15 : decode cJ3_checkIndex_8e157 15 = .ok (.athrow, 1) := by decide +kernel
theorem dJ3_checkIndex_8e157_16 : decode cJ3_checkIndex_8e157 16 = .ok (.iload_n 0, 1) := by decide +kernel
theorem dJ3_checkIndex_8e157_17 : decode cJ3_checkIndex_8e157 17 = .ok (.ireturn, 1) := by decide +kernel
theorem dJ7_fill_53178_0 : decode cJ7_fill_53178 0 = .ok (.iconst 0, 1) := by decide +kernel
theorem dJ7_fill_53178_1 : decode cJ7_fill_53178 1 = .ok (.istore_n 2, 1) := by decide +kernel
theorem dJ7_fill_53178_2 : decode cJ7_fill_53178 2 = .ok (.aload_n 0, 1) := by decide +kernel
theorem dJ7_fill_53178_3 : decode cJ7_fill_53178 3 = .ok (.arraylength, 1) := by decide +kernel
theorem dJ7_fill_53178_4 : decode cJ7_fill_53178 4 = .ok (.istore_n 3, 1) := by decide +kernel
theorem dJ7_fill_53178_5 : decode cJ7_fill_53178 5 = .ok (.iload_n 2, 1) := by decide +kernel
theorem dJ7_fill_53178_6 : decode cJ7_fill_53178 6 = .ok (.iload_n 3, 1) := by decide +kernel
theorem dJ7_fill_53178_7 : decode cJ7_fill_53178 7 = .ok (.if_icmp .ge 13, 3) := by decide +kernel
theorem dJ7_fill_53178_10 : decode cJ7_fill_53178 10 = .ok (.aload_n 0, 1) := by decide +kernel
theorem dJ7_fill_53178_11 : decode cJ7_fill_53178 11 = .ok (.iload_n 2, 1) := by decide +kernel
theorem dJ7_fill_53178_12 : decode cJ7_fill_53178 12 = .ok (.iload_n 1, 1) := by decide +kernel
theorem dJ7_fill_53178_13 : decode cJ7_fill_53178 13 = .ok (.iastore, 1) := by decide +kernel
theorem dJ7_fill_53178_14 : decode cJ7_fill_53178 14 = .ok (.iinc 2 1, 3) := by decide +kernel
theorem dJ7_fill_53178_17 : decode cJ7_fill_53178 17 = .ok (.goto (-12), 3) := by decide +kernel
theorem dJ7_fill_53178_20 : decode cJ7_fill_53178 20 = .ok (.return_, 1) := by decide +kernel
theorem dJ9_min_7cf53_0 : decode cJ9_min_7cf53 0 = .ok (.iload_n 0, 1) := by decide +kernel
theorem dJ9_min_7cf53_1 : decode cJ9_min_7cf53 1 = .ok (.iload_n 1, 1) := by decide +kernel
theorem dJ9_min_7cf53_2 : decode cJ9_min_7cf53 2 = .ok (.if_icmp .gt 7, 3) := by decide +kernel
theorem dJ9_min_7cf53_5 : decode cJ9_min_7cf53 5 = .ok (.iload_n 0, 1) := by decide +kernel
theorem dJ9_min_7cf53_6 : decode cJ9_min_7cf53 6 = .ok (.goto 4, 3) := by decide +kernel
theorem dJ9_min_7cf53_9 : decode cJ9_min_7cf53 9 = .ok (.iload_n 1, 1) := by decide +kernel
theorem dJ9_min_7cf53_10 : decode cJ9_min_7cf53 10 = .ok (.ireturn, 1) := by decide +kernel
theorem dL_law_0 : decode cL_law 0 = .ok (.new 7, 3) := by decide +kernel
theorem dL_law_3 : decode cL_law 3 = .ok (.dup, 1) := by decide +kernel
theorem dL_law_4 : decode cL_law 4 = .ok (.invokespecial 9, 3) := by decide +kernel
theorem dL_law_7 : decode cL_law 7 = .ok (.astore_n 1, 1) := by decide +kernel
theorem dL_law_8 : decode cL_law 8 = .ok (.new 10, 3) := by decide +kernel
theorem dL_law_11 : decode cL_law 11 = .ok (.dup, 1) := by decide +kernel
theorem dL_law_12 : decode cL_law 12 = .ok (.invokespecial 12, 3) := by decide +kernel
theorem dL_law_15 : decode cL_law 15 = .ok (.astore_n 2, 1) := by decide +kernel
theorem dL_law_16 : decode cL_law 16 = .ok (.iconst 0, 1) := by decide +kernel
theorem dL_law_17 : decode cL_law 17 = .ok (.istore_n 3, 1) := by decide +kernel
theorem dL_law_18 : decode cL_law 18 = .ok (.iload_n 3, 1) := by decide +kernel
theorem dL_law_19 : decode cL_law 19 = .ok (.aload_n 0, 1) := by decide +kernel
theorem dL_law_20 : decode cL_law 20 = .ok (.arraylength, 1) := by decide +kernel
theorem dL_law_21 : decode cL_law 21 = .ok (.iconst 4, 1) := by decide +kernel
theorem dL_law_22 : decode cL_law 22 = .ok (.isub, 1) := by decide +kernel
theorem dL_law_23 : decode cL_law 23 = .ok (.if_icmp .gt 989, 3) := by decide +kernel
theorem dL_law_26 : decode cL_law 26 = .ok (.aload_n 0, 1) := by decide +kernel
theorem dL_law_27 : decode cL_law 27 = .ok (.iload_n 3, 1) := by decide +kernel
theorem dL_law_28 : decode cL_law 28 = .ok (.iaload, 1) := by decide +kernel
theorem dL_law_29 : decode cL_law 29 = .ok (.bipush 63, 2) := by decide +kernel
theorem dL_law_31 : decode cL_law 31 = .ok (.iand, 1) := by decide +kernel
theorem dL_law_32 : decode cL_law 32 = .ok (.tableswitch 974 0 33 #[152, 175, 188, 201, 234, 257, 280, 313, 336, 349, 372, 385, 418, 441, 474, 507, 530, 563, 586, 629, 652, 675, 708, 731, 754, 787, 800, 823, 836, 869, 892, 905, 928, 961], 152) := by decide +kernel
theorem dL_law_184 : decode cL_law 184 = .ok (.aload_n 1, 1) := by decide +kernel
theorem dL_law_185 : decode cL_law 185 = .ok (.aload_n 0, 1) := by decide +kernel
theorem dL_law_186 : decode cL_law 186 = .ok (.iload_n 3, 1) := by decide +kernel
theorem dL_law_187 : decode cL_law 187 = .ok (.iconst 1, 1) := by decide +kernel
theorem dL_law_188 : decode cL_law 188 = .ok (.iadd, 1) := by decide +kernel
theorem dL_law_189 : decode cL_law 189 = .ok (.iaload, 1) := by decide +kernel
theorem dL_law_190 : decode cL_law 190 = .ok (.invokevirtual 13, 3) := by decide +kernel
theorem dL_law_193 : decode cL_law 193 = .ok (.aload_n 2, 1) := by decide +kernel
theorem dL_law_194 : decode cL_law 194 = .ok (.aload_n 0, 1) := by decide +kernel
theorem dL_law_195 : decode cL_law 195 = .ok (.iload_n 3, 1) := by decide +kernel
theorem dL_law_196 : decode cL_law 196 = .ok (.iconst 1, 1) := by decide +kernel
theorem dL_law_197 : decode cL_law 197 = .ok (.iadd, 1) := by decide +kernel
theorem dL_law_198 : decode cL_law 198 = .ok (.iaload, 1) := by decide +kernel
theorem dL_law_199 : decode cL_law 199 = .ok (.invokevirtual 17, 3) := by decide +kernel
theorem dL_law_202 : decode cL_law 202 = .ok (.if_icmp .eq 804, 3) := by decide +kernel
theorem dL_law_205 : decode cL_law 205 = .ok (.iconst 0, 1) := by decide +kernel
theorem dL_law_206 : decode cL_law 206 = .ok (.ireturn, 1) := by decide +kernel
theorem dL_law_207 : decode cL_law 207 = .ok (.aload_n 1, 1) := by decide +kernel
theorem dL_law_208 : decode cL_law 208 = .ok (.invokevirtual 18, 3) := by decide +kernel
theorem dL_law_211 : decode cL_law 211 = .ok (.aload_n 2, 1) := by decide +kernel
theorem dL_law_212 : decode cL_law 212 = .ok (.invokevirtual 22, 3) := by decide +kernel
theorem dL_law_215 : decode cL_law 215 = .ok (.if_icmp .eq 791, 3) := by decide +kernel
theorem dL_law_218 : decode cL_law 218 = .ok (.iconst 0, 1) := by decide +kernel
theorem dL_law_219 : decode cL_law 219 = .ok (.ireturn, 1) := by decide +kernel
theorem dL_law_220 : decode cL_law 220 = .ok (.aload_n 1, 1) := by decide +kernel
theorem dL_law_221 : decode cL_law 221 = .ok (.invokevirtual 23, 3) := by decide +kernel
theorem dL_law_224 : decode cL_law 224 = .ok (.aload_n 2, 1) := by decide +kernel
theorem dL_law_225 : decode cL_law 225 = .ok (.invokevirtual 26, 3) := by decide +kernel
theorem dL_law_228 : decode cL_law 228 = .ok (.if_icmp .eq 778, 3) := by decide +kernel
theorem dL_law_231 : decode cL_law 231 = .ok (.iconst 0, 1) := by decide +kernel
theorem dL_law_232 : decode cL_law 232 = .ok (.ireturn, 1) := by decide +kernel
theorem dL_law_233 : decode cL_law 233 = .ok (.aload_n 1, 1) := by decide +kernel
theorem dL_law_234 : decode cL_law 234 = .ok (.aload_n 0, 1) := by decide +kernel
theorem dL_law_235 : decode cL_law 235 = .ok (.iload_n 3, 1) := by decide +kernel
theorem dL_law_236 : decode cL_law 236 = .ok (.iconst 1, 1) := by decide +kernel
theorem dL_law_237 : decode cL_law 237 = .ok (.iadd, 1) := by decide +kernel
theorem dL_law_238 : decode cL_law 238 = .ok (.iaload, 1) := by decide +kernel
theorem dL_law_239 : decode cL_law 239 = .ok (.aload_n 0, 1) := by decide +kernel
theorem dL_law_240 : decode cL_law 240 = .ok (.iload_n 3, 1) := by decide +kernel
theorem dL_law_241 : decode cL_law 241 = .ok (.iconst 2, 1) := by decide +kernel
theorem dL_law_242 : decode cL_law 242 = .ok (.iadd, 1) := by decide +kernel
theorem dL_law_243 : decode cL_law 243 = .ok (.iaload, 1) := by decide +kernel
theorem dL_law_244 : decode cL_law 244 = .ok (.invokevirtual 27, 3) := by decide +kernel
theorem dL_law_247 : decode cL_law 247 = .ok (.aload_n 2, 1) := by decide +kernel
theorem dL_law_248 : decode cL_law 248 = .ok (.aload_n 0, 1) := by decide +kernel
theorem dL_law_249 : decode cL_law 249 = .ok (.iload_n 3, 1) := by decide +kernel
theorem dL_law_250 : decode cL_law 250 = .ok (.iconst 1, 1) := by decide +kernel
theorem dL_law_251 : decode cL_law 251 = .ok (.iadd, 1) := by decide +kernel
theorem dL_law_252 : decode cL_law 252 = .ok (.iaload, 1) := by decide +kernel
theorem dL_law_253 : decode cL_law 253 = .ok (.aload_n 0, 1) := by decide +kernel
theorem dL_law_254 : decode cL_law 254 = .ok (.iload_n 3, 1) := by decide +kernel
theorem dL_law_255 : decode cL_law 255 = .ok (.iconst 2, 1) := by decide +kernel
theorem dL_law_256 : decode cL_law 256 = .ok (.iadd, 1) := by decide +kernel
theorem dL_law_257 : decode cL_law 257 = .ok (.iaload, 1) := by decide +kernel
theorem dL_law_258 : decode cL_law 258 = .ok (.invokevirtual 31, 3) := by decide +kernel
theorem dL_law_261 : decode cL_law 261 = .ok (.if_icmp .eq 745, 3) := by decide +kernel
theorem dL_law_264 : decode cL_law 264 = .ok (.iconst 0, 1) := by decide +kernel
theorem dL_law_265 : decode cL_law 265 = .ok (.ireturn, 1) := by decide +kernel
theorem dL_law_266 : decode cL_law 266 = .ok (.aload_n 1, 1) := by decide +kernel
theorem dL_law_267 : decode cL_law 267 = .ok (.aload_n 0, 1) := by decide +kernel
theorem dL_law_268 : decode cL_law 268 = .ok (.iload_n 3, 1) := by decide +kernel
theorem dL_law_269 : decode cL_law 269 = .ok (.iconst 1, 1) := by decide +kernel
theorem dL_law_270 : decode cL_law 270 = .ok (.iadd, 1) := by decide +kernel
theorem dL_law_271 : decode cL_law 271 = .ok (.iaload, 1) := by decide +kernel
theorem dL_law_272 : decode cL_law 272 = .ok (.invokevirtual 32, 3) := by decide +kernel
theorem dL_law_275 : decode cL_law 275 = .ok (.aload_n 2, 1) := by decide +kernel
theorem dL_law_276 : decode cL_law 276 = .ok (.aload_n 0, 1) := by decide +kernel
theorem dL_law_277 : decode cL_law 277 = .ok (.iload_n 3, 1) := by decide +kernel
theorem dL_law_278 : decode cL_law 278 = .ok (.iconst 1, 1) := by decide +kernel
theorem dL_law_279 : decode cL_law 279 = .ok (.iadd, 1) := by decide +kernel
theorem dL_law_280 : decode cL_law 280 = .ok (.iaload, 1) := by decide +kernel
theorem dL_law_281 : decode cL_law 281 = .ok (.invokevirtual 35, 3) := by decide +kernel
theorem dL_law_284 : decode cL_law 284 = .ok (.if_icmp .eq 722, 3) := by decide +kernel
theorem dL_law_287 : decode cL_law 287 = .ok (.iconst 0, 1) := by decide +kernel
theorem dL_law_288 : decode cL_law 288 = .ok (.ireturn, 1) := by decide +kernel
theorem dL_law_289 : decode cL_law 289 = .ok (.aload_n 1, 1) := by decide +kernel
theorem dL_law_290 : decode cL_law 290 = .ok (.aload_n 0, 1) := by decide +kernel
theorem dL_law_291 : decode cL_law 291 = .ok (.iload_n 3, 1) := by decide +kernel
theorem dL_law_292 : decode cL_law 292 = .ok (.iconst 1, 1) := by decide +kernel
theorem dL_law_293 : decode cL_law 293 = .ok (.iadd, 1) := by decide +kernel
theorem dL_law_294 : decode cL_law 294 = .ok (.iaload, 1) := by decide +kernel
theorem dL_law_295 : decode cL_law 295 = .ok (.invokevirtual 36, 3) := by decide +kernel
theorem dL_law_298 : decode cL_law 298 = .ok (.aload_n 2, 1) := by decide +kernel
theorem dL_law_299 : decode cL_law 299 = .ok (.aload_n 0, 1) := by decide +kernel
theorem dL_law_300 : decode cL_law 300 = .ok (.iload_n 3, 1) := by decide +kernel
theorem dL_law_301 : decode cL_law 301 = .ok (.iconst 1, 1) := by decide +kernel
theorem dL_law_302 : decode cL_law 302 = .ok (.iadd, 1) := by decide +kernel
theorem dL_law_303 : decode cL_law 303 = .ok (.iaload, 1) := by decide +kernel
theorem dL_law_304 : decode cL_law 304 = .ok (.invokevirtual 39, 3) := by decide +kernel
theorem dL_law_307 : decode cL_law 307 = .ok (.if_icmp .eq 699, 3) := by decide +kernel
theorem dL_law_310 : decode cL_law 310 = .ok (.iconst 0, 1) := by decide +kernel
theorem dL_law_311 : decode cL_law 311 = .ok (.ireturn, 1) := by decide +kernel
theorem dL_law_312 : decode cL_law 312 = .ok (.aload_n 1, 1) := by decide +kernel
theorem dL_law_313 : decode cL_law 313 = .ok (.aload_n 0, 1) := by decide +kernel
theorem dL_law_314 : decode cL_law 314 = .ok (.iload_n 3, 1) := by decide +kernel
theorem dL_law_315 : decode cL_law 315 = .ok (.iconst 1, 1) := by decide +kernel
theorem dL_law_316 : decode cL_law 316 = .ok (.iadd, 1) := by decide +kernel
theorem dL_law_317 : decode cL_law 317 = .ok (.iaload, 1) := by decide +kernel
theorem dL_law_318 : decode cL_law 318 = .ok (.aload_n 0, 1) := by decide +kernel
theorem dL_law_319 : decode cL_law 319 = .ok (.iload_n 3, 1) := by decide +kernel
theorem dL_law_320 : decode cL_law 320 = .ok (.iconst 2, 1) := by decide +kernel
theorem dL_law_321 : decode cL_law 321 = .ok (.iadd, 1) := by decide +kernel
theorem dL_law_322 : decode cL_law 322 = .ok (.iaload, 1) := by decide +kernel
theorem dL_law_323 : decode cL_law 323 = .ok (.invokevirtual 40, 3) := by decide +kernel
theorem dL_law_326 : decode cL_law 326 = .ok (.aload_n 2, 1) := by decide +kernel
theorem dL_law_327 : decode cL_law 327 = .ok (.aload_n 0, 1) := by decide +kernel
theorem dL_law_328 : decode cL_law 328 = .ok (.iload_n 3, 1) := by decide +kernel
theorem dL_law_329 : decode cL_law 329 = .ok (.iconst 1, 1) := by decide +kernel
theorem dL_law_330 : decode cL_law 330 = .ok (.iadd, 1) := by decide +kernel
theorem dL_law_331 : decode cL_law 331 = .ok (.iaload, 1) := by decide +kernel
theorem dL_law_332 : decode cL_law 332 = .ok (.aload_n 0, 1) := by decide +kernel
theorem dL_law_333 : decode cL_law 333 = .ok (.iload_n 3, 1) := by decide +kernel
theorem dL_law_334 : decode cL_law 334 = .ok (.iconst 2, 1) := by decide +kernel
theorem dL_law_335 : decode cL_law 335 = .ok (.iadd, 1) := by decide +kernel
theorem dL_law_336 : decode cL_law 336 = .ok (.iaload, 1) := by decide +kernel
theorem dL_law_337 : decode cL_law 337 = .ok (.invokevirtual 43, 3) := by decide +kernel
theorem dL_law_340 : decode cL_law 340 = .ok (.if_icmp .eq 666, 3) := by decide +kernel
theorem dL_law_343 : decode cL_law 343 = .ok (.iconst 0, 1) := by decide +kernel
theorem dL_law_344 : decode cL_law 344 = .ok (.ireturn, 1) := by decide +kernel
theorem dL_law_345 : decode cL_law 345 = .ok (.aload_n 1, 1) := by decide +kernel
theorem dL_law_346 : decode cL_law 346 = .ok (.aload_n 0, 1) := by decide +kernel
theorem dL_law_347 : decode cL_law 347 = .ok (.iload_n 3, 1) := by decide +kernel
theorem dL_law_348 : decode cL_law 348 = .ok (.iconst 1, 1) := by decide +kernel
theorem dL_law_349 : decode cL_law 349 = .ok (.iadd, 1) := by decide +kernel
theorem dL_law_350 : decode cL_law 350 = .ok (.iaload, 1) := by decide +kernel
theorem dL_law_351 : decode cL_law 351 = .ok (.invokevirtual 44, 3) := by decide +kernel
theorem dL_law_354 : decode cL_law 354 = .ok (.aload_n 2, 1) := by decide +kernel
theorem dL_law_355 : decode cL_law 355 = .ok (.aload_n 0, 1) := by decide +kernel
theorem dL_law_356 : decode cL_law 356 = .ok (.iload_n 3, 1) := by decide +kernel
theorem dL_law_357 : decode cL_law 357 = .ok (.iconst 1, 1) := by decide +kernel
theorem dL_law_358 : decode cL_law 358 = .ok (.iadd, 1) := by decide +kernel
theorem dL_law_359 : decode cL_law 359 = .ok (.iaload, 1) := by decide +kernel
theorem dL_law_360 : decode cL_law 360 = .ok (.invokevirtual 47, 3) := by decide +kernel
theorem dL_law_363 : decode cL_law 363 = .ok (.if_icmp .eq 643, 3) := by decide +kernel
theorem dL_law_366 : decode cL_law 366 = .ok (.iconst 0, 1) := by decide +kernel
theorem dL_law_367 : decode cL_law 367 = .ok (.ireturn, 1) := by decide +kernel
theorem dL_law_368 : decode cL_law 368 = .ok (.aload_n 1, 1) := by decide +kernel
theorem dL_law_369 : decode cL_law 369 = .ok (.invokevirtual 48, 3) := by decide +kernel
theorem dL_law_372 : decode cL_law 372 = .ok (.aload_n 2, 1) := by decide +kernel
theorem dL_law_373 : decode cL_law 373 = .ok (.invokevirtual 51, 3) := by decide +kernel
theorem dL_law_376 : decode cL_law 376 = .ok (.if_icmp .eq 630, 3) := by decide +kernel
theorem dL_law_379 : decode cL_law 379 = .ok (.iconst 0, 1) := by decide +kernel
theorem dL_law_380 : decode cL_law 380 = .ok (.ireturn, 1) := by decide +kernel
theorem dL_law_381 : decode cL_law 381 = .ok (.aload_n 1, 1) := by decide +kernel
theorem dL_law_382 : decode cL_law 382 = .ok (.aload_n 0, 1) := by decide +kernel
theorem dL_law_383 : decode cL_law 383 = .ok (.iload_n 3, 1) := by decide +kernel
theorem dL_law_384 : decode cL_law 384 = .ok (.iconst 1, 1) := by decide +kernel
theorem dL_law_385 : decode cL_law 385 = .ok (.iadd, 1) := by decide +kernel
theorem dL_law_386 : decode cL_law 386 = .ok (.iaload, 1) := by decide +kernel
theorem dL_law_387 : decode cL_law 387 = .ok (.invokevirtual 52, 3) := by decide +kernel
theorem dL_law_390 : decode cL_law 390 = .ok (.aload_n 2, 1) := by decide +kernel
theorem dL_law_391 : decode cL_law 391 = .ok (.aload_n 0, 1) := by decide +kernel
theorem dL_law_392 : decode cL_law 392 = .ok (.iload_n 3, 1) := by decide +kernel
theorem dL_law_393 : decode cL_law 393 = .ok (.iconst 1, 1) := by decide +kernel
theorem dL_law_394 : decode cL_law 394 = .ok (.iadd, 1) := by decide +kernel
theorem dL_law_395 : decode cL_law 395 = .ok (.iaload, 1) := by decide +kernel
theorem dL_law_396 : decode cL_law 396 = .ok (.invokevirtual 55, 3) := by decide +kernel
theorem dL_law_399 : decode cL_law 399 = .ok (.if_icmp .eq 607, 3) := by decide +kernel
theorem dL_law_402 : decode cL_law 402 = .ok (.iconst 0, 1) := by decide +kernel
theorem dL_law_403 : decode cL_law 403 = .ok (.ireturn, 1) := by decide +kernel
theorem dL_law_404 : decode cL_law 404 = .ok (.aload_n 1, 1) := by decide +kernel
theorem dL_law_405 : decode cL_law 405 = .ok (.invokevirtual 56, 3) := by decide +kernel
theorem dL_law_408 : decode cL_law 408 = .ok (.aload_n 2, 1) := by decide +kernel
theorem dL_law_409 : decode cL_law 409 = .ok (.invokevirtual 59, 3) := by decide +kernel
theorem dL_law_412 : decode cL_law 412 = .ok (.if_icmp .eq 594, 3) := by decide +kernel
theorem dL_law_415 : decode cL_law 415 = .ok (.iconst 0, 1) := by decide +kernel
theorem dL_law_416 : decode cL_law 416 = .ok (.ireturn, 1) := by decide +kernel
theorem dL_law_417 : decode cL_law 417 = .ok (.aload_n 1, 1) := by decide +kernel
theorem dL_law_418 : decode cL_law 418 = .ok (.aload_n 0, 1) := by decide +kernel
theorem dL_law_419 : decode cL_law 419 = .ok (.iload_n 3, 1) := by decide +kernel
theorem dL_law_420 : decode cL_law 420 = .ok (.iconst 1, 1) := by decide +kernel
theorem dL_law_421 : decode cL_law 421 = .ok (.iadd, 1) := by decide +kernel
theorem dL_law_422 : decode cL_law 422 = .ok (.iaload, 1) := by decide +kernel
theorem dL_law_423 : decode cL_law 423 = .ok (.aload_n 0, 1) := by decide +kernel
theorem dL_law_424 : decode cL_law 424 = .ok (.iload_n 3, 1) := by decide +kernel
theorem dL_law_425 : decode cL_law 425 = .ok (.iconst 2, 1) := by decide +kernel
theorem dL_law_426 : decode cL_law 426 = .ok (.iadd, 1) := by decide +kernel
theorem dL_law_427 : decode cL_law 427 = .ok (.iaload, 1) := by decide +kernel
theorem dL_law_428 : decode cL_law 428 = .ok (.invokevirtual 60, 3) := by decide +kernel
theorem dL_law_431 : decode cL_law 431 = .ok (.aload_n 2, 1) := by decide +kernel
theorem dL_law_432 : decode cL_law 432 = .ok (.aload_n 0, 1) := by decide +kernel
theorem dL_law_433 : decode cL_law 433 = .ok (.iload_n 3, 1) := by decide +kernel
theorem dL_law_434 : decode cL_law 434 = .ok (.iconst 1, 1) := by decide +kernel
theorem dL_law_435 : decode cL_law 435 = .ok (.iadd, 1) := by decide +kernel
theorem dL_law_436 : decode cL_law 436 = .ok (.iaload, 1) := by decide +kernel
theorem dL_law_437 : decode cL_law 437 = .ok (.aload_n 0, 1) := by decide +kernel
theorem dL_law_438 : decode cL_law 438 = .ok (.iload_n 3, 1) := by decide +kernel
theorem dL_law_439 : decode cL_law 439 = .ok (.iconst 2, 1) := by decide +kernel
theorem dL_law_440 : decode cL_law 440 = .ok (.iadd, 1) := by decide +kernel
theorem dL_law_441 : decode cL_law 441 = .ok (.iaload, 1) := by decide +kernel
theorem dL_law_442 : decode cL_law 442 = .ok (.invokevirtual 63, 3) := by decide +kernel
theorem dL_law_445 : decode cL_law 445 = .ok (.if_icmp .eq 561, 3) := by decide +kernel
theorem dL_law_448 : decode cL_law 448 = .ok (.iconst 0, 1) := by decide +kernel
theorem dL_law_449 : decode cL_law 449 = .ok (.ireturn, 1) := by decide +kernel
theorem dL_law_450 : decode cL_law 450 = .ok (.aload_n 1, 1) := by decide +kernel
theorem dL_law_451 : decode cL_law 451 = .ok (.aload_n 0, 1) := by decide +kernel
theorem dL_law_452 : decode cL_law 452 = .ok (.iload_n 3, 1) := by decide +kernel
theorem dL_law_453 : decode cL_law 453 = .ok (.iconst 1, 1) := by decide +kernel
theorem dL_law_454 : decode cL_law 454 = .ok (.iadd, 1) := by decide +kernel
theorem dL_law_455 : decode cL_law 455 = .ok (.iaload, 1) := by decide +kernel
theorem dL_law_456 : decode cL_law 456 = .ok (.invokevirtual 64, 3) := by decide +kernel
theorem dL_law_459 : decode cL_law 459 = .ok (.aload_n 2, 1) := by decide +kernel
theorem dL_law_460 : decode cL_law 460 = .ok (.aload_n 0, 1) := by decide +kernel
theorem dL_law_461 : decode cL_law 461 = .ok (.iload_n 3, 1) := by decide +kernel
theorem dL_law_462 : decode cL_law 462 = .ok (.iconst 1, 1) := by decide +kernel
theorem dL_law_463 : decode cL_law 463 = .ok (.iadd, 1) := by decide +kernel
theorem dL_law_464 : decode cL_law 464 = .ok (.iaload, 1) := by decide +kernel
theorem dL_law_465 : decode cL_law 465 = .ok (.invokevirtual 67, 3) := by decide +kernel
theorem dL_law_468 : decode cL_law 468 = .ok (.if_icmp .eq 538, 3) := by decide +kernel
theorem dL_law_471 : decode cL_law 471 = .ok (.iconst 0, 1) := by decide +kernel
theorem dL_law_472 : decode cL_law 472 = .ok (.ireturn, 1) := by decide +kernel
theorem dL_law_473 : decode cL_law 473 = .ok (.aload_n 1, 1) := by decide +kernel
theorem dL_law_474 : decode cL_law 474 = .ok (.aload_n 0, 1) := by decide +kernel
theorem dL_law_475 : decode cL_law 475 = .ok (.iload_n 3, 1) := by decide +kernel
theorem dL_law_476 : decode cL_law 476 = .ok (.iconst 1, 1) := by decide +kernel
theorem dL_law_477 : decode cL_law 477 = .ok (.iadd, 1) := by decide +kernel
theorem dL_law_478 : decode cL_law 478 = .ok (.iaload, 1) := by decide +kernel
theorem dL_law_479 : decode cL_law 479 = .ok (.aload_n 0, 1) := by decide +kernel
theorem dL_law_480 : decode cL_law 480 = .ok (.iload_n 3, 1) := by decide +kernel
theorem dL_law_481 : decode cL_law 481 = .ok (.iconst 2, 1) := by decide +kernel
theorem dL_law_482 : decode cL_law 482 = .ok (.iadd, 1) := by decide +kernel
theorem dL_law_483 : decode cL_law 483 = .ok (.iaload, 1) := by decide +kernel
theorem dL_law_484 : decode cL_law 484 = .ok (.invokevirtual 68, 3) := by decide +kernel
theorem dL_law_487 : decode cL_law 487 = .ok (.aload_n 2, 1) := by decide +kernel
theorem dL_law_488 : decode cL_law 488 = .ok (.aload_n 0, 1) := by decide +kernel
theorem dL_law_489 : decode cL_law 489 = .ok (.iload_n 3, 1) := by decide +kernel
theorem dL_law_490 : decode cL_law 490 = .ok (.iconst 1, 1) := by decide +kernel
theorem dL_law_491 : decode cL_law 491 = .ok (.iadd, 1) := by decide +kernel
theorem dL_law_492 : decode cL_law 492 = .ok (.iaload, 1) := by decide +kernel
theorem dL_law_493 : decode cL_law 493 = .ok (.aload_n 0, 1) := by decide +kernel
theorem dL_law_494 : decode cL_law 494 = .ok (.iload_n 3, 1) := by decide +kernel
theorem dL_law_495 : decode cL_law 495 = .ok (.iconst 2, 1) := by decide +kernel
theorem dL_law_496 : decode cL_law 496 = .ok (.iadd, 1) := by decide +kernel
theorem dL_law_497 : decode cL_law 497 = .ok (.iaload, 1) := by decide +kernel
theorem dL_law_498 : decode cL_law 498 = .ok (.invokevirtual 71, 3) := by decide +kernel
theorem dL_law_501 : decode cL_law 501 = .ok (.if_icmp .eq 505, 3) := by decide +kernel
theorem dL_law_504 : decode cL_law 504 = .ok (.iconst 0, 1) := by decide +kernel
theorem dL_law_505 : decode cL_law 505 = .ok (.ireturn, 1) := by decide +kernel
theorem dL_law_506 : decode cL_law 506 = .ok (.aload_n 1, 1) := by decide +kernel
theorem dL_law_507 : decode cL_law 507 = .ok (.aload_n 0, 1) := by decide +kernel
theorem dL_law_508 : decode cL_law 508 = .ok (.iload_n 3, 1) := by decide +kernel
theorem dL_law_509 : decode cL_law 509 = .ok (.iconst 1, 1) := by decide +kernel
theorem dL_law_510 : decode cL_law 510 = .ok (.iadd, 1) := by decide +kernel
theorem dL_law_511 : decode cL_law 511 = .ok (.iaload, 1) := by decide +kernel
theorem dL_law_512 : decode cL_law 512 = .ok (.aload_n 0, 1) := by decide +kernel
theorem dL_law_513 : decode cL_law 513 = .ok (.iload_n 3, 1) := by decide +kernel
theorem dL_law_514 : decode cL_law 514 = .ok (.iconst 2, 1) := by decide +kernel
theorem dL_law_515 : decode cL_law 515 = .ok (.iadd, 1) := by decide +kernel
theorem dL_law_516 : decode cL_law 516 = .ok (.iaload, 1) := by decide +kernel
theorem dL_law_517 : decode cL_law 517 = .ok (.invokevirtual 72, 3) := by decide +kernel
theorem dL_law_520 : decode cL_law 520 = .ok (.aload_n 2, 1) := by decide +kernel
theorem dL_law_521 : decode cL_law 521 = .ok (.aload_n 0, 1) := by decide +kernel
theorem dL_law_522 : decode cL_law 522 = .ok (.iload_n 3, 1) := by decide +kernel
theorem dL_law_523 : decode cL_law 523 = .ok (.iconst 1, 1) := by decide +kernel
theorem dL_law_524 : decode cL_law 524 = .ok (.iadd, 1) := by decide +kernel
theorem dL_law_525 : decode cL_law 525 = .ok (.iaload, 1) := by decide +kernel
theorem dL_law_526 : decode cL_law 526 = .ok (.aload_n 0, 1) := by decide +kernel
theorem dL_law_527 : decode cL_law 527 = .ok (.iload_n 3, 1) := by decide +kernel
theorem dL_law_528 : decode cL_law 528 = .ok (.iconst 2, 1) := by decide +kernel
theorem dL_law_529 : decode cL_law 529 = .ok (.iadd, 1) := by decide +kernel
theorem dL_law_530 : decode cL_law 530 = .ok (.iaload, 1) := by decide +kernel
theorem dL_law_531 : decode cL_law 531 = .ok (.invokevirtual 75, 3) := by decide +kernel
theorem dL_law_534 : decode cL_law 534 = .ok (.if_icmp .eq 472, 3) := by decide +kernel
theorem dL_law_537 : decode cL_law 537 = .ok (.iconst 0, 1) := by decide +kernel
theorem dL_law_538 : decode cL_law 538 = .ok (.ireturn, 1) := by decide +kernel
theorem dL_law_539 : decode cL_law 539 = .ok (.aload_n 1, 1) := by decide +kernel
theorem dL_law_540 : decode cL_law 540 = .ok (.aload_n 0, 1) := by decide +kernel
theorem dL_law_541 : decode cL_law 541 = .ok (.iload_n 3, 1) := by decide +kernel
theorem dL_law_542 : decode cL_law 542 = .ok (.iconst 1, 1) := by decide +kernel
theorem dL_law_543 : decode cL_law 543 = .ok (.iadd, 1) := by decide +kernel
theorem dL_law_544 : decode cL_law 544 = .ok (.iaload, 1) := by decide +kernel
theorem dL_law_545 : decode cL_law 545 = .ok (.invokevirtual 76, 3) := by decide +kernel
theorem dL_law_548 : decode cL_law 548 = .ok (.aload_n 2, 1) := by decide +kernel
theorem dL_law_549 : decode cL_law 549 = .ok (.aload_n 0, 1) := by decide +kernel
theorem dL_law_550 : decode cL_law 550 = .ok (.iload_n 3, 1) := by decide +kernel
theorem dL_law_551 : decode cL_law 551 = .ok (.iconst 1, 1) := by decide +kernel
theorem dL_law_552 : decode cL_law 552 = .ok (.iadd, 1) := by decide +kernel
theorem dL_law_553 : decode cL_law 553 = .ok (.iaload, 1) := by decide +kernel
theorem dL_law_554 : decode cL_law 554 = .ok (.invokevirtual 79, 3) := by decide +kernel
theorem dL_law_557 : decode cL_law 557 = .ok (.if_icmp .eq 449, 3) := by decide +kernel
theorem dL_law_560 : decode cL_law 560 = .ok (.iconst 0, 1) := by decide +kernel
theorem dL_law_561 : decode cL_law 561 = .ok (.ireturn, 1) := by decide +kernel
theorem dL_law_562 : decode cL_law 562 = .ok (.aload_n 1, 1) := by decide +kernel
theorem dL_law_563 : decode cL_law 563 = .ok (.aload_n 0, 1) := by decide +kernel
theorem dL_law_564 : decode cL_law 564 = .ok (.iload_n 3, 1) := by decide +kernel
theorem dL_law_565 : decode cL_law 565 = .ok (.iconst 1, 1) := by decide +kernel
theorem dL_law_566 : decode cL_law 566 = .ok (.iadd, 1) := by decide +kernel
theorem dL_law_567 : decode cL_law 567 = .ok (.iaload, 1) := by decide +kernel
theorem dL_law_568 : decode cL_law 568 = .ok (.aload_n 0, 1) := by decide +kernel
theorem dL_law_569 : decode cL_law 569 = .ok (.iload_n 3, 1) := by decide +kernel
theorem dL_law_570 : decode cL_law 570 = .ok (.iconst 2, 1) := by decide +kernel
theorem dL_law_571 : decode cL_law 571 = .ok (.iadd, 1) := by decide +kernel
theorem dL_law_572 : decode cL_law 572 = .ok (.iaload, 1) := by decide +kernel
theorem dL_law_573 : decode cL_law 573 = .ok (.invokevirtual 80, 3) := by decide +kernel
theorem dL_law_576 : decode cL_law 576 = .ok (.aload_n 2, 1) := by decide +kernel
theorem dL_law_577 : decode cL_law 577 = .ok (.aload_n 0, 1) := by decide +kernel
theorem dL_law_578 : decode cL_law 578 = .ok (.iload_n 3, 1) := by decide +kernel
theorem dL_law_579 : decode cL_law 579 = .ok (.iconst 1, 1) := by decide +kernel
theorem dL_law_580 : decode cL_law 580 = .ok (.iadd, 1) := by decide +kernel
theorem dL_law_581 : decode cL_law 581 = .ok (.iaload, 1) := by decide +kernel
theorem dL_law_582 : decode cL_law 582 = .ok (.aload_n 0, 1) := by decide +kernel
theorem dL_law_583 : decode cL_law 583 = .ok (.iload_n 3, 1) := by decide +kernel
theorem dL_law_584 : decode cL_law 584 = .ok (.iconst 2, 1) := by decide +kernel
theorem dL_law_585 : decode cL_law 585 = .ok (.iadd, 1) := by decide +kernel
theorem dL_law_586 : decode cL_law 586 = .ok (.iaload, 1) := by decide +kernel
theorem dL_law_587 : decode cL_law 587 = .ok (.invokevirtual 83, 3) := by decide +kernel
theorem dL_law_590 : decode cL_law 590 = .ok (.if_icmp .eq 416, 3) := by decide +kernel
theorem dL_law_593 : decode cL_law 593 = .ok (.iconst 0, 1) := by decide +kernel
theorem dL_law_594 : decode cL_law 594 = .ok (.ireturn, 1) := by decide +kernel
theorem dL_law_595 : decode cL_law 595 = .ok (.aload_n 1, 1) := by decide +kernel
theorem dL_law_596 : decode cL_law 596 = .ok (.aload_n 0, 1) := by decide +kernel
theorem dL_law_597 : decode cL_law 597 = .ok (.iload_n 3, 1) := by decide +kernel
theorem dL_law_598 : decode cL_law 598 = .ok (.iconst 1, 1) := by decide +kernel
theorem dL_law_599 : decode cL_law 599 = .ok (.iadd, 1) := by decide +kernel
theorem dL_law_600 : decode cL_law 600 = .ok (.iaload, 1) := by decide +kernel
theorem dL_law_601 : decode cL_law 601 = .ok (.invokevirtual 84, 3) := by decide +kernel
theorem dL_law_604 : decode cL_law 604 = .ok (.aload_n 2, 1) := by decide +kernel
theorem dL_law_605 : decode cL_law 605 = .ok (.aload_n 0, 1) := by decide +kernel
theorem dL_law_606 : decode cL_law 606 = .ok (.iload_n 3, 1) := by decide +kernel
theorem dL_law_607 : decode cL_law 607 = .ok (.iconst 1, 1) := by decide +kernel
theorem dL_law_608 : decode cL_law 608 = .ok (.iadd, 1) := by decide +kernel
theorem dL_law_609 : decode cL_law 609 = .ok (.iaload, 1) := by decide +kernel
theorem dL_law_610 : decode cL_law 610 = .ok (.invokevirtual 87, 3) := by decide +kernel
theorem dL_law_613 : decode cL_law 613 = .ok (.if_icmp .eq 393, 3) := by decide +kernel
theorem dL_law_616 : decode cL_law 616 = .ok (.iconst 0, 1) := by decide +kernel
theorem dL_law_617 : decode cL_law 617 = .ok (.ireturn, 1) := by decide +kernel
theorem dL_law_618 : decode cL_law 618 = .ok (.aload_n 1, 1) := by decide +kernel
theorem dL_law_619 : decode cL_law 619 = .ok (.aload_n 0, 1) := by decide +kernel
theorem dL_law_620 : decode cL_law 620 = .ok (.iload_n 3, 1) := by decide +kernel
theorem dL_law_621 : decode cL_law 621 = .ok (.iconst 1, 1) := by decide +kernel
theorem dL_law_622 : decode cL_law 622 = .ok (.iadd, 1) := by decide +kernel
theorem dL_law_623 : decode cL_law 623 = .ok (.iaload, 1) := by decide +kernel
theorem dL_law_624 : decode cL_law 624 = .ok (.aload_n 0, 1) := by decide +kernel
theorem dL_law_625 : decode cL_law 625 = .ok (.iload_n 3, 1) := by decide +kernel
theorem dL_law_626 : decode cL_law 626 = .ok (.iconst 2, 1) := by decide +kernel
theorem dL_law_627 : decode cL_law 627 = .ok (.iadd, 1) := by decide +kernel
theorem dL_law_628 : decode cL_law 628 = .ok (.iaload, 1) := by decide +kernel
theorem dL_law_629 : decode cL_law 629 = .ok (.aload_n 0, 1) := by decide +kernel
theorem dL_law_630 : decode cL_law 630 = .ok (.iload_n 3, 1) := by decide +kernel
theorem dL_law_631 : decode cL_law 631 = .ok (.iconst 3, 1) := by decide +kernel
theorem dL_law_632 : decode cL_law 632 = .ok (.iadd, 1) := by decide +kernel
theorem dL_law_633 : decode cL_law 633 = .ok (.iaload, 1) := by decide +kernel
theorem dL_law_634 : decode cL_law 634 = .ok (.invokevirtual 88, 3) := by decide +kernel
theorem dL_law_637 : decode cL_law 637 = .ok (.aload_n 2, 1) := by decide +kernel
theorem dL_law_638 : decode cL_law 638 = .ok (.aload_n 0, 1) := by decide +kernel
theorem dL_law_639 : decode cL_law 639 = .ok (.iload_n 3, 1) := by decide +kernel
theorem dL_law_640 : decode cL_law 640 = .ok (.iconst 1, 1) := by decide +kernel
theorem dL_law_641 : decode cL_law 641 = .ok (.iadd, 1) := by decide +kernel
theorem dL_law_642 : decode cL_law 642 = .ok (.iaload, 1) := by decide +kernel
theorem dL_law_643 : decode cL_law 643 = .ok (.aload_n 0, 1) := by decide +kernel
theorem dL_law_644 : decode cL_law 644 = .ok (.iload_n 3, 1) := by decide +kernel
theorem dL_law_645 : decode cL_law 645 = .ok (.iconst 2, 1) := by decide +kernel
theorem dL_law_646 : decode cL_law 646 = .ok (.iadd, 1) := by decide +kernel
theorem dL_law_647 : decode cL_law 647 = .ok (.iaload, 1) := by decide +kernel
theorem dL_law_648 : decode cL_law 648 = .ok (.aload_n 0, 1) := by decide +kernel
theorem dL_law_649 : decode cL_law 649 = .ok (.iload_n 3, 1) := by decide +kernel
theorem dL_law_650 : decode cL_law 650 = .ok (.iconst 3, 1) := by decide +kernel
theorem dL_law_651 : decode cL_law 651 = .ok (.iadd, 1) := by decide +kernel
theorem dL_law_652 : decode cL_law 652 = .ok (.iaload, 1) := by decide +kernel
theorem dL_law_653 : decode cL_law 653 = .ok (.invokevirtual 92, 3) := by decide +kernel
theorem dL_law_656 : decode cL_law 656 = .ok (.if_icmp .eq 350, 3) := by decide +kernel
theorem dL_law_659 : decode cL_law 659 = .ok (.iconst 0, 1) := by decide +kernel
theorem dL_law_660 : decode cL_law 660 = .ok (.ireturn, 1) := by decide +kernel
theorem dL_law_661 : decode cL_law 661 = .ok (.aload_n 1, 1) := by decide +kernel
theorem dL_law_662 : decode cL_law 662 = .ok (.aload_n 0, 1) := by decide +kernel
theorem dL_law_663 : decode cL_law 663 = .ok (.iload_n 3, 1) := by decide +kernel
theorem dL_law_664 : decode cL_law 664 = .ok (.iconst 1, 1) := by decide +kernel
theorem dL_law_665 : decode cL_law 665 = .ok (.iadd, 1) := by decide +kernel
theorem dL_law_666 : decode cL_law 666 = .ok (.iaload, 1) := by decide +kernel
theorem dL_law_667 : decode cL_law 667 = .ok (.invokevirtual 93, 3) := by decide +kernel
theorem dL_law_670 : decode cL_law 670 = .ok (.aload_n 2, 1) := by decide +kernel
theorem dL_law_671 : decode cL_law 671 = .ok (.aload_n 0, 1) := by decide +kernel
theorem dL_law_672 : decode cL_law 672 = .ok (.iload_n 3, 1) := by decide +kernel
theorem dL_law_673 : decode cL_law 673 = .ok (.iconst 1, 1) := by decide +kernel
theorem dL_law_674 : decode cL_law 674 = .ok (.iadd, 1) := by decide +kernel
theorem dL_law_675 : decode cL_law 675 = .ok (.iaload, 1) := by decide +kernel
theorem dL_law_676 : decode cL_law 676 = .ok (.invokevirtual 96, 3) := by decide +kernel
theorem dL_law_679 : decode cL_law 679 = .ok (.if_icmp .eq 327, 3) := by decide +kernel
theorem dL_law_682 : decode cL_law 682 = .ok (.iconst 0, 1) := by decide +kernel
theorem dL_law_683 : decode cL_law 683 = .ok (.ireturn, 1) := by decide +kernel
theorem dL_law_684 : decode cL_law 684 = .ok (.aload_n 1, 1) := by decide +kernel
theorem dL_law_685 : decode cL_law 685 = .ok (.aload_n 0, 1) := by decide +kernel
theorem dL_law_686 : decode cL_law 686 = .ok (.iload_n 3, 1) := by decide +kernel
theorem dL_law_687 : decode cL_law 687 = .ok (.iconst 1, 1) := by decide +kernel
theorem dL_law_688 : decode cL_law 688 = .ok (.iadd, 1) := by decide +kernel
theorem dL_law_689 : decode cL_law 689 = .ok (.iaload, 1) := by decide +kernel
theorem dL_law_690 : decode cL_law 690 = .ok (.invokevirtual 97, 3) := by decide +kernel
theorem dL_law_693 : decode cL_law 693 = .ok (.aload_n 2, 1) := by decide +kernel
theorem dL_law_694 : decode cL_law 694 = .ok (.aload_n 0, 1) := by decide +kernel
theorem dL_law_695 : decode cL_law 695 = .ok (.iload_n 3, 1) := by decide +kernel
theorem dL_law_696 : decode cL_law 696 = .ok (.iconst 1, 1) := by decide +kernel
theorem dL_law_697 : decode cL_law 697 = .ok (.iadd, 1) := by decide +kernel
theorem dL_law_698 : decode cL_law 698 = .ok (.iaload, 1) := by decide +kernel
theorem dL_law_699 : decode cL_law 699 = .ok (.invokevirtual 100, 3) := by decide +kernel
theorem dL_law_702 : decode cL_law 702 = .ok (.if_icmp .eq 304, 3) := by decide +kernel
theorem dL_law_705 : decode cL_law 705 = .ok (.iconst 0, 1) := by decide +kernel
theorem dL_law_706 : decode cL_law 706 = .ok (.ireturn, 1) := by decide +kernel
theorem dL_law_707 : decode cL_law 707 = .ok (.aload_n 1, 1) := by decide +kernel
theorem dL_law_708 : decode cL_law 708 = .ok (.aload_n 0, 1) := by decide +kernel
theorem dL_law_709 : decode cL_law 709 = .ok (.iload_n 3, 1) := by decide +kernel
theorem dL_law_710 : decode cL_law 710 = .ok (.iconst 1, 1) := by decide +kernel
theorem dL_law_711 : decode cL_law 711 = .ok (.iadd, 1) := by decide +kernel
theorem dL_law_712 : decode cL_law 712 = .ok (.iaload, 1) := by decide +kernel
theorem dL_law_713 : decode cL_law 713 = .ok (.aload_n 0, 1) := by decide +kernel
theorem dL_law_714 : decode cL_law 714 = .ok (.iload_n 3, 1) := by decide +kernel
theorem dL_law_715 : decode cL_law 715 = .ok (.iconst 2, 1) := by decide +kernel
theorem dL_law_716 : decode cL_law 716 = .ok (.iadd, 1) := by decide +kernel
theorem dL_law_717 : decode cL_law 717 = .ok (.iaload, 1) := by decide +kernel
theorem dL_law_718 : decode cL_law 718 = .ok (.invokevirtual 101, 3) := by decide +kernel
theorem dL_law_721 : decode cL_law 721 = .ok (.aload_n 2, 1) := by decide +kernel
theorem dL_law_722 : decode cL_law 722 = .ok (.aload_n 0, 1) := by decide +kernel
theorem dL_law_723 : decode cL_law 723 = .ok (.iload_n 3, 1) := by decide +kernel
theorem dL_law_724 : decode cL_law 724 = .ok (.iconst 1, 1) := by decide +kernel
theorem dL_law_725 : decode cL_law 725 = .ok (.iadd, 1) := by decide +kernel
theorem dL_law_726 : decode cL_law 726 = .ok (.iaload, 1) := by decide +kernel
theorem dL_law_727 : decode cL_law 727 = .ok (.aload_n 0, 1) := by decide +kernel
theorem dL_law_728 : decode cL_law 728 = .ok (.iload_n 3, 1) := by decide +kernel
theorem dL_law_729 : decode cL_law 729 = .ok (.iconst 2, 1) := by decide +kernel
theorem dL_law_730 : decode cL_law 730 = .ok (.iadd, 1) := by decide +kernel
theorem dL_law_731 : decode cL_law 731 = .ok (.iaload, 1) := by decide +kernel
theorem dL_law_732 : decode cL_law 732 = .ok (.invokevirtual 104, 3) := by decide +kernel
theorem dL_law_735 : decode cL_law 735 = .ok (.if_icmp .eq 271, 3) := by decide +kernel
theorem dL_law_738 : decode cL_law 738 = .ok (.iconst 0, 1) := by decide +kernel
theorem dL_law_739 : decode cL_law 739 = .ok (.ireturn, 1) := by decide +kernel
theorem dL_law_740 : decode cL_law 740 = .ok (.aload_n 1, 1) := by decide +kernel
theorem dL_law_741 : decode cL_law 741 = .ok (.aload_n 0, 1) := by decide +kernel
theorem dL_law_742 : decode cL_law 742 = .ok (.iload_n 3, 1) := by decide +kernel
theorem dL_law_743 : decode cL_law 743 = .ok (.iconst 1, 1) := by decide +kernel
theorem dL_law_744 : decode cL_law 744 = .ok (.iadd, 1) := by decide +kernel
theorem dL_law_745 : decode cL_law 745 = .ok (.iaload, 1) := by decide +kernel
theorem dL_law_746 : decode cL_law 746 = .ok (.invokevirtual 105, 3) := by decide +kernel
theorem dL_law_749 : decode cL_law 749 = .ok (.aload_n 2, 1) := by decide +kernel
theorem dL_law_750 : decode cL_law 750 = .ok (.aload_n 0, 1) := by decide +kernel
theorem dL_law_751 : decode cL_law 751 = .ok (.iload_n 3, 1) := by decide +kernel
theorem dL_law_752 : decode cL_law 752 = .ok (.iconst 1, 1) := by decide +kernel
theorem dL_law_753 : decode cL_law 753 = .ok (.iadd, 1) := by decide +kernel
theorem dL_law_754 : decode cL_law 754 = .ok (.iaload, 1) := by decide +kernel
theorem dL_law_755 : decode cL_law 755 = .ok (.invokevirtual 108, 3) := by decide +kernel
theorem dL_law_758 : decode cL_law 758 = .ok (.if_icmp .eq 248, 3) := by decide +kernel
theorem dL_law_761 : decode cL_law 761 = .ok (.iconst 0, 1) := by decide +kernel
theorem dL_law_762 : decode cL_law 762 = .ok (.ireturn, 1) := by decide +kernel
theorem dL_law_763 : decode cL_law 763 = .ok (.aload_n 1, 1) := by decide +kernel
theorem dL_law_764 : decode cL_law 764 = .ok (.aload_n 0, 1) := by decide +kernel
theorem dL_law_765 : decode cL_law 765 = .ok (.iload_n 3, 1) := by decide +kernel
theorem dL_law_766 : decode cL_law 766 = .ok (.iconst 1, 1) := by decide +kernel
theorem dL_law_767 : decode cL_law 767 = .ok (.iadd, 1) := by decide +kernel
theorem dL_law_768 : decode cL_law 768 = .ok (.iaload, 1) := by decide +kernel
theorem dL_law_769 : decode cL_law 769 = .ok (.invokevirtual 109, 3) := by decide +kernel
theorem dL_law_772 : decode cL_law 772 = .ok (.aload_n 2, 1) := by decide +kernel
theorem dL_law_773 : decode cL_law 773 = .ok (.aload_n 0, 1) := by decide +kernel
theorem dL_law_774 : decode cL_law 774 = .ok (.iload_n 3, 1) := by decide +kernel
theorem dL_law_775 : decode cL_law 775 = .ok (.iconst 1, 1) := by decide +kernel
theorem dL_law_776 : decode cL_law 776 = .ok (.iadd, 1) := by decide +kernel
theorem dL_law_777 : decode cL_law 777 = .ok (.iaload, 1) := by decide +kernel
theorem dL_law_778 : decode cL_law 778 = .ok (.invokevirtual 112, 3) := by decide +kernel
theorem dL_law_781 : decode cL_law 781 = .ok (.if_icmp .eq 225, 3) := by decide +kernel
theorem dL_law_784 : decode cL_law 784 = .ok (.iconst 0, 1) := by decide +kernel
theorem dL_law_785 : decode cL_law 785 = .ok (.ireturn, 1) := by decide +kernel
theorem dL_law_786 : decode cL_law 786 = .ok (.aload_n 1, 1) := by decide +kernel
theorem dL_law_787 : decode cL_law 787 = .ok (.aload_n 0, 1) := by decide +kernel
theorem dL_law_788 : decode cL_law 788 = .ok (.iload_n 3, 1) := by decide +kernel
theorem dL_law_789 : decode cL_law 789 = .ok (.iconst 1, 1) := by decide +kernel
theorem dL_law_790 : decode cL_law 790 = .ok (.iadd, 1) := by decide +kernel
theorem dL_law_791 : decode cL_law 791 = .ok (.iaload, 1) := by decide +kernel
theorem dL_law_792 : decode cL_law 792 = .ok (.aload_n 0, 1) := by decide +kernel
theorem dL_law_793 : decode cL_law 793 = .ok (.iload_n 3, 1) := by decide +kernel
theorem dL_law_794 : decode cL_law 794 = .ok (.iconst 2, 1) := by decide +kernel
theorem dL_law_795 : decode cL_law 795 = .ok (.iadd, 1) := by decide +kernel
theorem dL_law_796 : decode cL_law 796 = .ok (.iaload, 1) := by decide +kernel
theorem dL_law_797 : decode cL_law 797 = .ok (.invokevirtual 113, 3) := by decide +kernel
theorem dL_law_800 : decode cL_law 800 = .ok (.aload_n 2, 1) := by decide +kernel
theorem dL_law_801 : decode cL_law 801 = .ok (.aload_n 0, 1) := by decide +kernel
theorem dL_law_802 : decode cL_law 802 = .ok (.iload_n 3, 1) := by decide +kernel
theorem dL_law_803 : decode cL_law 803 = .ok (.iconst 1, 1) := by decide +kernel
theorem dL_law_804 : decode cL_law 804 = .ok (.iadd, 1) := by decide +kernel
theorem dL_law_805 : decode cL_law 805 = .ok (.iaload, 1) := by decide +kernel
theorem dL_law_806 : decode cL_law 806 = .ok (.aload_n 0, 1) := by decide +kernel
theorem dL_law_807 : decode cL_law 807 = .ok (.iload_n 3, 1) := by decide +kernel
theorem dL_law_808 : decode cL_law 808 = .ok (.iconst 2, 1) := by decide +kernel
theorem dL_law_809 : decode cL_law 809 = .ok (.iadd, 1) := by decide +kernel
theorem dL_law_810 : decode cL_law 810 = .ok (.iaload, 1) := by decide +kernel
theorem dL_law_811 : decode cL_law 811 = .ok (.invokevirtual 116, 3) := by decide +kernel
theorem dL_law_814 : decode cL_law 814 = .ok (.if_icmp .eq 192, 3) := by decide +kernel
theorem dL_law_817 : decode cL_law 817 = .ok (.iconst 0, 1) := by decide +kernel
theorem dL_law_818 : decode cL_law 818 = .ok (.ireturn, 1) := by decide +kernel
theorem dL_law_819 : decode cL_law 819 = .ok (.aload_n 1, 1) := by decide +kernel
theorem dL_law_820 : decode cL_law 820 = .ok (.invokevirtual 117, 3) := by decide +kernel
theorem dL_law_823 : decode cL_law 823 = .ok (.aload_n 2, 1) := by decide +kernel
theorem dL_law_824 : decode cL_law 824 = .ok (.invokevirtual 120, 3) := by decide +kernel
theorem dL_law_827 : decode cL_law 827 = .ok (.if_icmp .eq 179, 3) := by decide +kernel
theorem dL_law_830 : decode cL_law 830 = .ok (.iconst 0, 1) := by decide +kernel
theorem dL_law_831 : decode cL_law 831 = .ok (.ireturn, 1) := by decide +kernel
theorem dL_law_832 : decode cL_law 832 = .ok (.aload_n 1, 1) := by decide +kernel
theorem dL_law_833 : decode cL_law 833 = .ok (.aload_n 0, 1) := by decide +kernel
theorem dL_law_834 : decode cL_law 834 = .ok (.iload_n 3, 1) := by decide +kernel
theorem dL_law_835 : decode cL_law 835 = .ok (.iconst 1, 1) := by decide +kernel
theorem dL_law_836 : decode cL_law 836 = .ok (.iadd, 1) := by decide +kernel
theorem dL_law_837 : decode cL_law 837 = .ok (.iaload, 1) := by decide +kernel
theorem dL_law_838 : decode cL_law 838 = .ok (.invokevirtual 121, 3) := by decide +kernel
theorem dL_law_841 : decode cL_law 841 = .ok (.aload_n 2, 1) := by decide +kernel
theorem dL_law_842 : decode cL_law 842 = .ok (.aload_n 0, 1) := by decide +kernel
theorem dL_law_843 : decode cL_law 843 = .ok (.iload_n 3, 1) := by decide +kernel
theorem dL_law_844 : decode cL_law 844 = .ok (.iconst 1, 1) := by decide +kernel
theorem dL_law_845 : decode cL_law 845 = .ok (.iadd, 1) := by decide +kernel
theorem dL_law_846 : decode cL_law 846 = .ok (.iaload, 1) := by decide +kernel
theorem dL_law_847 : decode cL_law 847 = .ok (.invokevirtual 124, 3) := by decide +kernel
theorem dL_law_850 : decode cL_law 850 = .ok (.if_icmp .eq 156, 3) := by decide +kernel
theorem dL_law_853 : decode cL_law 853 = .ok (.iconst 0, 1) := by decide +kernel
theorem dL_law_854 : decode cL_law 854 = .ok (.ireturn, 1) := by decide +kernel
theorem dL_law_855 : decode cL_law 855 = .ok (.aload_n 1, 1) := by decide +kernel
theorem dL_law_856 : decode cL_law 856 = .ok (.invokevirtual 125, 3) := by decide +kernel
theorem dL_law_859 : decode cL_law 859 = .ok (.aload_n 2, 1) := by decide +kernel
theorem dL_law_860 : decode cL_law 860 = .ok (.invokevirtual 128, 3) := by decide +kernel
theorem dL_law_863 : decode cL_law 863 = .ok (.if_icmp .eq 143, 3) := by decide +kernel
theorem dL_law_866 : decode cL_law 866 = .ok (.iconst 0, 1) := by decide +kernel
theorem dL_law_867 : decode cL_law 867 = .ok (.ireturn, 1) := by decide +kernel
theorem dL_law_868 : decode cL_law 868 = .ok (.aload_n 1, 1) := by decide +kernel
theorem dL_law_869 : decode cL_law 869 = .ok (.aload_n 0, 1) := by decide +kernel
theorem dL_law_870 : decode cL_law 870 = .ok (.iload_n 3, 1) := by decide +kernel
theorem dL_law_871 : decode cL_law 871 = .ok (.iconst 1, 1) := by decide +kernel
theorem dL_law_872 : decode cL_law 872 = .ok (.iadd, 1) := by decide +kernel
theorem dL_law_873 : decode cL_law 873 = .ok (.iaload, 1) := by decide +kernel
theorem dL_law_874 : decode cL_law 874 = .ok (.aload_n 0, 1) := by decide +kernel
theorem dL_law_875 : decode cL_law 875 = .ok (.iload_n 3, 1) := by decide +kernel
theorem dL_law_876 : decode cL_law 876 = .ok (.iconst 2, 1) := by decide +kernel
theorem dL_law_877 : decode cL_law 877 = .ok (.iadd, 1) := by decide +kernel
theorem dL_law_878 : decode cL_law 878 = .ok (.iaload, 1) := by decide +kernel
theorem dL_law_879 : decode cL_law 879 = .ok (.invokevirtual 129, 3) := by decide +kernel
theorem dL_law_882 : decode cL_law 882 = .ok (.aload_n 2, 1) := by decide +kernel
theorem dL_law_883 : decode cL_law 883 = .ok (.aload_n 0, 1) := by decide +kernel
theorem dL_law_884 : decode cL_law 884 = .ok (.iload_n 3, 1) := by decide +kernel
theorem dL_law_885 : decode cL_law 885 = .ok (.iconst 1, 1) := by decide +kernel
theorem dL_law_886 : decode cL_law 886 = .ok (.iadd, 1) := by decide +kernel
theorem dL_law_887 : decode cL_law 887 = .ok (.iaload, 1) := by decide +kernel
theorem dL_law_888 : decode cL_law 888 = .ok (.aload_n 0, 1) := by decide +kernel
theorem dL_law_889 : decode cL_law 889 = .ok (.iload_n 3, 1) := by decide +kernel
theorem dL_law_890 : decode cL_law 890 = .ok (.iconst 2, 1) := by decide +kernel
theorem dL_law_891 : decode cL_law 891 = .ok (.iadd, 1) := by decide +kernel
theorem dL_law_892 : decode cL_law 892 = .ok (.iaload, 1) := by decide +kernel
theorem dL_law_893 : decode cL_law 893 = .ok (.invokevirtual 132, 3) := by decide +kernel
theorem dL_law_896 : decode cL_law 896 = .ok (.if_icmp .eq 110, 3) := by decide +kernel
theorem dL_law_899 : decode cL_law 899 = .ok (.iconst 0, 1) := by decide +kernel
theorem dL_law_900 : decode cL_law 900 = .ok (.ireturn, 1) := by decide +kernel
theorem dL_law_901 : decode cL_law 901 = .ok (.aload_n 1, 1) := by decide +kernel
theorem dL_law_902 : decode cL_law 902 = .ok (.aload_n 0, 1) := by decide +kernel
theorem dL_law_903 : decode cL_law 903 = .ok (.iload_n 3, 1) := by decide +kernel
theorem dL_law_904 : decode cL_law 904 = .ok (.iconst 1, 1) := by decide +kernel
theorem dL_law_905 : decode cL_law 905 = .ok (.iadd, 1) := by decide +kernel
theorem dL_law_906 : decode cL_law 906 = .ok (.iaload, 1) := by decide +kernel
theorem dL_law_907 : decode cL_law 907 = .ok (.invokevirtual 133, 3) := by decide +kernel
theorem dL_law_910 : decode cL_law 910 = .ok (.aload_n 2, 1) := by decide +kernel
theorem dL_law_911 : decode cL_law 911 = .ok (.aload_n 0, 1) := by decide +kernel
theorem dL_law_912 : decode cL_law 912 = .ok (.iload_n 3, 1) := by decide +kernel
theorem dL_law_913 : decode cL_law 913 = .ok (.iconst 1, 1) := by decide +kernel
theorem dL_law_914 : decode cL_law 914 = .ok (.iadd, 1) := by decide +kernel
theorem dL_law_915 : decode cL_law 915 = .ok (.iaload, 1) := by decide +kernel
theorem dL_law_916 : decode cL_law 916 = .ok (.invokevirtual 136, 3) := by decide +kernel
theorem dL_law_919 : decode cL_law 919 = .ok (.if_icmp .eq 87, 3) := by decide +kernel
theorem dL_law_922 : decode cL_law 922 = .ok (.iconst 0, 1) := by decide +kernel
theorem dL_law_923 : decode cL_law 923 = .ok (.ireturn, 1) := by decide +kernel
theorem dL_law_924 : decode cL_law 924 = .ok (.aload_n 1, 1) := by decide +kernel
theorem dL_law_925 : decode cL_law 925 = .ok (.invokevirtual 137, 3) := by decide +kernel
theorem dL_law_928 : decode cL_law 928 = .ok (.aload_n 2, 1) := by decide +kernel
theorem dL_law_929 : decode cL_law 929 = .ok (.invokevirtual 140, 3) := by decide +kernel
theorem dL_law_932 : decode cL_law 932 = .ok (.if_icmp .eq 74, 3) := by decide +kernel
theorem dL_law_935 : decode cL_law 935 = .ok (.iconst 0, 1) := by decide +kernel
theorem dL_law_936 : decode cL_law 936 = .ok (.ireturn, 1) := by decide +kernel
theorem dL_law_937 : decode cL_law 937 = .ok (.aload_n 1, 1) := by decide +kernel
theorem dL_law_938 : decode cL_law 938 = .ok (.aload_n 0, 1) := by decide +kernel
theorem dL_law_939 : decode cL_law 939 = .ok (.iload_n 3, 1) := by decide +kernel
theorem dL_law_940 : decode cL_law 940 = .ok (.iconst 1, 1) := by decide +kernel
theorem dL_law_941 : decode cL_law 941 = .ok (.iadd, 1) := by decide +kernel
theorem dL_law_942 : decode cL_law 942 = .ok (.iaload, 1) := by decide +kernel
theorem dL_law_943 : decode cL_law 943 = .ok (.invokevirtual 141, 3) := by decide +kernel
theorem dL_law_946 : decode cL_law 946 = .ok (.aload_n 2, 1) := by decide +kernel
theorem dL_law_947 : decode cL_law 947 = .ok (.aload_n 0, 1) := by decide +kernel
theorem dL_law_948 : decode cL_law 948 = .ok (.iload_n 3, 1) := by decide +kernel
theorem dL_law_949 : decode cL_law 949 = .ok (.iconst 1, 1) := by decide +kernel
theorem dL_law_950 : decode cL_law 950 = .ok (.iadd, 1) := by decide +kernel
theorem dL_law_951 : decode cL_law 951 = .ok (.iaload, 1) := by decide +kernel
theorem dL_law_952 : decode cL_law 952 = .ok (.invokevirtual 144, 3) := by decide +kernel
theorem dL_law_955 : decode cL_law 955 = .ok (.if_icmp .eq 51, 3) := by decide +kernel
theorem dL_law_958 : decode cL_law 958 = .ok (.iconst 0, 1) := by decide +kernel
theorem dL_law_959 : decode cL_law 959 = .ok (.ireturn, 1) := by decide +kernel
theorem dL_law_960 : decode cL_law 960 = .ok (.aload_n 1, 1) := by decide +kernel
theorem dL_law_961 : decode cL_law 961 = .ok (.aload_n 0, 1) := by decide +kernel
theorem dL_law_962 : decode cL_law 962 = .ok (.iload_n 3, 1) := by decide +kernel
theorem dL_law_963 : decode cL_law 963 = .ok (.iconst 1, 1) := by decide +kernel
theorem dL_law_964 : decode cL_law 964 = .ok (.iadd, 1) := by decide +kernel
theorem dL_law_965 : decode cL_law 965 = .ok (.iaload, 1) := by decide +kernel
theorem dL_law_966 : decode cL_law 966 = .ok (.aload_n 0, 1) := by decide +kernel
theorem dL_law_967 : decode cL_law 967 = .ok (.iload_n 3, 1) := by decide +kernel
theorem dL_law_968 : decode cL_law 968 = .ok (.iconst 2, 1) := by decide +kernel
theorem dL_law_969 : decode cL_law 969 = .ok (.iadd, 1) := by decide +kernel
theorem dL_law_970 : decode cL_law 970 = .ok (.iaload, 1) := by decide +kernel
theorem dL_law_971 : decode cL_law 971 = .ok (.invokevirtual 145, 3) := by decide +kernel
theorem dL_law_974 : decode cL_law 974 = .ok (.aload_n 2, 1) := by decide +kernel
theorem dL_law_975 : decode cL_law 975 = .ok (.aload_n 0, 1) := by decide +kernel
theorem dL_law_976 : decode cL_law 976 = .ok (.iload_n 3, 1) := by decide +kernel
theorem dL_law_977 : decode cL_law 977 = .ok (.iconst 1, 1) := by decide +kernel
theorem dL_law_978 : decode cL_law 978 = .ok (.iadd, 1) := by decide +kernel
theorem dL_law_979 : decode cL_law 979 = .ok (.iaload, 1) := by decide +kernel
theorem dL_law_980 : decode cL_law 980 = .ok (.aload_n 0, 1) := by decide +kernel
theorem dL_law_981 : decode cL_law 981 = .ok (.iload_n 3, 1) := by decide +kernel
theorem dL_law_982 : decode cL_law 982 = .ok (.iconst 2, 1) := by decide +kernel
theorem dL_law_983 : decode cL_law 983 = .ok (.iadd, 1) := by decide +kernel
theorem dL_law_984 : decode cL_law 984 = .ok (.iaload, 1) := by decide +kernel
theorem dL_law_985 : decode cL_law 985 = .ok (.invokevirtual 148, 3) := by decide +kernel
theorem dL_law_988 : decode cL_law 988 = .ok (.if_icmp .eq 18, 3) := by decide +kernel
theorem dL_law_991 : decode cL_law 991 = .ok (.iconst 0, 1) := by decide +kernel
theorem dL_law_992 : decode cL_law 992 = .ok (.ireturn, 1) := by decide +kernel
theorem dL_law_993 : decode cL_law 993 = .ok (.aload_n 1, 1) := by decide +kernel
theorem dL_law_994 : decode cL_law 994 = .ok (.invokevirtual 149, 3) := by decide +kernel
theorem dL_law_997 : decode cL_law 997 = .ok (.aload_n 2, 1) := by decide +kernel
theorem dL_law_998 : decode cL_law 998 = .ok (.invokevirtual 152, 3) := by decide +kernel
theorem dL_law_1001 : decode cL_law 1001 = .ok (.if_icmp .eq 5, 3) := by decide +kernel
theorem dL_law_1004 : decode cL_law 1004 = .ok (.iconst 0, 1) := by decide +kernel
theorem dL_law_1005 : decode cL_law 1005 = .ok (.ireturn, 1) := by decide +kernel
theorem dL_law_1006 : decode cL_law 1006 = .ok (.iinc 3 4, 3) := by decide +kernel
theorem dL_law_1009 : decode cL_law 1009 = .ok (.goto (-991), 3) := by decide +kernel
theorem dL_law_1012 : decode cL_law 1012 = .ok (.iconst 1, 1) := by decide +kernel
theorem dL_law_1013 : decode cL_law 1013 = .ok (.ireturn, 1) := by decide +kernel

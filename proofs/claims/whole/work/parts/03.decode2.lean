theorem dX7_lastsOf_93 : decode cX7_lastsOf 93 = .ok (.goto 4, 3) := by decide +kernel
theorem dX7_lastsOf_96 : decode cX7_lastsOf 96 = .ok (.iload_n 3, 1) := by decide +kernel
theorem dX7_lastsOf_97 : decode cX7_lastsOf 97 = .ok (.istore 4, 2) := by decide +kernel
theorem dX7_lastsOf_99 : decode cX7_lastsOf 99 = .ok (.iload 4, 2) := by decide +kernel
theorem dX7_lastsOf_101 : decode cX7_lastsOf 101 = .ok (.iconst 0, 1) := by decide +kernel
theorem dX7_lastsOf_102 : decode cX7_lastsOf 102 = .ok (.sipush 9999, 3) := by decide +kernel
theorem dX7_lastsOf_105 : decode cX7_lastsOf 105 = .ok (.invokestatic 346, 3) := by decide +kernel
theorem dX7_lastsOf_108 : decode cX7_lastsOf 108 = .ok (.ireturn, 1) := by decide +kernel
theorem dX7_paceOf_0 : decode cX7_paceOf 0 = .ok (.aload_n 0, 1) := by decide +kernel
theorem dX7_paceOf_1 : decode cX7_paceOf 1 = .ok (.getfield 26, 3) := by decide +kernel
theorem dX7_paceOf_4 : decode cX7_paceOf 4 = .ok (.iload_n 1, 1) := by decide +kernel
theorem dX7_paceOf_5 : decode cX7_paceOf 5 = .ok (.iaload, 1) := by decide +kernel
theorem dX7_paceOf_6 : decode cX7_paceOf 6 = .ok (.istore_n 2, 1) := by decide +kernel
theorem dX7_paceOf_7 : decode cX7_paceOf 7 = .ok (.iload_n 2, 1) := by decide +kernel
theorem dX7_paceOf_8 : decode cX7_paceOf 8 = .ok (.iconst 4, 1) := by decide +kernel
theorem dX7_paceOf_9 : decode cX7_paceOf 9 = .ok (.if_icmp .eq 8, 3) := by decide +kernel
theorem dX7_paceOf_12 : decode cX7_paceOf 12 = .ok (.iload_n 2, 1) := by decide +kernel
theorem dX7_paceOf_13 : decode cX7_paceOf 13 = .ok (.iconst 5, 1) := by decide +kernel
theorem dX7_paceOf_14 : decode cX7_paceOf 14 = .ok (.if_icmp .ne 21, 3) := by decide +kernel
theorem dX7_paceOf_17 : decode cX7_paceOf 17 = .ok (.iload_n 2, 1) := by decide +kernel
theorem dX7_paceOf_18 : decode cX7_paceOf 18 = .ok (.iconst 5, 1) := by decide +kernel
theorem dX7_paceOf_19 : decode cX7_paceOf 19 = .ok (.if_icmp .ne 14, 3) := by decide +kernel
theorem dX7_paceOf_22 : decode cX7_paceOf 22 = .ok (.aload_n 0, 1) := by decide +kernel
theorem dX7_paceOf_23 : decode cX7_paceOf 23 = .ok (.getfield 29, 3) := by decide +kernel
theorem dX7_paceOf_26 : decode cX7_paceOf 26 = .ok (.iconst 5, 1) := by decide +kernel
theorem dX7_paceOf_27 : decode cX7_paceOf 27 = .ok (.iload_n 1, 1) := by decide +kernel
theorem dX7_paceOf_28 : decode cX7_paceOf 28 = .ok (.imul, 1) := by decide +kernel
theorem dX7_paceOf_29 : decode cX7_paceOf 29 = .ok (.iaload, 1) := by decide +kernel
theorem dX7_paceOf_30 : decode cX7_paceOf 30 = .ok (.goto 4, 3) := by decide +kernel
theorem dX7_paceOf_33 : decode cX7_paceOf 33 = .ok (.iconst 1, 1) := by decide +kernel
theorem dX7_paceOf_34 : decode cX7_paceOf 34 = .ok (.ireturn, 1) := by decide +kernel
theorem dX7_paceOf_35 : decode cX7_paceOf 35 = .ok (.aload_n 0, 1) := by decide +kernel
theorem dX7_paceOf_36 : decode cX7_paceOf 36 = .ok (.iconst 1, 1) := by decide +kernel
theorem dX7_paceOf_37 : decode cX7_paceOf 37 = .ok (.iload_n 1, 1) := by decide +kernel
theorem dX7_paceOf_38 : decode cX7_paceOf 38 = .ok (.invokevirtual 350, 3) := by decide +kernel
theorem dX7_paceOf_41 : decode cX7_paceOf 41 = .ok (.istore_n 3, 1) := by decide +kernel
theorem dX7_paceOf_42 : decode cX7_paceOf 42 = .ok (.aload_n 0, 1) := by decide +kernel
theorem dX7_paceOf_43 : decode cX7_paceOf 43 = .ok (.getfield 116, 3) := by decide +kernel
theorem dX7_paceOf_46 : decode cX7_paceOf 46 = .ok (.ifCond .ne 9, 3) := by decide +kernel
theorem dX7_paceOf_49 : decode cX7_paceOf 49 = .ok (.iconst 2, 1) := by decide +kernel
theorem dX7_paceOf_50 : decode cX7_paceOf 50 = .ok (.iload_n 3, 1) := by decide +kernel
theorem dX7_paceOf_51 : decode cX7_paceOf 51 = .ok (.imul, 1) := by decide +kernel
theorem dX7_paceOf_52 : decode cX7_paceOf 52 = .ok (.goto 4, 3) := by decide +kernel
theorem dX7_paceOf_55 : decode cX7_paceOf 55 = .ok (.iload_n 3, 1) := by decide +kernel
theorem dX7_paceOf_56 : decode cX7_paceOf 56 = .ok (.istore 4, 2) := by decide +kernel
theorem dX7_paceOf_58 : decode cX7_paceOf 58 = .ok (.iload_n 2, 1) := by decide +kernel
theorem dX7_paceOf_59 : decode cX7_paceOf 59 = .ok (.iconst 1, 1) := by decide +kernel
theorem dX7_paceOf_60 : decode cX7_paceOf 60 = .ok (.if_icmp .ne 8, 3) := by decide +kernel
theorem dX7_paceOf_63 : decode cX7_paceOf 63 = .ok (.iload 4, 2) := by decide +kernel
theorem dX7_paceOf_65 : decode cX7_paceOf 65 = .ok (.goto 27, 3) := by decide +kernel
theorem dX7_paceOf_68 : decode cX7_paceOf 68 = .ok (.iload_n 2, 1) := by decide +kernel
theorem dX7_paceOf_69 : decode cX7_paceOf 69 = .ok (.iconst 3, 1) := by decide +kernel
theorem dX7_paceOf_70 : decode cX7_paceOf 70 = .ok (.if_icmp .ne 10, 3) := by decide +kernel
theorem dX7_paceOf_73 : decode cX7_paceOf 73 = .ok (.iload 4, 2) := by decide +kernel
theorem dX7_paceOf_75 : decode cX7_paceOf 75 = .ok (.iconst 3, 1) := by decide +kernel
theorem dX7_paceOf_76 : decode cX7_paceOf 76 = .ok (.iadd, 1) := by decide +kernel
theorem dX7_paceOf_77 : decode cX7_paceOf 77 = .ok (.goto 15, 3) := by decide +kernel
theorem dX7_paceOf_80 : decode cX7_paceOf 80 = .ok (.iload_n 2, 1) := by decide +kernel
theorem dX7_paceOf_81 : decode cX7_paceOf 81 = .ok (.iconst 2, 1) := by decide +kernel
theorem dX7_paceOf_82 : decode cX7_paceOf 82 = .ok (.if_icmp .ne 9, 3) := by decide +kernel
theorem dX7_paceOf_85 : decode cX7_paceOf 85 = .ok (.iload_n 3, 1) := by decide +kernel
theorem dX7_paceOf_86 : decode cX7_paceOf 86 = .ok (.iconst 2, 1) := by decide +kernel
theorem dX7_paceOf_87 : decode cX7_paceOf 87 = .ok (.iadd, 1) := by decide +kernel
theorem dX7_paceOf_88 : decode cX7_paceOf 88 = .ok (.goto 4, 3) := by decide +kernel
theorem dX7_paceOf_91 : decode cX7_paceOf 91 = .ok (.iload_n 3, 1) := by decide +kernel
theorem dX7_paceOf_92 : decode cX7_paceOf 92 = .ok (.iconst 0, 1) := by decide +kernel
theorem dX7_paceOf_93 : decode cX7_paceOf 93 = .ok (.bipush 99, 2) := by decide +kernel
theorem dX7_paceOf_95 : decode cX7_paceOf 95 = .ok (.invokestatic 346, 3) := by decide +kernel
theorem dX7_paceOf_98 : decode cX7_paceOf 98 = .ok (.ireturn, 1) := by decide +kernel
theorem dX7_isStopped_0 : decode cX7_isStopped 0 = .ok (.aload_n 0, 1) := by decide +kernel
theorem dX7_isStopped_1 : decode cX7_isStopped 1 = .ok (.getfield 26, 3) := by decide +kernel
theorem dX7_isStopped_4 : decode cX7_isStopped 4 = .ok (.iload_n 1, 1) := by decide +kernel
theorem dX7_isStopped_5 : decode cX7_isStopped 5 = .ok (.iaload, 1) := by decide +kernel
theorem dX7_isStopped_6 : decode cX7_isStopped 6 = .ok (.istore_n 2, 1) := by decide +kernel
theorem dX7_isStopped_7 : decode cX7_isStopped 7 = .ok (.iload_n 2, 1) := by decide +kernel
theorem dX7_isStopped_8 : decode cX7_isStopped 8 = .ok (.iconst 3, 1) := by decide +kernel
theorem dX7_isStopped_9 : decode cX7_isStopped 9 = .ok (.if_icmp .eq 8, 3) := by decide +kernel
theorem dX7_isStopped_12 : decode cX7_isStopped 12 = .ok (.iload_n 2, 1) := by decide +kernel
theorem dX7_isStopped_13 : decode cX7_isStopped 13 = .ok (.iconst 5, 1) := by decide +kernel
theorem dX7_isStopped_14 : decode cX7_isStopped 14 = .ok (.if_icmp .ne 21, 3) := by decide +kernel
theorem dX7_isStopped_17 : decode cX7_isStopped 17 = .ok (.iload_n 2, 1) := by decide +kernel
theorem dX7_isStopped_18 : decode cX7_isStopped 18 = .ok (.iconst 5, 1) := by decide +kernel
theorem dX7_isStopped_19 : decode cX7_isStopped 19 = .ok (.if_icmp .ne 14, 3) := by decide +kernel
theorem dX7_isStopped_22 : decode cX7_isStopped 22 = .ok (.aload_n 0, 1) := by decide +kernel
theorem dX7_isStopped_23 : decode cX7_isStopped 23 = .ok (.getfield 116, 3) := by decide +kernel
theorem dX7_isStopped_26 : decode cX7_isStopped 26 = .ok (.ifCond .le 7, 3) := by decide +kernel
theorem dX7_isStopped_29 : decode cX7_isStopped 29 = .ok (.iconst 1, 1) := by decide +kernel
theorem dX7_isStopped_30 : decode cX7_isStopped 30 = .ok (.goto 4, 3) := by decide +kernel
theorem dX7_isStopped_33 : decode cX7_isStopped 33 = .ok (.iconst 0, 1) := by decide +kernel
theorem dX7_isStopped_34 : decode cX7_isStopped 34 = .ok (.ireturn, 1) := by decide +kernel
theorem dX7_isStopped_35 : decode cX7_isStopped 35 = .ok (.aload_n 0, 1) := by decide +kernel
theorem dX7_isStopped_36 : decode cX7_isStopped 36 = .ok (.iconst 2, 1) := by decide +kernel
theorem dX7_isStopped_37 : decode cX7_isStopped 37 = .ok (.iload_n 1, 1) := by decide +kernel
theorem dX7_isStopped_38 : decode cX7_isStopped 38 = .ok (.invokevirtual 350, 3) := by decide +kernel
theorem dX7_isStopped_41 : decode cX7_isStopped 41 = .ok (.ifCond .eq 7, 3) := by decide +kernel
theorem dX7_isStopped_44 : decode cX7_isStopped 44 = .ok (.iconst 1, 1) := by decide +kernel
theorem dX7_isStopped_45 : decode cX7_isStopped 45 = .ok (.goto 4, 3) := by decide +kernel
theorem dX7_isStopped_48 : decode cX7_isStopped 48 = .ok (.iconst 0, 1) := by decide +kernel
theorem dX7_isStopped_49 : decode cX7_isStopped 49 = .ok (.istore_n 3, 1) := by decide +kernel
theorem dX7_isStopped_50 : decode cX7_isStopped 50 = .ok (.iload_n 2, 1) := by decide +kernel
theorem dX7_isStopped_51 : decode cX7_isStopped 51 = .ok (.iconst 1, 1) := by decide +kernel
theorem dX7_isStopped_52 : decode cX7_isStopped 52 = .ok (.if_icmp .ne 23, 3) := by decide +kernel
theorem dX7_isStopped_55 : decode cX7_isStopped 55 = .ok (.iload_n 3, 1) := by decide +kernel
theorem dX7_isStopped_56 : decode cX7_isStopped 56 = .ok (.ifCond .eq 15, 3) := by decide +kernel
theorem dX7_isStopped_59 : decode cX7_isStopped 59 = .ok (.aload_n 0, 1) := by decide +kernel
theorem dX7_isStopped_60 : decode cX7_isStopped 60 = .ok (.getfield 116, 3) := by decide +kernel
theorem dX7_isStopped_63 : decode cX7_isStopped 63 = .ok (.iconst 5, 1) := by decide +kernel
theorem dX7_isStopped_64 : decode cX7_isStopped 64 = .ok (.if_icmp .le 7, 3) := by decide +kernel
theorem dX7_isStopped_67 : decode cX7_isStopped 67 = .ok (.iconst 1, 1) := by decide +kernel
theorem dX7_isStopped_68 : decode cX7_isStopped 68 = .ok (.goto 39, 3) := by decide +kernel
theorem dX7_isStopped_71 : decode cX7_isStopped 71 = .ok (.iconst 0, 1) := by decide +kernel
theorem dX7_isStopped_72 : decode cX7_isStopped 72 = .ok (.goto 35, 3) := by decide +kernel
theorem dX7_isStopped_75 : decode cX7_isStopped 75 = .ok (.iload_n 2, 1) := by decide +kernel
theorem dX7_isStopped_76 : decode cX7_isStopped 76 = .ok (.iconst 2, 1) := by decide +kernel
theorem dX7_isStopped_77 : decode cX7_isStopped 77 = .ok (.if_icmp .eq 8, 3) := by decide +kernel
theorem dX7_isStopped_80 : decode cX7_isStopped 80 = .ok (.iload_n 2, 1) := by decide +kernel
theorem dX7_isStopped_81 : decode cX7_isStopped 81 = .ok (.iconst 4, 1) := by decide +kernel
theorem dX7_isStopped_82 : decode cX7_isStopped 82 = .ok (.if_icmp .ne 24, 3) := by decide +kernel
theorem dX7_isStopped_85 : decode cX7_isStopped 85 = .ok (.iload_n 3, 1) := by decide +kernel
theorem dX7_isStopped_86 : decode cX7_isStopped 86 = .ok (.ifCond .ne 12, 3) := by decide +kernel
theorem dX7_isStopped_89 : decode cX7_isStopped 89 = .ok (.aload_n 0, 1) := by decide +kernel
theorem dX7_isStopped_90 : decode cX7_isStopped 90 = .ok (.getfield 116, 3) := by decide +kernel
theorem dX7_isStopped_93 : decode cX7_isStopped 93 = .ok (.bipush 30, 2) := by decide +kernel
theorem dX7_isStopped_95 : decode cX7_isStopped 95 = .ok (.if_icmp .le 7, 3) := by decide +kernel
theorem dX7_isStopped_98 : decode cX7_isStopped 98 = .ok (.iconst 1, 1) := by decide +kernel
theorem dX7_isStopped_99 : decode cX7_isStopped 99 = .ok (.goto 8, 3) := by decide +kernel
theorem dX7_isStopped_102 : decode cX7_isStopped 102 = .ok (.iconst 0, 1) := by decide +kernel
theorem dX7_isStopped_103 : decode cX7_isStopped 103 = .ok (.goto 4, 3) := by decide +kernel
theorem dX7_isStopped_106 : decode cX7_isStopped 106 = .ok (.iload_n 3, 1) := by decide +kernel
theorem dX7_isStopped_107 : decode cX7_isStopped 107 = .ok (.ireturn, 1) := by decide +kernel
theorem dX7_isInSocks_0 : decode cX7_isInSocks 0 = .ok (.aload_n 0, 1) := by decide +kernel
theorem dX7_isInSocks_1 : decode cX7_isInSocks 1 = .ok (.getfield 128, 3) := by decide +kernel
theorem dX7_isInSocks_4 : decode cX7_isInSocks 4 = .ok (.aload_n 0, 1) := by decide +kernel
theorem dX7_isInSocks_5 : decode cX7_isInSocks 5 = .ok (.iload_n 1, 1) := by decide +kernel
theorem dX7_isInSocks_6 : decode cX7_isInSocks 6 = .ok (.invokevirtual 119, 3) := by decide +kernel
theorem dX7_isInSocks_9 : decode cX7_isInSocks 9 = .ok (.if_icmp .lt 7, 3) := by decide +kernel
theorem dX7_isInSocks_12 : decode cX7_isInSocks 12 = .ok (.iconst 1, 1) := by decide +kernel
theorem dX7_isInSocks_13 : decode cX7_isInSocks 13 = .ok (.goto 4, 3) := by decide +kernel
theorem dX7_isInSocks_16 : decode cX7_isInSocks 16 = .ok (.iconst 0, 1) := by decide +kernel
theorem dX7_isInSocks_17 : decode cX7_isInSocks 17 = .ok (.ireturn, 1) := by decide +kernel
theorem dX7_goes_0 : decode cX7_goes 0 = .ok (.aload_n 0, 1) := by decide +kernel
theorem dX7_goes_1 : decode cX7_goes 1 = .ok (.iload_n 1, 1) := by decide +kernel
theorem dX7_goes_2 : decode cX7_goes 2 = .ok (.invokevirtual 119, 3) := by decide +kernel
theorem dX7_goes_5 : decode cX7_goes 5 = .ok (.istore_n 2, 1) := by decide +kernel
theorem dX7_goes_6 : decode cX7_goes 6 = .ok (.aload_n 0, 1) := by decide +kernel
theorem dX7_goes_7 : decode cX7_goes 7 = .ok (.iload_n 1, 1) := by decide +kernel
theorem dX7_goes_8 : decode cX7_goes 8 = .ok (.invokevirtual 122, 3) := by decide +kernel
theorem dX7_goes_11 : decode cX7_goes 11 = .ok (.istore_n 3, 1) := by decide +kernel
theorem dX7_goes_12 : decode cX7_goes 12 = .ok (.aload_n 0, 1) := by decide +kernel
theorem dX7_goes_13 : decode cX7_goes 13 = .ok (.iload_n 1, 1) := by decide +kernel
theorem dX7_goes_14 : decode cX7_goes 14 = .ok (.invokevirtual 125, 3) := by decide +kernel
theorem dX7_goes_17 : decode cX7_goes 17 = .ok (.ifCond .ne 15, 3) := by decide +kernel
theorem dX7_goes_20 : decode cX7_goes 20 = .ok (.aload_n 0, 1) := by decide +kernel
theorem dX7_goes_21 : decode cX7_goes 21 = .ok (.getfield 128, 3) := by decide +kernel
theorem dX7_goes_24 : decode cX7_goes 24 = .ok (.iload_n 2, 1) := by decide +kernel
theorem dX7_goes_25 : decode cX7_goes 25 = .ok (.if_icmp .ge 7, 3) := by decide +kernel
theorem dX7_goes_28 : decode cX7_goes 28 = .ok (.iconst 1, 1) := by decide +kernel
theorem dX7_goes_29 : decode cX7_goes 29 = .ok (.goto 4, 3) := by decide +kernel
theorem dX7_goes_32 : decode cX7_goes 32 = .ok (.iconst 0, 1) := by decide +kernel
theorem dX7_goes_33 : decode cX7_goes 33 = .ok (.istore 4, 2) := by decide +kernel
theorem dX7_goes_35 : decode cX7_goes 35 = .ok (.iload 4, 2) := by decide +kernel
theorem dX7_goes_37 : decode cX7_goes 37 = .ok (.ifCond .eq 61, 3) := by decide +kernel
theorem dX7_goes_40 : decode cX7_goes 40 = .ok (.iload_n 2, 1) := by decide +kernel
theorem dX7_goes_41 : decode cX7_goes 41 = .ok (.aload_n 0, 1) := by decide +kernel
theorem dX7_goes_42 : decode cX7_goes 42 = .ok (.getfield 128, 3) := by decide +kernel
theorem dX7_goes_45 : decode cX7_goes 45 = .ok (.isub, 1) := by decide +kernel
theorem dX7_goes_46 : decode cX7_goes 46 = .ok (.iload_n 3, 1) := by decide +kernel
theorem dX7_goes_47 : decode cX7_goes 47 = .ok (.if_icmp .ge 12, 3) := by decide +kernel
theorem dX7_goes_50 : decode cX7_goes 50 = .ok (.iload_n 2, 1) := by decide +kernel
theorem dX7_goes_51 : decode cX7_goes 51 = .ok (.aload_n 0, 1) := by decide +kernel
theorem dX7_goes_52 : decode cX7_goes 52 = .ok (.getfield 128, 3) := by decide +kernel
theorem dX7_goes_55 : decode cX7_goes 55 = .ok (.isub, 1) := by decide +kernel
theorem dX7_goes_56 : decode cX7_goes 56 = .ok (.goto 4, 3) := by decide +kernel
theorem dX7_goes_59 : decode cX7_goes 59 = .ok (.iload_n 3, 1) := by decide +kernel
theorem dX7_goes_60 : decode cX7_goes 60 = .ok (.istore 5, 2) := by decide +kernel
theorem dX7_goes_62 : decode cX7_goes 62 = .ok (.aload_n 0, 1) := by decide +kernel
theorem dX7_goes_63 : decode cX7_goes 63 = .ok (.aload_n 0, 1) := by decide +kernel
theorem dX7_goes_64 : decode cX7_goes 64 = .ok (.getfield 340, 3) := by decide +kernel
theorem dX7_goes_67 : decode cX7_goes 67 = .ok (.iload 5, 2) := by decide +kernel
theorem dX7_goes_69 : decode cX7_goes 69 = .ok (.iadd, 1) := by decide +kernel
theorem dX7_goes_70 : decode cX7_goes 70 = .ok (.iconst 0, 1) := by decide +kernel
theorem dX7_goes_71 : decode cX7_goes 71 = .ok (.sipush 999, 3) := by decide +kernel
theorem dX7_goes_74 : decode cX7_goes 74 = .ok (.invokestatic 346, 3) := by decide +kernel
theorem dX7_goes_77 : decode cX7_goes 77 = .ok (.putfield 340, 3) := by decide +kernel
theorem dX7_goes_80 : decode cX7_goes 80 = .ok (.aload_n 0, 1) := by decide +kernel
theorem dX7_goes_81 : decode cX7_goes 81 = .ok (.aload_n 0, 1) := by decide +kernel
theorem dX7_goes_82 : decode cX7_goes 82 = .ok (.getfield 128, 3) := by decide +kernel
theorem dX7_goes_85 : decode cX7_goes 85 = .ok (.iload 5, 2) := by decide +kernel
theorem dX7_goes_87 : decode cX7_goes 87 = .ok (.iadd, 1) := by decide +kernel
theorem dX7_goes_88 : decode cX7_goes 88 = .ok (.iconst 0, 1) := by decide +kernel
theorem dX7_goes_89 : decode cX7_goes 89 = .ok (.sipush 9999, 3) := by decide +kernel
theorem dX7_goes_92 : decode cX7_goes 92 = .ok (.invokestatic 346, 3) := by decide +kernel
theorem dX7_goes_95 : decode cX7_goes 95 = .ok (.putfield 128, 3) := by decide +kernel
theorem dX7_goes_98 : decode cX7_goes 98 = .ok (.aload_n 0, 1) := by decide +kernel
theorem dX7_goes_99 : decode cX7_goes 99 = .ok (.dup, 1) := by decide +kernel
theorem dX7_goes_100 : decode cX7_goes 100 = .ok (.getfield 343, 3) := by decide +kernel
theorem dX7_goes_103 : decode cX7_goes 103 = .ok (.iconst 1, 1) := by decide +kernel
theorem dX7_goes_104 : decode cX7_goes 104 = .ok (.iadd, 1) := by decide +kernel
theorem dX7_goes_105 : decode cX7_goes 105 = .ok (.putfield 343, 3) := by decide +kernel
theorem dX7_goes_108 : decode cX7_goes 108 = .ok (.iload 4, 2) := by decide +kernel
theorem dX7_goes_110 : decode cX7_goes 110 = .ok (.ireturn, 1) := by decide +kernel
theorem dX7_lives_0 : decode cX7_lives 0 = .ok (.aload_n 0, 1) := by decide +kernel
theorem dX7_lives_1 : decode cX7_lives 1 = .ok (.iload_n 1, 1) := by decide +kernel
theorem dX7_lives_2 : decode cX7_lives 2 = .ok (.invokevirtual 109, 3) := by decide +kernel
theorem dX7_lives_5 : decode cX7_lives 5 = .ok (.aload_n 0, 1) := by decide +kernel
theorem dX7_lives_6 : decode cX7_lives 6 = .ok (.iconst (-1), 1) := by decide +kernel
theorem dX7_lives_7 : decode cX7_lives 7 = .ok (.putfield 353, 3) := by decide +kernel
theorem dX7_lives_10 : decode cX7_lives 10 = .ok (.aload_n 0, 1) := by decide +kernel
theorem dX7_lives_11 : decode cX7_lives 11 = .ok (.iconst (-1), 1) := by decide +kernel
theorem dX7_lives_12 : decode cX7_lives 12 = .ok (.putfield 356, 3) := by decide +kernel
theorem dX7_lives_15 : decode cX7_lives 15 = .ok (.iconst 0, 1) := by decide +kernel
theorem dX7_lives_16 : decode cX7_lives 16 = .ok (.istore_n 3, 1) := by decide +kernel
theorem dX7_lives_17 : decode cX7_lives 17 = .ok (.iload_n 3, 1) := by decide +kernel
theorem dX7_lives_18 : decode cX7_lives 18 = .ok (.iload_n 2, 1) := by decide +kernel
theorem dX7_lives_19 : decode cX7_lives 19 = .ok (.if_icmp .ge 51, 3) := by decide +kernel
theorem dX7_lives_22 : decode cX7_lives 22 = .ok (.aload_n 0, 1) := by decide +kernel
theorem dX7_lives_23 : decode cX7_lives 23 = .ok (.iload_n 1, 1) := by decide +kernel
theorem dX7_lives_24 : decode cX7_lives 24 = .ok (.invokevirtual 359, 3) := by decide +kernel
theorem dX7_lives_27 : decode cX7_lives 27 = .ok (.ifCond .ne 16, 3) := by decide +kernel
theorem dX7_lives_30 : decode cX7_lives 30 = .ok (.aload_n 0, 1) := by decide +kernel
theorem dX7_lives_31 : decode cX7_lives 31 = .ok (.getfield 356, 3) := by decide +kernel
theorem dX7_lives_34 : decode cX7_lives 34 = .ok (.iconst (-1), 1) := by decide +kernel
theorem dX7_lives_35 : decode cX7_lives 35 = .ok (.if_icmp .ne 8, 3) := by decide +kernel
theorem dX7_lives_38 : decode cX7_lives 38 = .ok (.aload_n 0, 1) := by decide +kernel
theorem dX7_lives_39 : decode cX7_lives 39 = .ok (.iload_n 3, 1) := by decide +kernel
theorem dX7_lives_40 : decode cX7_lives 40 = .ok (.putfield 356, 3) := by decide +kernel
theorem dX7_lives_43 : decode cX7_lives 43 = .ok (.aload_n 0, 1) := by decide +kernel
theorem dX7_lives_44 : decode cX7_lives 44 = .ok (.getfield 353, 3) := by decide +kernel
theorem dX7_lives_47 : decode cX7_lives 47 = .ok (.iconst (-1), 1) := by decide +kernel
theorem dX7_lives_48 : decode cX7_lives 48 = .ok (.if_icmp .ne 16, 3) := by decide +kernel
theorem dX7_lives_51 : decode cX7_lives 51 = .ok (.aload_n 0, 1) := by decide +kernel
theorem dX7_lives_52 : decode cX7_lives 52 = .ok (.iload_n 1, 1) := by decide +kernel
theorem dX7_lives_53 : decode cX7_lives 53 = .ok (.invokevirtual 362, 3) := by decide +kernel
theorem dX7_lives_56 : decode cX7_lives 56 = .ok (.ifCond .eq 8, 3) := by decide +kernel
theorem dX7_lives_59 : decode cX7_lives 59 = .ok (.aload_n 0, 1) := by decide +kernel
theorem dX7_lives_60 : decode cX7_lives 60 = .ok (.iload_n 3, 1) := by decide +kernel
theorem dX7_lives_61 : decode cX7_lives 61 = .ok (.putfield 353, 3) := by decide +kernel
theorem dX7_lives_64 : decode cX7_lives 64 = .ok (.iinc 3 1, 3) := by decide +kernel
theorem dX7_lives_67 : decode cX7_lives 67 = .ok (.goto (-50), 3) := by decide +kernel
theorem dX7_lives_70 : decode cX7_lives 70 = .ok (.return_, 1) := by decide +kernel
theorem dX7_day_0 : decode cX7_day 0 = .ok (.aload_n 0, 1) := by decide +kernel
theorem dX7_day_1 : decode cX7_day 1 = .ok (.getfield 95, 3) := by decide +kernel
theorem dX7_day_4 : decode cX7_day 4 = .ok (.sipush 999, 3) := by decide +kernel
theorem dX7_day_7 : decode cX7_day 7 = .ok (.if_icmp .ne 6, 3) := by decide +kernel
theorem dX7_day_10 : decode cX7_day 10 = .ok (.bipush (-3), 2) := by decide +kernel
theorem dX7_day_12 : decode cX7_day 12 = .ok (.ireturn, 1) := by decide +kernel
theorem dX7_day_13 : decode cX7_day 13 = .ok (.iconst 0, 1) := by decide +kernel
theorem dX7_day_14 : decode cX7_day 14 = .ok (.istore_n 1, 1) := by decide +kernel
theorem dX7_day_15 : decode cX7_day 15 = .ok (.iconst 0, 1) := by decide +kernel
theorem dX7_day_16 : decode cX7_day 16 = .ok (.istore_n 2, 1) := by decide +kernel
theorem dX7_day_17 : decode cX7_day 17 = .ok (.iload_n 2, 1) := by decide +kernel
theorem dX7_day_18 : decode cX7_day 18 = .ok (.aload_n 0, 1) := by decide +kernel
theorem dX7_day_19 : decode cX7_day 19 = .ok (.getfield 64, 3) := by decide +kernel
theorem dX7_day_22 : decode cX7_day 22 = .ok (.if_icmp .ge 58, 3) := by decide +kernel
theorem dX7_day_25 : decode cX7_day 25 = .ok (.aload_n 0, 1) := by decide +kernel
theorem dX7_day_26 : decode cX7_day 26 = .ok (.iload_n 2, 1) := by decide +kernel
theorem dX7_day_27 : decode cX7_day 27 = .ok (.invokevirtual 109, 3) := by decide +kernel
theorem dX7_day_30 : decode cX7_day 30 = .ok (.iload_n 1, 1) := by decide +kernel
theorem dX7_day_31 : decode cX7_day 31 = .ok (.aload_n 0, 1) := by decide +kernel
theorem dX7_day_32 : decode cX7_day 32 = .ok (.iload_n 2, 1) := by decide +kernel
theorem dX7_day_33 : decode cX7_day 33 = .ok (.invokevirtual 359, 3) := by decide +kernel
theorem dX7_day_36 : decode cX7_day 36 = .ok (.ifCond .eq 7, 3) := by decide +kernel
theorem dX7_day_39 : decode cX7_day 39 = .ok (.iconst 1, 1) := by decide +kernel
theorem dX7_day_40 : decode cX7_day 40 = .ok (.goto 4, 3) := by decide +kernel
theorem dX7_day_43 : decode cX7_day 43 = .ok (.iconst 0, 1) := by decide +kernel
theorem dX7_day_44 : decode cX7_day 44 = .ok (.iadd, 1) := by decide +kernel
theorem dX7_day_45 : decode cX7_day 45 = .ok (.istore_n 1, 1) := by decide +kernel
theorem dX7_day_46 : decode cX7_day 46 = .ok (.aload_n 0, 1) := by decide +kernel
theorem dX7_day_47 : decode cX7_day 47 = .ok (.getfield 29, 3) := by decide +kernel
theorem dX7_day_50 : decode cX7_day 50 = .ok (.iconst 5, 1) := by decide +kernel
theorem dX7_day_51 : decode cX7_day 51 = .ok (.iload_n 2, 1) := by decide +kernel
theorem dX7_day_52 : decode cX7_day 52 = .ok (.imul, 1) := by decide +kernel
theorem dX7_day_53 : decode cX7_day 53 = .ok (.iconst 3, 1) := by decide +kernel
theorem dX7_day_54 : decode cX7_day 54 = .ok (.iadd, 1) := by decide +kernel
theorem dX7_day_55 : decode cX7_day 55 = .ok (.aload_n 0, 1) := by decide +kernel
theorem dX7_day_56 : decode cX7_day 56 = .ok (.getfield 340, 3) := by decide +kernel
theorem dX7_day_59 : decode cX7_day 59 = .ok (.iastore, 1) := by decide +kernel
theorem dX7_day_60 : decode cX7_day 60 = .ok (.aload_n 0, 1) := by decide +kernel
theorem dX7_day_61 : decode cX7_day 61 = .ok (.getfield 29, 3) := by decide +kernel
theorem dX7_day_64 : decode cX7_day 64 = .ok (.iconst 5, 1) := by decide +kernel
theorem dX7_day_65 : decode cX7_day 65 = .ok (.iload_n 2, 1) := by decide +kernel
theorem dX7_day_66 : decode cX7_day 66 = .ok (.imul, 1) := by decide +kernel
theorem dX7_day_67 : decode cX7_day 67 = .ok (.iconst 4, 1) := by decide +kernel
theorem dX7_day_68 : decode cX7_day 68 = .ok (.iadd, 1) := by decide +kernel
theorem dX7_day_69 : decode cX7_day 69 = .ok (.aload_n 0, 1) := by decide +kernel
theorem dX7_day_70 : decode cX7_day 70 = .ok (.getfield 128, 3) := by decide +kernel
theorem dX7_day_73 : decode cX7_day 73 = .ok (.iastore, 1) := by decide +kernel
theorem dX7_day_74 : decode cX7_day 74 = .ok (.iinc 2 1, 3) := by decide +kernel
theorem dX7_day_77 : decode cX7_day 77 = .ok (.goto (-60), 3) := by decide +kernel
theorem dX7_day_80 : decode cX7_day 80 = .ok (.aload_n 0, 1) := by decide +kernel
theorem dX7_day_81 : decode cX7_day 81 = .ok (.dup, 1) := by decide +kernel
theorem dX7_day_82 : decode cX7_day 82 = .ok (.getfield 95, 3) := by decide +kernel
theorem dX7_day_85 : decode cX7_day 85 = .ok (.iconst 1, 1) := by decide +kernel
theorem dX7_day_86 : decode cX7_day 86 = .ok (.iadd, 1) := by decide +kernel
theorem dX7_day_87 : decode cX7_day 87 = .ok (.putfield 95, 3) := by decide +kernel
theorem dX7_day_90 : decode cX7_day 90 = .ok (.iload_n 1, 1) := by decide +kernel
theorem dX7_day_91 : decode cX7_day 91 = .ok (.ireturn, 1) := by decide +kernel
theorem dX7_run_0 : decode cX7_run 0 = .ok (.aload_n 0, 1) := by decide +kernel
theorem dX7_run_1 : decode cX7_run 1 = .ok (.iload_n 1, 1) := by decide +kernel
theorem dX7_run_2 : decode cX7_run 2 = .ok (.invokevirtual 73, 3) := by decide +kernel
theorem dX7_run_5 : decode cX7_run 5 = .ok (.ifCond .eq 27, 3) := by decide +kernel
theorem dX7_run_8 : decode cX7_run 8 = .ok (.iload_n 2, 1) := by decide +kernel
theorem dX7_run_9 : decode cX7_run 9 = .ok (.i2l, 1) := by decide +kernel
theorem dX7_run_10 : decode cX7_run 10 = .ok (.lconst 0, 1) := by decide +kernel
theorem dX7_run_11 : decode cX7_run 11 = .ok (.ldc2_w 365, 3) := by decide +kernel
theorem dX7_run_14 : decode cX7_run 14 = .ok (.invokestatic 67, 3) := by decide +kernel
theorem dX7_run_17 : decode cX7_run 17 = .ok (.ifCond .eq 15, 3) := by decide +kernel
theorem dX7_run_20 : decode cX7_run 20 = .ok (.iload_n 3, 1) := by decide +kernel
theorem dX7_run_21 : decode cX7_run 21 = .ok (.i2l, 1) := by decide +kernel
theorem dX7_run_22 : decode cX7_run 22 = .ok (.lconst 0, 1) := by decide +kernel
theorem dX7_run_23 : decode cX7_run 23 = .ok (.ldc2_w 367, 3) := by decide +kernel
theorem dX7_run_26 : decode cX7_run 26 = .ok (.invokestatic 67, 3) := by decide +kernel
theorem dX7_run_29 : decode cX7_run 29 = .ok (.ifCond .ne 6, 3) := by decide +kernel
theorem dX7_run_32 : decode cX7_run 32 = .ok (.bipush (-2), 2) := by decide +kernel
theorem dX7_run_34 : decode cX7_run 34 = .ok (.ireturn, 1) := by decide +kernel
theorem dX7_run_35 : decode cX7_run 35 = .ok (.aload_n 0, 1) := by decide +kernel
theorem dX7_run_36 : decode cX7_run 36 = .ok (.iload_n 1, 1) := by decide +kernel
theorem dX7_run_37 : decode cX7_run 37 = .ok (.iload_n 2, 1) := by decide +kernel
theorem dX7_run_38 : decode cX7_run 38 = .ok (.invokevirtual 369, 3) := by decide +kernel
theorem dX7_run_41 : decode cX7_run 41 = .ok (.iload_n 3, 1) := by decide +kernel
theorem dX7_run_42 : decode cX7_run 42 = .ok (.ifCond .ne 10, 3) := by decide +kernel
theorem dX7_run_45 : decode cX7_run 45 = .ok (.aload_n 0, 1) := by decide +kernel
theorem dX7_run_46 : decode cX7_run 46 = .ok (.getfield 340, 3) := by decide +kernel
theorem dX7_run_49 : decode cX7_run 49 = .ok (.goto 31, 3) := by decide +kernel
theorem dX7_run_52 : decode cX7_run 52 = .ok (.iload_n 3, 1) := by decide +kernel
theorem dX7_run_53 : decode cX7_run 53 = .ok (.iconst 1, 1) := by decide +kernel
theorem dX7_run_54 : decode cX7_run 54 = .ok (.if_icmp .ne 10, 3) := by decide +kernel
theorem dX7_run_57 : decode cX7_run 57 = .ok (.aload_n 0, 1) := by decide +kernel
theorem dX7_run_58 : decode cX7_run 58 = .ok (.getfield 353, 3) := by decide +kernel
theorem dX7_run_61 : decode cX7_run 61 = .ok (.goto 19, 3) := by decide +kernel
theorem dX7_run_64 : decode cX7_run 64 = .ok (.iload_n 3, 1) := by decide +kernel
theorem dX7_run_65 : decode cX7_run 65 = .ok (.iconst 2, 1) := by decide +kernel
theorem dX7_run_66 : decode cX7_run 66 = .ok (.if_icmp .ne 10, 3) := by decide +kernel
theorem dX7_run_69 : decode cX7_run 69 = .ok (.aload_n 0, 1) := by decide +kernel
theorem dX7_run_70 : decode cX7_run 70 = .ok (.getfield 356, 3) := by decide +kernel
theorem dX7_run_73 : decode cX7_run 73 = .ok (.goto 7, 3) := by decide +kernel
theorem dX7_run_76 : decode cX7_run 76 = .ok (.aload_n 0, 1) := by decide +kernel
theorem dX7_run_77 : decode cX7_run 77 = .ok (.getfield 128, 3) := by decide +kernel
theorem dX7_run_80 : decode cX7_run 80 = .ok (.ireturn, 1) := by decide +kernel
theorem dX7_mend_0 : decode cX7_mend 0 = .ok (.aload_n 0, 1) := by decide +kernel
theorem dX7_mend_1 : decode cX7_mend 1 = .ok (.iload_n 1, 1) := by decide +kernel
theorem dX7_mend_2 : decode cX7_mend 2 = .ok (.invokevirtual 73, 3) := by decide +kernel
theorem dX7_mend_5 : decode cX7_mend 5 = .ok (.ifCond .ne 6, 3) := by decide +kernel
theorem dX7_mend_8 : decode cX7_mend 8 = .ok (.bipush (-2), 2) := by decide +kernel
theorem dX7_mend_10 : decode cX7_mend 10 = .ok (.ireturn, 1) := by decide +kernel
theorem dX7_mend_11 : decode cX7_mend 11 = .ok (.aload_n 0, 1) := by decide +kernel
theorem dX7_mend_12 : decode cX7_mend 12 = .ok (.getfield 29, 3) := by decide +kernel
theorem dX7_mend_15 : decode cX7_mend 15 = .ok (.iconst 5, 1) := by decide +kernel
theorem dX7_mend_16 : decode cX7_mend 16 = .ok (.iload_n 1, 1) := by decide +kernel
theorem dX7_mend_17 : decode cX7_mend 17 = .ok (.imul, 1) := by decide +kernel
theorem dX7_mend_18 : decode cX7_mend 18 = .ok (.iconst 4, 1) := by decide +kernel
theorem dX7_mend_19 : decode cX7_mend 19 = .ok (.iadd, 1) := by decide +kernel
theorem dX7_mend_20 : decode cX7_mend 20 = .ok (.iaload, 1) := by decide +kernel
theorem dX7_mend_21 : decode cX7_mend 21 = .ok (.istore_n 2, 1) := by decide +kernel
theorem dX7_mend_22 : decode cX7_mend 22 = .ok (.aload_n 0, 1) := by decide +kernel
theorem dX7_mend_23 : decode cX7_mend 23 = .ok (.getfield 29, 3) := by decide +kernel
theorem dX7_mend_26 : decode cX7_mend 26 = .ok (.iconst 5, 1) := by decide +kernel
theorem dX7_mend_27 : decode cX7_mend 27 = .ok (.iload_n 1, 1) := by decide +kernel
theorem dX7_mend_28 : decode cX7_mend 28 = .ok (.imul, 1) := by decide +kernel
theorem dX7_mend_29 : decode cX7_mend 29 = .ok (.iconst 4, 1) := by decide +kernel
theorem dX7_mend_30 : decode cX7_mend 30 = .ok (.iadd, 1) := by decide +kernel
theorem dX7_mend_31 : decode cX7_mend 31 = .ok (.iconst 0, 1) := by decide +kernel
theorem dX7_mend_32 : decode cX7_mend 32 = .ok (.iastore, 1) := by decide +kernel
theorem dX7_mend_33 : decode cX7_mend 33 = .ok (.iload_n 2, 1) := by decide +kernel
theorem dX7_mend_34 : decode cX7_mend 34 = .ok (.ireturn, 1) := by decide +kernel
theorem dX7_stepBehind_0 : decode cX7_stepBehind 0 = .ok (.aload_n 0, 1) := by decide +kernel
theorem dX7_stepBehind_1 : decode cX7_stepBehind 1 = .ok (.iload_n 1, 1) := by decide +kernel
theorem dX7_stepBehind_2 : decode cX7_stepBehind 2 = .ok (.invokevirtual 109, 3) := by decide +kernel
theorem dX7_stepBehind_5 : decode cX7_stepBehind 5 = .ok (.iconst 0, 1) := by decide +kernel
theorem dX7_stepBehind_6 : decode cX7_stepBehind 6 = .ok (.istore_n 3, 1) := by decide +kernel
theorem dX7_stepBehind_7 : decode cX7_stepBehind 7 = .ok (.iload_n 3, 1) := by decide +kernel
theorem dX7_stepBehind_8 : decode cX7_stepBehind 8 = .ok (.iload_n 2, 1) := by decide +kernel
theorem dX7_stepBehind_9 : decode cX7_stepBehind 9 = .ok (.if_icmp .ge 15, 3) := by decide +kernel
theorem dX7_stepBehind_12 : decode cX7_stepBehind 12 = .ok (.aload_n 0, 1) := by decide +kernel
theorem dX7_stepBehind_13 : decode cX7_stepBehind 13 = .ok (.iload_n 1, 1) := by decide +kernel
theorem dX7_stepBehind_14 : decode cX7_stepBehind 14 = .ok (.invokevirtual 359, 3) := by decide +kernel
theorem dX7_stepBehind_17 : decode cX7_stepBehind 17 = .ok (.pop, 1) := by decide +kernel
theorem dX7_stepBehind_18 : decode cX7_stepBehind 18 = .ok (.iinc 3 1, 3) := by decide +kernel
theorem dX7_stepBehind_21 : decode cX7_stepBehind 21 = .ok (.goto (-14), 3) := by decide +kernel
theorem dX7_stepBehind_24 : decode cX7_stepBehind 24 = .ok (.aload_n 0, 1) := by decide +kernel
theorem dX7_stepBehind_25 : decode cX7_stepBehind 25 = .ok (.getfield 340, 3) := by decide +kernel
theorem dX7_stepBehind_28 : decode cX7_stepBehind 28 = .ok (.ireturn, 1) := by decide +kernel
theorem dX7_allBehind_0 : decode cX7_allBehind 0 = .ok (.iconst 0, 1) := by decide +kernel
theorem dX7_allBehind_1 : decode cX7_allBehind 1 = .ok (.istore_n 2, 1) := by decide +kernel
theorem dX7_allBehind_2 : decode cX7_allBehind 2 = .ok (.iconst 0, 1) := by decide +kernel
theorem dX7_allBehind_3 : decode cX7_allBehind 3 = .ok (.istore_n 3, 1) := by decide +kernel
theorem dX7_allBehind_4 : decode cX7_allBehind 4 = .ok (.iload_n 3, 1) := by decide +kernel
theorem dX7_allBehind_5 : decode cX7_allBehind 5 = .ok (.aload_n 0, 1) := by decide +kernel
theorem dX7_allBehind_6 : decode cX7_allBehind 6 = .ok (.getfield 64, 3) := by decide +kernel
theorem dX7_allBehind_9 : decode cX7_allBehind 9 = .ok (.if_icmp .ge 18, 3) := by decide +kernel
theorem dX7_allBehind_12 : decode cX7_allBehind 12 = .ok (.iload_n 2, 1) := by decide +kernel
theorem dX7_allBehind_13 : decode cX7_allBehind 13 = .ok (.aload_n 0, 1) := by decide +kernel
theorem dX7_allBehind_14 : decode cX7_allBehind 14 = .ok (.iload_n 3, 1) := by decide +kernel
theorem dX7_allBehind_15 : decode cX7_allBehind 15 = .ok (.iload_n 1, 1) := by decide +kernel
theorem dX7_allBehind_16 : decode cX7_allBehind 16 = .ok (.invokevirtual 373, 3) := by decide +kernel
theorem dX7_allBehind_19 : decode cX7_allBehind 19 = .ok (.iadd, 1) := by decide +kernel
theorem dX7_allBehind_20 : decode cX7_allBehind 20 = .ok (.istore_n 2, 1) := by decide +kernel
theorem dX7_allBehind_21 : decode cX7_allBehind 21 = .ok (.iinc 3 1, 3) := by decide +kernel
theorem dX7_allBehind_24 : decode cX7_allBehind 24 = .ok (.goto (-20), 3) := by decide +kernel
theorem dX7_allBehind_27 : decode cX7_allBehind 27 = .ok (.iload_n 2, 1) := by decide +kernel
theorem dX7_allBehind_28 : decode cX7_allBehind 28 = .ok (.ireturn, 1) := by decide +kernel
theorem dX7_isLighter_0 : decode cX7_isLighter 0 = .ok (.aload_n 0, 1) := by decide +kernel
theorem dX7_isLighter_1 : decode cX7_isLighter 1 = .ok (.iload_n 1, 1) := by decide +kernel
theorem dX7_isLighter_2 : decode cX7_isLighter 2 = .ok (.invokevirtual 337, 3) := by decide +kernel
theorem dX7_isLighter_5 : decode cX7_isLighter 5 = .ok (.aload_n 0, 1) := by decide +kernel
theorem dX7_isLighter_6 : decode cX7_isLighter 6 = .ok (.aload_n 0, 1) := by decide +kernel
theorem dX7_isLighter_7 : decode cX7_isLighter 7 = .ok (.getfield 376, 3) := by decide +kernel
theorem dX7_isLighter_10 : decode cX7_isLighter 10 = .ok (.invokevirtual 337, 3) := by decide +kernel
theorem dX7_isLighter_13 : decode cX7_isLighter 13 = .ok (.if_icmp .ge 7, 3) := by decide +kernel
theorem dX7_isLighter_16 : decode cX7_isLighter 16 = .ok (.iconst 1, 1) := by decide +kernel
theorem dX7_isLighter_17 : decode cX7_isLighter 17 = .ok (.goto 4, 3) := by decide +kernel
theorem dX7_isLighter_20 : decode cX7_isLighter 20 = .ok (.iconst 0, 1) := by decide +kernel
theorem dX7_isLighter_21 : decode cX7_isLighter 21 = .ok (.ireturn, 1) := by decide +kernel
theorem dX7_far_0 : decode cX7_far 0 = .ok (.aload_n 0, 1) := by decide +kernel
theorem dX7_far_1 : decode cX7_far 1 = .ok (.iload_n 1, 1) := by decide +kernel
theorem dX7_far_2 : decode cX7_far 2 = .ok (.invokevirtual 73, 3) := by decide +kernel
theorem dX7_far_5 : decode cX7_far 5 = .ok (.ifCond .eq 25, 3) := by decide +kernel
theorem dX7_far_8 : decode cX7_far 8 = .ok (.iload_n 2, 1) := by decide +kernel
theorem dX7_far_9 : decode cX7_far 9 = .ok (.i2l, 1) := by decide +kernel
theorem dX7_far_10 : decode cX7_far 10 = .ok (.lconst 0, 1) := by decide +kernel
theorem dX7_far_11 : decode cX7_far 11 = .ok (.ldc2_w 365, 3) := by decide +kernel
theorem dX7_far_14 : decode cX7_far 14 = .ok (.invokestatic 67, 3) := by decide +kernel
theorem dX7_far_17 : decode cX7_far 17 = .ok (.ifCond .eq 13, 3) := by decide +kernel
theorem dX7_far_20 : decode cX7_far 20 = .ok (.iload_n 3, 1) := by decide +kernel
theorem dX7_far_21 : decode cX7_far 21 = .ok (.i2l, 1) := by decide +kernel
theorem dX7_far_22 : decode cX7_far 22 = .ok (.lconst 0, 1) := by decide +kernel
theorem dX7_far_23 : decode cX7_far 23 = .ok (.lconst 1, 1) := by decide +kernel
theorem dX7_far_24 : decode cX7_far 24 = .ok (.invokestatic 67, 3) := by decide +kernel
theorem dX7_far_27 : decode cX7_far 27 = .ok (.ifCond .ne 6, 3) := by decide +kernel
theorem dX7_far_30 : decode cX7_far 30 = .ok (.bipush (-2), 2) := by decide +kernel
theorem dX7_far_32 : decode cX7_far 32 = .ok (.ireturn, 1) := by decide +kernel
theorem dX7_far_33 : decode cX7_far 33 = .ok (.aload_n 0, 1) := by decide +kernel
theorem dX7_far_34 : decode cX7_far 34 = .ok (.getfield 29, 3) := by decide +kernel
theorem dX7_far_37 : decode cX7_far 37 = .ok (.iconst 5, 1) := by decide +kernel
theorem dX7_far_38 : decode cX7_far 38 = .ok (.iload_n 1, 1) := by decide +kernel
theorem dX7_far_39 : decode cX7_far 39 = .ok (.imul, 1) := by decide +kernel
theorem dX7_far_40 : decode cX7_far 40 = .ok (.iconst 2, 1) := by decide +kernel
theorem dX7_far_41 : decode cX7_far 41 = .ok (.iadd, 1) := by decide +kernel
theorem dX7_far_42 : decode cX7_far 42 = .ok (.iaload, 1) := by decide +kernel
theorem dX7_far_43 : decode cX7_far 43 = .ok (.istore 4, 2) := by decide +kernel
theorem dX7_far_45 : decode cX7_far 45 = .ok (.aload_n 0, 1) := by decide +kernel
theorem dX7_far_46 : decode cX7_far 46 = .ok (.getfield 29, 3) := by decide +kernel
theorem dX7_far_49 : decode cX7_far 49 = .ok (.iconst 5, 1) := by decide +kernel
theorem dX7_far_50 : decode cX7_far 50 = .ok (.iload_n 1, 1) := by decide +kernel
theorem dX7_far_51 : decode cX7_far 51 = .ok (.imul, 1) := by decide +kernel
theorem dX7_far_52 : decode cX7_far 52 = .ok (.iconst 1, 1) := by decide +kernel
theorem dX7_far_53 : decode cX7_far 53 = .ok (.iadd, 1) := by decide +kernel
theorem dX7_far_54 : decode cX7_far 54 = .ok (.iaload, 1) := by decide +kernel
theorem dX7_far_55 : decode cX7_far 55 = .ok (.istore 5, 2) := by decide +kernel
theorem dX7_far_57 : decode cX7_far 57 = .ok (.aload_n 0, 1) := by decide +kernel
theorem dX7_far_58 : decode cX7_far 58 = .ok (.iconst (-1), 1) := by decide +kernel
theorem dX7_far_59 : decode cX7_far 59 = .ok (.putfield 376, 3) := by decide +kernel
theorem dX7_far_62 : decode cX7_far 62 = .ok (.aload_n 0, 1) := by decide +kernel
theorem dX7_far_63 : decode cX7_far 63 = .ok (.iconst (-1), 1) := by decide +kernel
theorem dX7_far_64 : decode cX7_far 64 = .ok (.putfield 379, 3) := by decide +kernel
theorem dX7_far_67 : decode cX7_far 67 = .ok (.iconst 0, 1) := by decide +kernel
theorem dX7_far_68 : decode cX7_far 68 = .ok (.istore 6, 2) := by decide +kernel
theorem dX7_far_70 : decode cX7_far 70 = .ok (.iload 6, 2) := by decide +kernel
theorem dX7_far_72 : decode cX7_far 72 = .ok (.sipush 256, 3) := by decide +kernel
theorem dX7_far_75 : decode cX7_far 75 = .ok (.if_icmp .ge 86, 3) := by decide +kernel
theorem dX7_far_78 : decode cX7_far 78 = .ok (.iload 6, 2) := by decide +kernel
theorem dX7_far_80 : decode cX7_far 80 = .ok (.iload 5, 2) := by decide +kernel
theorem dX7_far_82 : decode cX7_far 82 = .ok (.iconst (-1), 1) := by decide +kernel
theorem dX7_far_83 : decode cX7_far 83 = .ok (.ixor, 1) := by decide +kernel
theorem dX7_far_84 : decode cX7_far 84 = .ok (.iand, 1) := by decide +kernel
theorem dX7_far_85 : decode cX7_far 85 = .ok (.ifCond .ne 70, 3) := by decide +kernel
theorem dX7_far_88 : decode cX7_far 88 = .ok (.aload_n 0, 1) := by decide +kernel
theorem dX7_far_89 : decode cX7_far 89 = .ok (.getfield 29, 3) := by decide +kernel
theorem dX7_far_92 : decode cX7_far 92 = .ok (.iconst 5, 1) := by decide +kernel
theorem dX7_far_93 : decode cX7_far 93 = .ok (.iload_n 1, 1) := by decide +kernel
theorem dX7_far_94 : decode cX7_far 94 = .ok (.imul, 1) := by decide +kernel
theorem dX7_far_95 : decode cX7_far 95 = .ok (.iconst 2, 1) := by decide +kernel
theorem dX7_far_96 : decode cX7_far 96 = .ok (.iadd, 1) := by decide +kernel
theorem dX7_far_97 : decode cX7_far 97 = .ok (.iload 6, 2) := by decide +kernel
theorem dX7_far_99 : decode cX7_far 99 = .ok (.iastore, 1) := by decide +kernel
theorem dX7_far_100 : decode cX7_far 100 = .ok (.aload_n 0, 1) := by decide +kernel
theorem dX7_far_101 : decode cX7_far 101 = .ok (.iload_n 1, 1) := by decide +kernel
theorem dX7_far_102 : decode cX7_far 102 = .ok (.iload_n 2, 1) := by decide +kernel
theorem dX7_far_103 : decode cX7_far 103 = .ok (.invokevirtual 373, 3) := by decide +kernel
theorem dX7_far_106 : decode cX7_far 106 = .ok (.istore 7, 2) := by decide +kernel
theorem dX7_far_108 : decode cX7_far 108 = .ok (.aload_n 0, 1) := by decide +kernel
theorem dX7_far_109 : decode cX7_far 109 = .ok (.getfield 376, 3) := by decide +kernel
theorem dX7_far_112 : decode cX7_far 112 = .ok (.iconst (-1), 1) := by decide +kernel
theorem dX7_far_113 : decode cX7_far 113 = .ok (.if_icmp .eq 30, 3) := by decide +kernel
theorem dX7_far_116 : decode cX7_far 116 = .ok (.iload 7, 2) := by decide +kernel
theorem dX7_far_118 : decode cX7_far 118 = .ok (.aload_n 0, 1) := by decide +kernel
theorem dX7_far_119 : decode cX7_far 119 = .ok (.getfield 379, 3) := by decide +kernel
theorem dX7_far_122 : decode cX7_far 122 = .ok (.if_icmp .gt 21, 3) := by decide +kernel
theorem dX7_far_125 : decode cX7_far 125 = .ok (.iload 7, 2) := by decide +kernel
theorem dX7_far_127 : decode cX7_far 127 = .ok (.aload_n 0, 1) := by decide +kernel
theorem dX7_far_128 : decode cX7_far 128 = .ok (.getfield 379, 3) := by decide +kernel
theorem dX7_far_131 : decode cX7_far 131 = .ok (.if_icmp .ne 24, 3) := by decide +kernel
theorem dX7_far_134 : decode cX7_far 134 = .ok (.aload_n 0, 1) := by decide +kernel
theorem dX7_far_135 : decode cX7_far 135 = .ok (.iload 6, 2) := by decide +kernel
theorem dX7_far_137 : decode cX7_far 137 = .ok (.invokevirtual 382, 3) := by decide +kernel
theorem dX7_far_140 : decode cX7_far 140 = .ok (.ifCond .eq 15, 3) := by decide +kernel
theorem dX7_far_143 : decode cX7_far 143 = .ok (.aload_n 0, 1) := by decide +kernel
theorem dX7_far_144 : decode cX7_far 144 = .ok (.iload 6, 2) := by decide +kernel
theorem dX7_far_146 : decode cX7_far 146 = .ok (.putfield 376, 3) := by decide +kernel
theorem dX7_far_149 : decode cX7_far 149 = .ok (.aload_n 0, 1) := by decide +kernel
theorem dX7_far_150 : decode cX7_far 150 = .ok (.iload 7, 2) := by decide +kernel
theorem dX7_far_152 : decode cX7_far 152 = .ok (.putfield 379, 3) := by decide +kernel
theorem dX7_far_155 : decode cX7_far 155 = .ok (.iinc 6 1, 3) := by decide +kernel
theorem dX7_far_158 : decode cX7_far 158 = .ok (.goto (-88), 3) := by decide +kernel
theorem dX7_far_161 : decode cX7_far 161 = .ok (.aload_n 0, 1) := by decide +kernel
theorem dX7_far_162 : decode cX7_far 162 = .ok (.getfield 29, 3) := by decide +kernel
theorem dX7_far_165 : decode cX7_far 165 = .ok (.iconst 5, 1) := by decide +kernel
theorem dX7_far_166 : decode cX7_far 166 = .ok (.iload_n 1, 1) := by decide +kernel
theorem dX7_far_167 : decode cX7_far 167 = .ok (.imul, 1) := by decide +kernel
theorem dX7_far_168 : decode cX7_far 168 = .ok (.iconst 2, 1) := by decide +kernel
theorem dX7_far_169 : decode cX7_far 169 = .ok (.iadd, 1) := by decide +kernel
theorem dX7_far_170 : decode cX7_far 170 = .ok (.iload 4, 2) := by decide +kernel
theorem dX7_far_172 : decode cX7_far 172 = .ok (.iastore, 1) := by decide +kernel
theorem dX7_far_173 : decode cX7_far 173 = .ok (.iload_n 3, 1) := by decide +kernel
theorem dX7_far_174 : decode cX7_far 174 = .ok (.ifCond .ne 10, 3) := by decide +kernel
theorem dX7_far_177 : decode cX7_far 177 = .ok (.aload_n 0, 1) := by decide +kernel
theorem dX7_far_178 : decode cX7_far 178 = .ok (.getfield 376, 3) := by decide +kernel
theorem dX7_far_181 : decode cX7_far 181 = .ok (.goto 7, 3) := by decide +kernel
theorem dX7_far_184 : decode cX7_far 184 = .ok (.aload_n 0, 1) := by decide +kernel
theorem dX7_far_185 : decode cX7_far 185 = .ok (.getfield 379, 3) := by decide +kernel
theorem dX7_far_188 : decode cX7_far 188 = .ok (.ireturn, 1) := by decide +kernel
theorem dX7_least_0 : decode cX7_least 0 = .ok (.aload_n 0, 1) := by decide +kernel
theorem dX7_least_1 : decode cX7_least 1 = .ok (.iload_n 1, 1) := by decide +kernel
theorem dX7_least_2 : decode cX7_least 2 = .ok (.invokevirtual 73, 3) := by decide +kernel
theorem dX7_least_5 : decode cX7_least 5 = .ok (.ifCond .eq 25, 3) := by decide +kernel
theorem dX7_least_8 : decode cX7_least 8 = .ok (.iload_n 2, 1) := by decide +kernel
theorem dX7_least_9 : decode cX7_least 9 = .ok (.i2l, 1) := by decide +kernel
theorem dX7_least_10 : decode cX7_least 10 = .ok (.lconst 0, 1) := by decide +kernel
theorem dX7_least_11 : decode cX7_least 11 = .ok (.ldc2_w 385, 3) := by decide +kernel
theorem dX7_least_14 : decode cX7_least 14 = .ok (.invokestatic 67, 3) := by decide +kernel
theorem dX7_least_17 : decode cX7_least 17 = .ok (.ifCond .eq 13, 3) := by decide +kernel
theorem dX7_least_20 : decode cX7_least 20 = .ok (.iload_n 3, 1) := by decide +kernel
theorem dX7_least_21 : decode cX7_least 21 = .ok (.i2l, 1) := by decide +kernel
theorem dX7_least_22 : decode cX7_least 22 = .ok (.lconst 0, 1) := by decide +kernel
theorem dX7_least_23 : decode cX7_least 23 = .ok (.lconst 1, 1) := by decide +kernel
theorem dX7_least_24 : decode cX7_least 24 = .ok (.invokestatic 67, 3) := by decide +kernel
theorem dX7_least_27 : decode cX7_least 27 = .ok (.ifCond .ne 6, 3) := by decide +kernel
theorem dX7_least_30 : decode cX7_least 30 = .ok (.bipush (-2), 2) := by decide +kernel
theorem dX7_least_32 : decode cX7_least 32 = .ok (.ireturn, 1) := by decide +kernel
theorem dX7_least_33 : decode cX7_least 33 = .ok (.aload_n 0, 1) := by decide +kernel
theorem dX7_least_34 : decode cX7_least 34 = .ok (.getfield 29, 3) := by decide +kernel
theorem dX7_least_37 : decode cX7_least 37 = .ok (.iconst 5, 1) := by decide +kernel
theorem dX7_least_38 : decode cX7_least 38 = .ok (.iload_n 1, 1) := by decide +kernel
theorem dX7_least_39 : decode cX7_least 39 = .ok (.imul, 1) := by decide +kernel
theorem dX7_least_40 : decode cX7_least 40 = .ok (.iconst 2, 1) := by decide +kernel
theorem dX7_least_41 : decode cX7_least 41 = .ok (.iadd, 1) := by decide +kernel
theorem dX7_least_42 : decode cX7_least 42 = .ok (.iaload, 1) := by decide +kernel
theorem dX7_least_43 : decode cX7_least 43 = .ok (.istore 4, 2) := by decide +kernel
theorem dX7_least_45 : decode cX7_least 45 = .ok (.aload_n 0, 1) := by decide +kernel
theorem dX7_least_46 : decode cX7_least 46 = .ok (.getfield 29, 3) := by decide +kernel
theorem dX7_least_49 : decode cX7_least 49 = .ok (.iconst 5, 1) := by decide +kernel
theorem dX7_least_50 : decode cX7_least 50 = .ok (.iload_n 1, 1) := by decide +kernel
theorem dX7_least_51 : decode cX7_least 51 = .ok (.imul, 1) := by decide +kernel
theorem dX7_least_52 : decode cX7_least 52 = .ok (.iconst 1, 1) := by decide +kernel
theorem dX7_least_53 : decode cX7_least 53 = .ok (.iadd, 1) := by decide +kernel
theorem dX7_least_54 : decode cX7_least 54 = .ok (.iaload, 1) := by decide +kernel
theorem dX7_least_55 : decode cX7_least 55 = .ok (.istore 5, 2) := by decide +kernel
theorem dX7_least_57 : decode cX7_least 57 = .ok (.aload_n 0, 1) := by decide +kernel
theorem dX7_least_58 : decode cX7_least 58 = .ok (.iconst (-1), 1) := by decide +kernel
theorem dX7_least_59 : decode cX7_least 59 = .ok (.putfield 376, 3) := by decide +kernel
theorem dX7_least_62 : decode cX7_least 62 = .ok (.iconst 0, 1) := by decide +kernel
theorem dX7_least_63 : decode cX7_least 63 = .ok (.istore 6, 2) := by decide +kernel
theorem dX7_least_65 : decode cX7_least 65 = .ok (.iload 6, 2) := by decide +kernel
theorem dX7_least_67 : decode cX7_least 67 = .ok (.sipush 256, 3) := by decide +kernel
theorem dX7_least_70 : decode cX7_least 70 = .ok (.if_icmp .ge 72, 3) := by decide +kernel
theorem dX7_least_73 : decode cX7_least 73 = .ok (.iload 6, 2) := by decide +kernel
theorem dX7_least_75 : decode cX7_least 75 = .ok (.iload 5, 2) := by decide +kernel
theorem dX7_least_77 : decode cX7_least 77 = .ok (.iconst (-1), 1) := by decide +kernel
theorem dX7_least_78 : decode cX7_least 78 = .ok (.ixor, 1) := by decide +kernel
theorem dX7_least_79 : decode cX7_least 79 = .ok (.iand, 1) := by decide +kernel
theorem dX7_least_80 : decode cX7_least 80 = .ok (.ifCond .ne 56, 3) := by decide +kernel
theorem dX7_least_83 : decode cX7_least 83 = .ok (.aload_n 0, 1) := by decide +kernel
theorem dX7_least_84 : decode cX7_least 84 = .ok (.getfield 376, 3) := by decide +kernel
theorem dX7_least_87 : decode cX7_least 87 = .ok (.iconst (-1), 1) := by decide +kernel
theorem dX7_least_88 : decode cX7_least 88 = .ok (.if_icmp .eq 12, 3) := by decide +kernel
theorem dX7_least_91 : decode cX7_least 91 = .ok (.aload_n 0, 1) := by decide +kernel
theorem dX7_least_92 : decode cX7_least 92 = .ok (.iload 6, 2) := by decide +kernel
theorem dX7_least_94 : decode cX7_least 94 = .ok (.invokevirtual 382, 3) := by decide +kernel
theorem dX7_least_97 : decode cX7_least 97 = .ok (.ifCond .eq 39, 3) := by decide +kernel
theorem dX7_least_100 : decode cX7_least 100 = .ok (.aload_n 0, 1) := by decide +kernel
theorem dX7_least_101 : decode cX7_least 101 = .ok (.getfield 29, 3) := by decide +kernel
theorem dX7_least_104 : decode cX7_least 104 = .ok (.iconst 5, 1) := by decide +kernel
theorem dX7_least_105 : decode cX7_least 105 = .ok (.iload_n 1, 1) := by decide +kernel
theorem dX7_least_106 : decode cX7_least 106 = .ok (.imul, 1) := by decide +kernel
theorem dX7_least_107 : decode cX7_least 107 = .ok (.iconst 2, 1) := by decide +kernel
theorem dX7_least_108 : decode cX7_least 108 = .ok (.iadd, 1) := by decide +kernel
theorem dX7_least_109 : decode cX7_least 109 = .ok (.iload 6, 2) := by decide +kernel
theorem dX7_least_111 : decode cX7_least 111 = .ok (.iastore, 1) := by decide +kernel
theorem dX7_least_112 : decode cX7_least 112 = .ok (.aload_n 0, 1) := by decide +kernel
theorem dX7_least_113 : decode cX7_least 113 = .ok (.aload_n 0, 1) := by decide +kernel
theorem dX7_least_114 : decode cX7_least 114 = .ok (.iload_n 1, 1) := by decide +kernel
theorem dX7_least_115 : decode cX7_least 115 = .ok (.bipush 40, 2) := by decide +kernel
theorem dX7_least_117 : decode cX7_least 117 = .ok (.invokevirtual 373, 3) := by decide +kernel
theorem dX7_least_120 : decode cX7_least 120 = .ok (.iload_n 2, 1) := by decide +kernel
theorem dX7_least_121 : decode cX7_least 121 = .ok (.if_icmp .lt 8, 3) := by decide +kernel
theorem dX7_least_124 : decode cX7_least 124 = .ok (.iload 6, 2) := by decide +kernel
theorem dX7_least_126 : decode cX7_least 126 = .ok (.goto 7, 3) := by decide +kernel
theorem dX7_least_129 : decode cX7_least 129 = .ok (.aload_n 0, 1) := by decide +kernel
theorem dX7_least_130 : decode cX7_least 130 = .ok (.getfield 376, 3) := by decide +kernel
theorem dX7_least_133 : decode cX7_least 133 = .ok (.putfield 376, 3) := by decide +kernel
theorem dX7_least_136 : decode cX7_least 136 = .ok (.iinc 6 1, 3) := by decide +kernel
theorem dX7_least_139 : decode cX7_least 139 = .ok (.goto (-74), 3) := by decide +kernel
theorem dX7_least_142 : decode cX7_least 142 = .ok (.aload_n 0, 1) := by decide +kernel
theorem dX7_least_143 : decode cX7_least 143 = .ok (.getfield 29, 3) := by decide +kernel
theorem dX7_least_146 : decode cX7_least 146 = .ok (.iconst 5, 1) := by decide +kernel
theorem dX7_least_147 : decode cX7_least 147 = .ok (.iload_n 1, 1) := by decide +kernel
theorem dX7_least_148 : decode cX7_least 148 = .ok (.imul, 1) := by decide +kernel
theorem dX7_least_149 : decode cX7_least 149 = .ok (.iconst 2, 1) := by decide +kernel
theorem dX7_least_150 : decode cX7_least 150 = .ok (.iadd, 1) := by decide +kernel
theorem dX7_least_151 : decode cX7_least 151 = .ok (.iload 4, 2) := by decide +kernel
theorem dX7_least_153 : decode cX7_least 153 = .ok (.iastore, 1) := by decide +kernel
theorem dX7_least_154 : decode cX7_least 154 = .ok (.aload_n 0, 1) := by decide +kernel
theorem dX7_least_155 : decode cX7_least 155 = .ok (.getfield 376, 3) := by decide +kernel
theorem dX7_least_158 : decode cX7_least 158 = .ok (.iconst (-1), 1) := by decide +kernel
theorem dX7_least_159 : decode cX7_least 159 = .ok (.if_icmp .eq 7, 3) := by decide +kernel
theorem dX7_least_162 : decode cX7_least 162 = .ok (.iload_n 3, 1) := by decide +kernel
theorem dX7_least_163 : decode cX7_least 163 = .ok (.ifCond .ne 10, 3) := by decide +kernel
theorem dX7_least_166 : decode cX7_least 166 = .ok (.aload_n 0, 1) := by decide +kernel
theorem dX7_least_167 : decode cX7_least 167 = .ok (.getfield 376, 3) := by decide +kernel
theorem dX7_least_170 : decode cX7_least 170 = .ok (.goto 11, 3) := by decide +kernel
theorem dX7_least_173 : decode cX7_least 173 = .ok (.aload_n 0, 1) := by decide +kernel
theorem dX7_least_174 : decode cX7_least 174 = .ok (.aload_n 0, 1) := by decide +kernel
theorem dX7_least_175 : decode cX7_least 175 = .ok (.getfield 376, 3) := by decide +kernel
theorem dX7_least_178 : decode cX7_least 178 = .ok (.invokevirtual 337, 3) := by decide +kernel
theorem dX7_least_181 : decode cX7_least 181 = .ok (.ireturn, 1) := by decide +kernel
theorem dX7_heaviest_0 : decode cX7_heaviest 0 = .ok (.iload_n 1, 1) := by decide +kernel
theorem dX7_heaviest_1 : decode cX7_heaviest 1 = .ok (.i2l, 1) := by decide +kernel
theorem dX7_heaviest_2 : decode cX7_heaviest 2 = .ok (.lconst 0, 1) := by decide +kernel
theorem dX7_heaviest_3 : decode cX7_heaviest 3 = .ok (.ldc2_w 71, 3) := by decide +kernel
theorem dX7_heaviest_6 : decode cX7_heaviest 6 = .ok (.invokestatic 67, 3) := by decide +kernel
theorem dX7_heaviest_9 : decode cX7_heaviest 9 = .ok (.ifCond .eq 23, 3) := by decide +kernel
theorem dX7_heaviest_12 : decode cX7_heaviest 12 = .ok (.aload_n 0, 1) := by decide +kernel
theorem dX7_heaviest_13 : decode cX7_heaviest 13 = .ok (.iload_n 2, 1) := by decide +kernel
theorem dX7_heaviest_14 : decode cX7_heaviest 14 = .ok (.invokevirtual 73, 3) := by decide +kernel
theorem dX7_heaviest_17 : decode cX7_heaviest 17 = .ok (.ifCond .eq 15, 3) := by decide +kernel
theorem dX7_heaviest_20 : decode cX7_heaviest 20 = .ok (.iload_n 3, 1) := by decide +kernel
theorem dX7_heaviest_21 : decode cX7_heaviest 21 = .ok (.i2l, 1) := by decide +kernel
theorem dX7_heaviest_22 : decode cX7_heaviest 22 = .ok (.lconst 0, 1) := by decide +kernel
theorem dX7_heaviest_23 : decode cX7_heaviest 23 = .ok (.ldc2_w 385, 3) := by decide +kernel
theorem dX7_heaviest_26 : decode cX7_heaviest 26 = .ok (.invokestatic 67, 3) := by decide +kernel
theorem dX7_heaviest_29 : decode cX7_heaviest 29 = .ok (.ifCond .ne 6, 3) := by decide +kernel
theorem dX7_heaviest_32 : decode cX7_heaviest 32 = .ok (.bipush (-2), 2) := by decide +kernel
theorem dX7_heaviest_34 : decode cX7_heaviest 34 = .ok (.ireturn, 1) := by decide +kernel
theorem dX7_heaviest_35 : decode cX7_heaviest 35 = .ok (.aload_n 0, 1) := by decide +kernel
theorem dX7_heaviest_36 : decode cX7_heaviest 36 = .ok (.getfield 23, 3) := by decide +kernel
theorem dX7_heaviest_39 : decode cX7_heaviest 39 = .ok (.iload_n 1, 1) := by decide +kernel
theorem dX7_heaviest_40 : decode cX7_heaviest 40 = .ok (.iaload, 1) := by decide +kernel
theorem dX7_heaviest_41 : decode cX7_heaviest 41 = .ok (.istore 4, 2) := by decide +kernel
theorem dX7_heaviest_43 : decode cX7_heaviest 43 = .ok (.iconst (-1), 1) := by decide +kernel
theorem dX7_heaviest_44 : decode cX7_heaviest 44 = .ok (.istore 5, 2) := by decide +kernel
theorem dX7_heaviest_46 : decode cX7_heaviest 46 = .ok (.bipush 99, 2) := by decide +kernel
theorem dX7_heaviest_48 : decode cX7_heaviest 48 = .ok (.istore 6, 2) := by decide +kernel
theorem dX7_heaviest_50 : decode cX7_heaviest 50 = .ok (.iload 6, 2) := by decide +kernel
theorem dX7_heaviest_52 : decode cX7_heaviest 52 = .ok (.ifCond .lt 42, 3) := by decide +kernel
theorem dX7_heaviest_55 : decode cX7_heaviest 55 = .ok (.iload 5, 2) := by decide +kernel
theorem dX7_heaviest_57 : decode cX7_heaviest 57 = .ok (.iconst (-1), 1) := by decide +kernel
theorem dX7_heaviest_58 : decode cX7_heaviest 58 = .ok (.if_icmp .ne 36, 3) := by decide +kernel
theorem dX7_heaviest_61 : decode cX7_heaviest 61 = .ok (.aload_n 0, 1) := by decide +kernel
theorem dX7_heaviest_62 : decode cX7_heaviest 62 = .ok (.getfield 23, 3) := by decide +kernel
theorem dX7_heaviest_65 : decode cX7_heaviest 65 = .ok (.iload_n 1, 1) := by decide +kernel
theorem dX7_heaviest_66 : decode cX7_heaviest 66 = .ok (.iload 6, 2) := by decide +kernel
theorem dX7_heaviest_68 : decode cX7_heaviest 68 = .ok (.iastore, 1) := by decide +kernel
theorem dX7_heaviest_69 : decode cX7_heaviest 69 = .ok (.aload_n 0, 1) := by decide +kernel
theorem dX7_heaviest_70 : decode cX7_heaviest 70 = .ok (.iload_n 2, 1) := by decide +kernel
theorem dX7_heaviest_71 : decode cX7_heaviest 71 = .ok (.bipush 40, 2) := by decide +kernel
theorem dX7_heaviest_73 : decode cX7_heaviest 73 = .ok (.invokevirtual 373, 3) := by decide +kernel
theorem dX7_heaviest_76 : decode cX7_heaviest 76 = .ok (.iload_n 3, 1) := by decide +kernel
theorem dX7_heaviest_77 : decode cX7_heaviest 77 = .ok (.if_icmp .lt 8, 3) := by decide +kernel
theorem dX7_heaviest_80 : decode cX7_heaviest 80 = .ok (.iload 6, 2) := by decide +kernel
theorem dX7_heaviest_82 : decode cX7_heaviest 82 = .ok (.goto 4, 3) := by decide +kernel
theorem dX7_heaviest_85 : decode cX7_heaviest 85 = .ok (.iconst (-1), 1) := by decide +kernel
theorem dX7_heaviest_86 : decode cX7_heaviest 86 = .ok (.istore 5, 2) := by decide +kernel
theorem dX7_heaviest_88 : decode cX7_heaviest 88 = .ok (.iinc 6 (-1), 3) := by decide +kernel
theorem dX7_heaviest_91 : decode cX7_heaviest 91 = .ok (.goto (-41), 3) := by decide +kernel
theorem dX7_heaviest_94 : decode cX7_heaviest 94 = .ok (.aload_n 0, 1) := by decide +kernel
theorem dX7_heaviest_95 : decode cX7_heaviest 95 = .ok (.getfield 23, 3) := by decide +kernel
theorem dX7_heaviest_98 : decode cX7_heaviest 98 = .ok (.iload_n 1, 1) := by decide +kernel
theorem dX7_heaviest_99 : decode cX7_heaviest 99 = .ok (.iload 4, 2) := by decide +kernel
theorem dX7_heaviest_101 : decode cX7_heaviest 101 = .ok (.iastore, 1) := by decide +kernel
theorem dX7_heaviest_102 : decode cX7_heaviest 102 = .ok (.iload 5, 2) := by decide +kernel
theorem dX7_heaviest_104 : decode cX7_heaviest 104 = .ok (.ireturn, 1) := by decide +kernel
theorem dX7_daysTill_0 : decode cX7_daysTill 0 = .ok (.aload_n 0, 1) := by decide +kernel
theorem dX7_daysTill_1 : decode cX7_daysTill 1 = .ok (.iload_n 1, 1) := by decide +kernel
theorem dX7_daysTill_2 : decode cX7_daysTill 2 = .ok (.invokevirtual 109, 3) := by decide +kernel
theorem dX7_daysTill_5 : decode cX7_daysTill 5 = .ok (.iconst 0, 1) := by decide +kernel
theorem dX7_daysTill_6 : decode cX7_daysTill 6 = .ok (.istore_n 3, 1) := by decide +kernel
theorem dX7_daysTill_7 : decode cX7_daysTill 7 = .ok (.iload_n 3, 1) := by decide +kernel
theorem dX7_daysTill_8 : decode cX7_daysTill 8 = .ok (.bipush 40, 2) := by decide +kernel
theorem dX7_daysTill_10 : decode cX7_daysTill 10 = .ok (.if_icmp .gt 23, 3) := by decide +kernel
theorem dX7_daysTill_13 : decode cX7_daysTill 13 = .ok (.aload_n 0, 1) := by decide +kernel
theorem dX7_daysTill_14 : decode cX7_daysTill 14 = .ok (.getfield 340, 3) := by decide +kernel
theorem dX7_daysTill_17 : decode cX7_daysTill 17 = .ok (.iload_n 2, 1) := by decide +kernel
theorem dX7_daysTill_18 : decode cX7_daysTill 18 = .ok (.if_icmp .ge 15, 3) := by decide +kernel
theorem dX7_daysTill_21 : decode cX7_daysTill 21 = .ok (.aload_n 0, 1) := by decide +kernel
theorem dX7_daysTill_22 : decode cX7_daysTill 22 = .ok (.iload_n 1, 1) := by decide +kernel
theorem dX7_daysTill_23 : decode cX7_daysTill 23 = .ok (.invokevirtual 359, 3) := by decide +kernel
theorem dX7_daysTill_26 : decode cX7_daysTill 26 = .ok (.pop, 1) := by decide +kernel
theorem dX7_daysTill_27 : decode cX7_daysTill 27 = .ok (.iinc 3 1, 3) := by decide +kernel
theorem dX7_daysTill_30 : decode cX7_daysTill 30 = .ok (.goto (-23), 3) := by decide +kernel
theorem dX7_daysTill_33 : decode cX7_daysTill 33 = .ok (.iload_n 3, 1) := by decide +kernel
theorem dX7_daysTill_34 : decode cX7_daysTill 34 = .ok (.bipush 40, 2) := by decide +kernel
theorem dX7_daysTill_36 : decode cX7_daysTill 36 = .ok (.if_icmp .le 7, 3) := by decide +kernel
theorem dX7_daysTill_39 : decode cX7_daysTill 39 = .ok (.iconst (-1), 1) := by decide +kernel
theorem dX7_daysTill_40 : decode cX7_daysTill 40 = .ok (.goto 4, 3) := by decide +kernel
theorem dX7_daysTill_43 : decode cX7_daysTill 43 = .ok (.iload_n 3, 1) := by decide +kernel
theorem dX7_daysTill_44 : decode cX7_daysTill 44 = .ok (.ireturn, 1) := by decide +kernel
theorem dX7_away_0 : decode cX7_away 0 = .ok (.iload_n 1, 1) := by decide +kernel
theorem dX7_away_1 : decode cX7_away 1 = .ok (.i2l, 1) := by decide +kernel
theorem dX7_away_2 : decode cX7_away 2 = .ok (.lconst 0, 1) := by decide +kernel
theorem dX7_away_3 : decode cX7_away 3 = .ok (.ldc2_w 385, 3) := by decide +kernel
theorem dX7_away_6 : decode cX7_away 6 = .ok (.invokestatic 67, 3) := by decide +kernel
theorem dX7_away_9 : decode cX7_away 9 = .ok (.ifCond .eq 13, 3) := by decide +kernel
theorem dX7_away_12 : decode cX7_away 12 = .ok (.iload_n 2, 1) := by decide +kernel
theorem dX7_away_13 : decode cX7_away 13 = .ok (.i2l, 1) := by decide +kernel
theorem dX7_away_14 : decode cX7_away 14 = .ok (.lconst 0, 1) := by decide +kernel
theorem dX7_away_15 : decode cX7_away 15 = .ok (.lconst 1, 1) := by decide +kernel
theorem dX7_away_16 : decode cX7_away 16 = .ok (.invokestatic 67, 3) := by decide +kernel
theorem dX7_away_19 : decode cX7_away 19 = .ok (.ifCond .ne 6, 3) := by decide +kernel
theorem dX7_away_22 : decode cX7_away 22 = .ok (.bipush (-2), 2) := by decide +kernel
theorem dX7_away_24 : decode cX7_away 24 = .ok (.ireturn, 1) := by decide +kernel
theorem dX7_away_25 : decode cX7_away 25 = .ok (.aload_n 0, 1) := by decide +kernel
theorem dX7_away_26 : decode cX7_away 26 = .ok (.iconst (-1), 1) := by decide +kernel
theorem dX7_away_27 : decode cX7_away 27 = .ok (.putfield 376, 3) := by decide +kernel
theorem dX7_away_30 : decode cX7_away 30 = .ok (.aload_n 0, 1) := by decide +kernel
theorem dX7_away_31 : decode cX7_away 31 = .ok (.iconst (-1), 1) := by decide +kernel
theorem dX7_away_32 : decode cX7_away 32 = .ok (.putfield 379, 3) := by decide +kernel
theorem dX7_away_35 : decode cX7_away 35 = .ok (.iconst 0, 1) := by decide +kernel
theorem dX7_away_36 : decode cX7_away 36 = .ok (.istore_n 3, 1) := by decide +kernel
theorem dX7_away_37 : decode cX7_away 37 = .ok (.iload_n 3, 1) := by decide +kernel
theorem dX7_away_38 : decode cX7_away 38 = .ok (.aload_n 0, 1) := by decide +kernel
theorem dX7_away_39 : decode cX7_away 39 = .ok (.getfield 64, 3) := by decide +kernel
theorem dX7_away_42 : decode cX7_away 42 = .ok (.if_icmp .ge 51, 3) := by decide +kernel
theorem dX7_away_45 : decode cX7_away 45 = .ok (.aload_n 0, 1) := by decide +kernel
theorem dX7_away_46 : decode cX7_away 46 = .ok (.iload_n 3, 1) := by decide +kernel
theorem dX7_away_47 : decode cX7_away 47 = .ok (.iload_n 1, 1) := by decide +kernel
theorem dX7_away_48 : decode cX7_away 48 = .ok (.invokevirtual 387, 3) := by decide +kernel
theorem dX7_away_51 : decode cX7_away 51 = .ok (.istore 4, 2) := by decide +kernel
theorem dX7_away_53 : decode cX7_away 53 = .ok (.iload 4, 2) := by decide +kernel
theorem dX7_away_55 : decode cX7_away 55 = .ok (.iconst (-1), 1) := by decide +kernel
theorem dX7_away_56 : decode cX7_away 56 = .ok (.if_icmp .eq 31, 3) := by decide +kernel
theorem dX7_away_59 : decode cX7_away 59 = .ok (.aload_n 0, 1) := by decide +kernel
theorem dX7_away_60 : decode cX7_away 60 = .ok (.getfield 376, 3) := by decide +kernel
theorem dX7_away_63 : decode cX7_away 63 = .ok (.iconst (-1), 1) := by decide +kernel
theorem dX7_away_64 : decode cX7_away 64 = .ok (.if_icmp .eq 12, 3) := by decide +kernel
theorem dX7_away_67 : decode cX7_away 67 = .ok (.iload 4, 2) := by decide +kernel
theorem dX7_away_69 : decode cX7_away 69 = .ok (.aload_n 0, 1) := by decide +kernel
theorem dX7_away_70 : decode cX7_away 70 = .ok (.getfield 379, 3) := by decide +kernel
theorem dX7_away_73 : decode cX7_away 73 = .ok (.if_icmp .ge 14, 3) := by decide +kernel
theorem dX7_away_76 : decode cX7_away 76 = .ok (.aload_n 0, 1) := by decide +kernel
theorem dX7_away_77 : decode cX7_away 77 = .ok (.iload_n 3, 1) := by decide +kernel
theorem dX7_away_78 : decode cX7_away 78 = .ok (.putfield 376, 3) := by decide +kernel
theorem dX7_away_81 : decode cX7_away 81 = .ok (.aload_n 0, 1) := by decide +kernel
theorem dX7_away_82 : decode cX7_away 82 = .ok (.iload 4, 2) := by decide +kernel
theorem dX7_away_84 : decode cX7_away 84 = .ok (.putfield 379, 3) := by decide +kernel
theorem dX7_away_87 : decode cX7_away 87 = .ok (.iinc 3 1, 3) := by decide +kernel
theorem dX7_away_90 : decode cX7_away 90 = .ok (.goto (-53), 3) := by decide +kernel
theorem dX7_away_93 : decode cX7_away 93 = .ok (.iload_n 2, 1) := by decide +kernel
theorem dX7_away_94 : decode cX7_away 94 = .ok (.ifCond .ne 10, 3) := by decide +kernel
theorem dX7_away_97 : decode cX7_away 97 = .ok (.aload_n 0, 1) := by decide +kernel
theorem dX7_away_98 : decode cX7_away 98 = .ok (.getfield 376, 3) := by decide +kernel
theorem dX7_away_101 : decode cX7_away 101 = .ok (.goto 7, 3) := by decide +kernel
theorem dX7_away_104 : decode cX7_away 104 = .ok (.aload_n 0, 1) := by decide +kernel
theorem dX7_away_105 : decode cX7_away 105 = .ok (.getfield 379, 3) := by decide +kernel
theorem dX7_away_108 : decode cX7_away 108 = .ok (.ireturn, 1) := by decide +kernel
theorem dX7_keeper_0 : decode cX7_keeper 0 = .ok (.iload_n 1, 1) := by decide +kernel
theorem dX7_keeper_1 : decode cX7_keeper 1 = .ok (.i2l, 1) := by decide +kernel
theorem dX7_keeper_2 : decode cX7_keeper 2 = .ok (.lconst 0, 1) := by decide +kernel
theorem dX7_keeper_3 : decode cX7_keeper 3 = .ok (.ldc2_w 365, 3) := by decide +kernel
theorem dX7_keeper_6 : decode cX7_keeper 6 = .ok (.invokestatic 67, 3) := by decide +kernel
theorem dX7_keeper_9 : decode cX7_keeper 9 = .ok (.ifCond .eq 13, 3) := by decide +kernel
theorem dX7_keeper_12 : decode cX7_keeper 12 = .ok (.iload_n 2, 1) := by decide +kernel
theorem dX7_keeper_13 : decode cX7_keeper 13 = .ok (.i2l, 1) := by decide +kernel
theorem dX7_keeper_14 : decode cX7_keeper 14 = .ok (.lconst 0, 1) := by decide +kernel
theorem dX7_keeper_15 : decode cX7_keeper 15 = .ok (.lconst 1, 1) := by decide +kernel
theorem dX7_keeper_16 : decode cX7_keeper 16 = .ok (.invokestatic 67, 3) := by decide +kernel
theorem dX7_keeper_19 : decode cX7_keeper 19 = .ok (.ifCond .ne 6, 3) := by decide +kernel
theorem dX7_keeper_22 : decode cX7_keeper 22 = .ok (.bipush (-2), 2) := by decide +kernel
theorem dX7_keeper_24 : decode cX7_keeper 24 = .ok (.ireturn, 1) := by decide +kernel
theorem dX7_keeper_25 : decode cX7_keeper 25 = .ok (.aload_n 0, 1) := by decide +kernel
theorem dX7_keeper_26 : decode cX7_keeper 26 = .ok (.iconst (-1), 1) := by decide +kernel
theorem dX7_keeper_27 : decode cX7_keeper 27 = .ok (.putfield 376, 3) := by decide +kernel
theorem dX7_keeper_30 : decode cX7_keeper 30 = .ok (.aload_n 0, 1) := by decide +kernel
theorem dX7_keeper_31 : decode cX7_keeper 31 = .ok (.aload_n 0, 1) := by decide +kernel
theorem dX7_keeper_32 : decode cX7_keeper 32 = .ok (.iload_n 1, 1) := by decide +kernel
theorem dX7_keeper_33 : decode cX7_keeper 33 = .ok (.invokevirtual 390, 3) := by decide +kernel
theorem dX7_keeper_36 : decode cX7_keeper 36 = .ok (.putfield 379, 3) := by decide +kernel
theorem dX7_keeper_39 : decode cX7_keeper 39 = .ok (.iconst 0, 1) := by decide +kernel
theorem dX7_keeper_40 : decode cX7_keeper 40 = .ok (.istore_n 3, 1) := by decide +kernel
theorem dX7_keeper_41 : decode cX7_keeper 41 = .ok (.iload_n 3, 1) := by decide +kernel
theorem dX7_keeper_42 : decode cX7_keeper 42 = .ok (.bipush 8, 2) := by decide +kernel
theorem dX7_keeper_44 : decode cX7_keeper 44 = .ok (.if_icmp .ge 59, 3) := by decide +kernel
theorem dX7_keeper_47 : decode cX7_keeper 47 = .ok (.aload_n 0, 1) := by decide +kernel
theorem dX7_keeper_48 : decode cX7_keeper 48 = .ok (.getfield 23, 3) := by decide +kernel
theorem dX7_keeper_51 : decode cX7_keeper 51 = .ok (.iload_n 3, 1) := by decide +kernel
theorem dX7_keeper_52 : decode cX7_keeper 52 = .ok (.iaload, 1) := by decide +kernel
theorem dX7_keeper_53 : decode cX7_keeper 53 = .ok (.istore 4, 2) := by decide +kernel
theorem dX7_keeper_55 : decode cX7_keeper 55 = .ok (.aload_n 0, 1) := by decide +kernel
theorem dX7_keeper_56 : decode cX7_keeper 56 = .ok (.getfield 23, 3) := by decide +kernel
theorem dX7_keeper_59 : decode cX7_keeper 59 = .ok (.iload_n 3, 1) := by decide +kernel
theorem dX7_keeper_60 : decode cX7_keeper 60 = .ok (.iconst 0, 1) := by decide +kernel
theorem dX7_keeper_61 : decode cX7_keeper 61 = .ok (.iastore, 1) := by decide +kernel
theorem dX7_keeper_62 : decode cX7_keeper 62 = .ok (.aload_n 0, 1) := by decide +kernel
theorem dX7_keeper_63 : decode cX7_keeper 63 = .ok (.iload_n 1, 1) := by decide +kernel
theorem dX7_keeper_64 : decode cX7_keeper 64 = .ok (.invokevirtual 390, 3) := by decide +kernel
theorem dX7_keeper_67 : decode cX7_keeper 67 = .ok (.istore 5, 2) := by decide +kernel
theorem dX7_keeper_69 : decode cX7_keeper 69 = .ok (.aload_n 0, 1) := by decide +kernel
theorem dX7_keeper_70 : decode cX7_keeper 70 = .ok (.getfield 23, 3) := by decide +kernel
theorem dX7_keeper_73 : decode cX7_keeper 73 = .ok (.iload_n 3, 1) := by decide +kernel
theorem dX7_keeper_74 : decode cX7_keeper 74 = .ok (.iload 4, 2) := by decide +kernel
theorem dX7_keeper_76 : decode cX7_keeper 76 = .ok (.iastore, 1) := by decide +kernel
theorem dX7_keeper_77 : decode cX7_keeper 77 = .ok (.iload 5, 2) := by decide +kernel
theorem dX7_keeper_79 : decode cX7_keeper 79 = .ok (.aload_n 0, 1) := by decide +kernel
theorem dX7_keeper_80 : decode cX7_keeper 80 = .ok (.getfield 379, 3) := by decide +kernel
theorem dX7_keeper_83 : decode cX7_keeper 83 = .ok (.if_icmp .le 14, 3) := by decide +kernel
theorem dX7_keeper_86 : decode cX7_keeper 86 = .ok (.aload_n 0, 1) := by decide +kernel
theorem dX7_keeper_87 : decode cX7_keeper 87 = .ok (.iload_n 3, 1) := by decide +kernel
theorem dX7_keeper_88 : decode cX7_keeper 88 = .ok (.putfield 376, 3) := by decide +kernel
theorem dX7_keeper_91 : decode cX7_keeper 91 = .ok (.aload_n 0, 1) := by decide +kernel
theorem dX7_keeper_92 : decode cX7_keeper 92 = .ok (.iload 5, 2) := by decide +kernel
theorem dX7_keeper_94 : decode cX7_keeper 94 = .ok (.putfield 379, 3) := by decide +kernel
theorem dX7_keeper_97 : decode cX7_keeper 97 = .ok (.iinc 3 1, 3) := by decide +kernel
theorem dX7_keeper_100 : decode cX7_keeper 100 = .ok (.goto (-59), 3) := by decide +kernel
theorem dX7_keeper_103 : decode cX7_keeper 103 = .ok (.iload_n 2, 1) := by decide +kernel
theorem dX7_keeper_104 : decode cX7_keeper 104 = .ok (.ifCond .ne 10, 3) := by decide +kernel
theorem dX7_keeper_107 : decode cX7_keeper 107 = .ok (.aload_n 0, 1) := by decide +kernel
theorem dX7_keeper_108 : decode cX7_keeper 108 = .ok (.getfield 376, 3) := by decide +kernel
theorem dX7_keeper_111 : decode cX7_keeper 111 = .ok (.goto 7, 3) := by decide +kernel
theorem dX7_keeper_114 : decode cX7_keeper 114 = .ok (.aload_n 0, 1) := by decide +kernel
theorem dX7_keeper_115 : decode cX7_keeper 115 = .ok (.getfield 379, 3) := by decide +kernel
theorem dX7_keeper_118 : decode cX7_keeper 118 = .ok (.ireturn, 1) := by decide +kernel
theorem dX7_spare_0 : decode cX7_spare 0 = .ok (.aload_n 0, 1) := by decide +kernel
theorem dX7_spare_1 : decode cX7_spare 1 = .ok (.iload_n 1, 1) := by decide +kernel
theorem dX7_spare_2 : decode cX7_spare 2 = .ok (.invokevirtual 73, 3) := by decide +kernel
theorem dX7_spare_5 : decode cX7_spare 5 = .ok (.ifCond .eq 15, 3) := by decide +kernel
theorem dX7_spare_8 : decode cX7_spare 8 = .ok (.iload_n 2, 1) := by decide +kernel
theorem dX7_spare_9 : decode cX7_spare 9 = .ok (.i2l, 1) := by decide +kernel
theorem dX7_spare_10 : decode cX7_spare 10 = .ok (.lconst 0, 1) := by decide +kernel
theorem dX7_spare_11 : decode cX7_spare 11 = .ok (.ldc2_w 365, 3) := by decide +kernel
theorem dX7_spare_14 : decode cX7_spare 14 = .ok (.invokestatic 67, 3) := by decide +kernel
theorem dX7_spare_17 : decode cX7_spare 17 = .ok (.ifCond .ne 6, 3) := by decide +kernel
theorem dX7_spare_20 : decode cX7_spare 20 = .ok (.bipush (-2), 2) := by decide +kernel
theorem dX7_spare_22 : decode cX7_spare 22 = .ok (.ireturn, 1) := by decide +kernel
theorem dX7_spare_23 : decode cX7_spare 23 = .ok (.aload_n 0, 1) := by decide +kernel
theorem dX7_spare_24 : decode cX7_spare 24 = .ok (.getfield 29, 3) := by decide +kernel
theorem dX7_spare_27 : decode cX7_spare 27 = .ok (.iconst 5, 1) := by decide +kernel
theorem dX7_spare_28 : decode cX7_spare 28 = .ok (.iload_n 1, 1) := by decide +kernel
theorem dX7_spare_29 : decode cX7_spare 29 = .ok (.imul, 1) := by decide +kernel
theorem dX7_spare_30 : decode cX7_spare 30 = .ok (.iconst 2, 1) := by decide +kernel
theorem dX7_spare_31 : decode cX7_spare 31 = .ok (.iadd, 1) := by decide +kernel
theorem dX7_spare_32 : decode cX7_spare 32 = .ok (.iaload, 1) := by decide +kernel
theorem dX7_spare_33 : decode cX7_spare 33 = .ok (.istore_n 3, 1) := by decide +kernel
theorem dX7_spare_34 : decode cX7_spare 34 = .ok (.aload_n 0, 1) := by decide +kernel
theorem dX7_spare_35 : decode cX7_spare 35 = .ok (.iload_n 1, 1) := by decide +kernel
theorem dX7_spare_36 : decode cX7_spare 36 = .ok (.iload_n 2, 1) := by decide +kernel
theorem dX7_spare_37 : decode cX7_spare 37 = .ok (.invokevirtual 373, 3) := by decide +kernel
theorem dX7_spare_40 : decode cX7_spare 40 = .ok (.istore 4, 2) := by decide +kernel
theorem dX7_spare_42 : decode cX7_spare 42 = .ok (.iconst 0, 1) := by decide +kernel
theorem dX7_spare_43 : decode cX7_spare 43 = .ok (.istore 5, 2) := by decide +kernel
theorem dX7_spare_45 : decode cX7_spare 45 = .ok (.iconst 0, 1) := by decide +kernel
theorem dX7_spare_46 : decode cX7_spare 46 = .ok (.istore 6, 2) := by decide +kernel
theorem dX7_spare_48 : decode cX7_spare 48 = .ok (.iload 6, 2) := by decide +kernel
theorem dX7_spare_50 : decode cX7_spare 50 = .ok (.bipush 8, 2) := by decide +kernel
theorem dX7_spare_52 : decode cX7_spare 52 = .ok (.if_icmp .ge 71, 3) := by decide +kernel
theorem dX7_spare_55 : decode cX7_spare 55 = .ok (.iload_n 3, 1) := by decide +kernel
theorem dX7_spare_56 : decode cX7_spare 56 = .ok (.aload_n 0, 1) := by decide +kernel
theorem dX7_spare_57 : decode cX7_spare 57 = .ok (.getfield 29, 3) := by decide +kernel
theorem dX7_spare_60 : decode cX7_spare 60 = .ok (.iconst 5, 1) := by decide +kernel
theorem dX7_spare_61 : decode cX7_spare 61 = .ok (.iload_n 1, 1) := by decide +kernel
theorem dX7_spare_62 : decode cX7_spare 62 = .ok (.imul, 1) := by decide +kernel
theorem dX7_spare_63 : decode cX7_spare 63 = .ok (.iconst 1, 1) := by decide +kernel
theorem dX7_spare_64 : decode cX7_spare 64 = .ok (.iadd, 1) := by decide +kernel
theorem dX7_spare_65 : decode cX7_spare 65 = .ok (.iaload, 1) := by decide +kernel
theorem dX7_spare_66 : decode cX7_spare 66 = .ok (.iand, 1) := by decide +kernel
theorem dX7_spare_67 : decode cX7_spare 67 = .ok (.iconst 1, 1) := by decide +kernel
theorem dX7_spare_68 : decode cX7_spare 68 = .ok (.iload 6, 2) := by decide +kernel
theorem dX7_spare_70 : decode cX7_spare 70 = .ok (.ishl, 1) := by decide +kernel
theorem dX7_spare_71 : decode cX7_spare 71 = .ok (.iand, 1) := by decide +kernel
theorem dX7_spare_72 : decode cX7_spare 72 = .ok (.ifCond .eq 45, 3) := by decide +kernel
theorem dX7_spare_75 : decode cX7_spare 75 = .ok (.aload_n 0, 1) := by decide +kernel
theorem dX7_spare_76 : decode cX7_spare 76 = .ok (.getfield 29, 3) := by decide +kernel
theorem dX7_spare_79 : decode cX7_spare 79 = .ok (.iconst 5, 1) := by decide +kernel
theorem dX7_spare_80 : decode cX7_spare 80 = .ok (.iload_n 1, 1) := by decide +kernel
theorem dX7_spare_81 : decode cX7_spare 81 = .ok (.imul, 1) := by decide +kernel
theorem dX7_spare_82 : decode cX7_spare 82 = .ok (.iconst 2, 1) := by decide +kernel
theorem dX7_spare_83 : decode cX7_spare 83 = .ok (.iadd, 1) := by decide +kernel
theorem dX7_spare_84 : decode cX7_spare 84 = .ok (.iload_n 3, 1) := by decide +kernel
theorem dX7_spare_85 : decode cX7_spare 85 = .ok (.iconst 1, 1) := by decide +kernel
theorem dX7_spare_86 : decode cX7_spare 86 = .ok (.iload 6, 2) := by decide +kernel
theorem dX7_spare_88 : decode cX7_spare 88 = .ok (.ishl, 1) := by decide +kernel
theorem dX7_spare_89 : decode cX7_spare 89 = .ok (.iconst (-1), 1) := by decide +kernel
theorem dX7_spare_90 : decode cX7_spare 90 = .ok (.ixor, 1) := by decide +kernel
theorem dX7_spare_91 : decode cX7_spare 91 = .ok (.iand, 1) := by decide +kernel
theorem dX7_spare_92 : decode cX7_spare 92 = .ok (.iastore, 1) := by decide +kernel
theorem dX7_spare_93 : decode cX7_spare 93 = .ok (.iload 5, 2) := by decide +kernel
theorem dX7_spare_95 : decode cX7_spare 95 = .ok (.aload_n 0, 1) := by decide +kernel
theorem dX7_spare_96 : decode cX7_spare 96 = .ok (.iload_n 1, 1) := by decide +kernel
theorem dX7_spare_97 : decode cX7_spare 97 = .ok (.iload_n 2, 1) := by decide +kernel
theorem dX7_spare_98 : decode cX7_spare 98 = .ok (.invokevirtual 373, 3) := by decide +kernel
theorem dX7_spare_101 : decode cX7_spare 101 = .ok (.iload 4, 2) := by decide +kernel
theorem dX7_spare_103 : decode cX7_spare 103 = .ok (.if_icmp .lt 10, 3) := by decide +kernel
theorem dX7_spare_106 : decode cX7_spare 106 = .ok (.iconst 1, 1) := by decide +kernel
theorem dX7_spare_107 : decode cX7_spare 107 = .ok (.iload 6, 2) := by decide +kernel
theorem dX7_spare_109 : decode cX7_spare 109 = .ok (.ishl, 1) := by decide +kernel
theorem dX7_spare_110 : decode cX7_spare 110 = .ok (.goto 4, 3) := by decide +kernel
theorem dX7_spare_113 : decode cX7_spare 113 = .ok (.iconst 0, 1) := by decide +kernel
theorem dX7_spare_114 : decode cX7_spare 114 = .ok (.ior, 1) := by decide +kernel
theorem dX7_spare_115 : decode cX7_spare 115 = .ok (.istore 5, 2) := by decide +kernel
theorem dX7_spare_117 : decode cX7_spare 117 = .ok (.iinc 6 1, 3) := by decide +kernel
theorem dX7_spare_120 : decode cX7_spare 120 = .ok (.goto (-72), 3) := by decide +kernel
theorem dX7_spare_123 : decode cX7_spare 123 = .ok (.aload_n 0, 1) := by decide +kernel
theorem dX7_spare_124 : decode cX7_spare 124 = .ok (.getfield 29, 3) := by decide +kernel
theorem dX7_spare_127 : decode cX7_spare 127 = .ok (.iconst 5, 1) := by decide +kernel
theorem dX7_spare_128 : decode cX7_spare 128 = .ok (.iload_n 1, 1) := by decide +kernel
theorem dX7_spare_129 : decode cX7_spare 129 = .ok (.imul, 1) := by decide +kernel
theorem dX7_spare_130 : decode cX7_spare 130 = .ok (.iconst 2, 1) := by decide +kernel
theorem dX7_spare_131 : decode cX7_spare 131 = .ok (.iadd, 1) := by decide +kernel
theorem dX7_spare_132 : decode cX7_spare 132 = .ok (.iload_n 3, 1) := by decide +kernel
theorem dX7_spare_133 : decode cX7_spare 133 = .ok (.iastore, 1) := by decide +kernel
theorem dX7_spare_134 : decode cX7_spare 134 = .ok (.iload 5, 2) := by decide +kernel
theorem dX7_spare_136 : decode cX7_spare 136 = .ok (.ireturn, 1) := by decide +kernel
theorem dX7_firstOther_0 : decode cX7_firstOther 0 = .ok (.aload_n 0, 1) := by decide +kernel
theorem dX7_firstOther_1 : decode cX7_firstOther 1 = .ok (.iload_n 2, 1) := by decide +kernel
theorem dX7_firstOther_2 : decode cX7_firstOther 2 = .ok (.invokevirtual 109, 3) := by decide +kernel
theorem dX7_firstOther_5 : decode cX7_firstOther 5 = .ok (.iconst 0, 1) := by decide +kernel
theorem dX7_firstOther_6 : decode cX7_firstOther 6 = .ok (.istore_n 3, 1) := by decide +kernel
theorem dX7_firstOther_7 : decode cX7_firstOther 7 = .ok (.iload_n 3, 1) := by decide +kernel
theorem dX7_firstOther_8 : decode cX7_firstOther 8 = .ok (.aload_n 0, 1) := by decide +kernel
theorem dX7_firstOther_9 : decode cX7_firstOther 9 = .ok (.getfield 51, 3) := by decide +kernel
theorem dX7_firstOther_12 : decode cX7_firstOther 12 = .ok (.iload_n 1, 1) := by decide +kernel
theorem dX7_firstOther_13 : decode cX7_firstOther 13 = .ok (.iaload, 1) := by decide +kernel
theorem dX7_firstOther_14 : decode cX7_firstOther 14 = .ok (.if_icmp .ge 35, 3) := by decide +kernel
theorem dX7_firstOther_17 : decode cX7_firstOther 17 = .ok (.aload_n 0, 1) := by decide +kernel
theorem dX7_firstOther_18 : decode cX7_firstOther 18 = .ok (.iload_n 2, 1) := by decide +kernel
theorem dX7_firstOther_19 : decode cX7_firstOther 19 = .ok (.invokevirtual 359, 3) := by decide +kernel
theorem dX7_firstOther_22 : decode cX7_firstOther 22 = .ok (.pop, 1) := by decide +kernel
theorem dX7_firstOther_23 : decode cX7_firstOther 23 = .ok (.aload_n 0, 1) := by decide +kernel
theorem dX7_firstOther_24 : decode cX7_firstOther 24 = .ok (.getfield 340, 3) := by decide +kernel
theorem dX7_firstOther_27 : decode cX7_firstOther 27 = .ok (.aload_n 0, 1) := by decide +kernel
theorem dX7_firstOther_28 : decode cX7_firstOther 28 = .ok (.getfield 54, 3) := by decide +kernel
theorem dX7_firstOther_31 : decode cX7_firstOther 31 = .ok (.bipush 40, 2) := by decide +kernel
theorem dX7_firstOther_33 : decode cX7_firstOther 33 = .ok (.iload_n 1, 1) := by decide +kernel
theorem dX7_firstOther_34 : decode cX7_firstOther 34 = .ok (.imul, 1) := by decide +kernel
theorem dX7_firstOther_35 : decode cX7_firstOther 35 = .ok (.iload_n 3, 1) := by decide +kernel
theorem dX7_firstOther_36 : decode cX7_firstOther 36 = .ok (.iadd, 1) := by decide +kernel
theorem dX7_firstOther_37 : decode cX7_firstOther 37 = .ok (.iaload, 1) := by decide +kernel
theorem dX7_firstOther_38 : decode cX7_firstOther 38 = .ok (.if_icmp .eq 5, 3) := by decide +kernel
theorem dX7_firstOther_41 : decode cX7_firstOther 41 = .ok (.iload_n 3, 1) := by decide +kernel
theorem dX7_firstOther_42 : decode cX7_firstOther 42 = .ok (.ireturn, 1) := by decide +kernel
theorem dX7_firstOther_43 : decode cX7_firstOther 43 = .ok (.iinc 3 1, 3) := by decide +kernel
theorem dX7_firstOther_46 : decode cX7_firstOther 46 = .ok (.goto (-39), 3) := by decide +kernel
theorem dX7_firstOther_49 : decode cX7_firstOther 49 = .ok (.iconst (-1), 1) := by decide +kernel
theorem dX7_firstOther_50 : decode cX7_firstOther 50 = .ok (.ireturn, 1) := by decide +kernel
theorem dX7_tells_0 : decode cX7_tells 0 = .ok (.iload_n 1, 1) := by decide +kernel
theorem dX7_tells_1 : decode cX7_tells 1 = .ok (.invokestatic 393, 3) := by decide +kernel
theorem dX7_tells_4 : decode cX7_tells 4 = .ok (.ifCond .eq 23, 3) := by decide +kernel
theorem dX7_tells_7 : decode cX7_tells 7 = .ok (.aload_n 0, 1) := by decide +kernel
theorem dX7_tells_8 : decode cX7_tells 8 = .ok (.iload_n 2, 1) := by decide +kernel
theorem dX7_tells_9 : decode cX7_tells 9 = .ok (.invokevirtual 73, 3) := by decide +kernel
theorem dX7_tells_12 : decode cX7_tells 12 = .ok (.ifCond .eq 15, 3) := by decide +kernel
theorem dX7_tells_15 : decode cX7_tells 15 = .ok (.iload_n 3, 1) := by decide +kernel
theorem dX7_tells_16 : decode cX7_tells 16 = .ok (.i2l, 1) := by decide +kernel
theorem dX7_tells_17 : decode cX7_tells 17 = .ok (.lconst 0, 1) := by decide +kernel
theorem dX7_tells_18 : decode cX7_tells 18 = .ok (.ldc2_w 71, 3) := by decide +kernel
theorem dX7_tells_21 : decode cX7_tells 21 = .ok (.invokestatic 67, 3) := by decide +kernel
theorem dX7_tells_24 : decode cX7_tells 24 = .ok (.ifCond .ne 6, 3) := by decide +kernel
theorem dX7_tells_27 : decode cX7_tells 27 = .ok (.bipush (-2), 2) := by decide +kernel
theorem dX7_tells_29 : decode cX7_tells 29 = .ok (.ireturn, 1) := by decide +kernel
theorem dX7_tells_30 : decode cX7_tells 30 = .ok (.aload_n 0, 1) := by decide +kernel
theorem dX7_tells_31 : decode cX7_tells 31 = .ok (.getfield 44, 3) := by decide +kernel
theorem dX7_tells_34 : decode cX7_tells 34 = .ok (.iload_n 1, 1) := by decide +kernel
theorem dX7_tells_35 : decode cX7_tells 35 = .ok (.baload, 1) := by decide +kernel
theorem dX7_tells_36 : decode cX7_tells 36 = .ok (.ifCond .ne 6, 3) := by decide +kernel
theorem dX7_tells_39 : decode cX7_tells 39 = .ok (.bipush (-11), 2) := by decide +kernel
theorem dX7_tells_41 : decode cX7_tells 41 = .ok (.ireturn, 1) := by decide +kernel
theorem dX7_tells_42 : decode cX7_tells 42 = .ok (.iload_n 3, 1) := by decide +kernel
theorem dX7_tells_43 : decode cX7_tells 43 = .ok (.ifCond .ne 10, 3) := by decide +kernel
theorem dX7_tells_46 : decode cX7_tells 46 = .ok (.aload_n 0, 1) := by decide +kernel
theorem dX7_tells_47 : decode cX7_tells 47 = .ok (.iload_n 1, 1) := by decide +kernel
theorem dX7_tells_48 : decode cX7_tells 48 = .ok (.iload_n 2, 1) := by decide +kernel
theorem dX7_tells_49 : decode cX7_tells 49 = .ok (.invokevirtual 396, 3) := by decide +kernel
theorem dX7_tells_52 : decode cX7_tells 52 = .ok (.ireturn, 1) := by decide +kernel
theorem dX7_tells_53 : decode cX7_tells 53 = .ok (.iload_n 3, 1) := by decide +kernel
theorem dX7_tells_54 : decode cX7_tells 54 = .ok (.iconst 1, 1) := by decide +kernel
theorem dX7_tells_55 : decode cX7_tells 55 = .ok (.if_icmp .ne 8, 3) := by decide +kernel
theorem dX7_tells_58 : decode cX7_tells 58 = .ok (.bipush 7, 2) := by decide +kernel
theorem dX7_tells_60 : decode cX7_tells 60 = .ok (.goto 32, 3) := by decide +kernel
theorem dX7_tells_63 : decode cX7_tells 63 = .ok (.iload_n 3, 1) := by decide +kernel
theorem dX7_tells_64 : decode cX7_tells 64 = .ok (.iconst 2, 1) := by decide +kernel
theorem dX7_tells_65 : decode cX7_tells 65 = .ok (.if_icmp .ne 7, 3) := by decide +kernel
theorem dX7_tells_68 : decode cX7_tells 68 = .ok (.iconst 2, 1) := by decide +kernel
theorem dX7_tells_69 : decode cX7_tells 69 = .ok (.goto 23, 3) := by decide +kernel
theorem dX7_tells_72 : decode cX7_tells 72 = .ok (.iload_n 3, 1) := by decide +kernel
theorem dX7_tells_73 : decode cX7_tells 73 = .ok (.iconst 5, 1) := by decide +kernel
theorem dX7_tells_74 : decode cX7_tells 74 = .ok (.if_icmp .ge 7, 3) := by decide +kernel
theorem dX7_tells_77 : decode cX7_tells 77 = .ok (.iconst 4, 1) := by decide +kernel
theorem dX7_tells_78 : decode cX7_tells 78 = .ok (.goto 14, 3) := by decide +kernel
theorem dX7_tells_81 : decode cX7_tells 81 = .ok (.iload_n 3, 1) := by decide +kernel
theorem dX7_tells_82 : decode cX7_tells 82 = .ok (.iconst 5, 1) := by decide +kernel
theorem dX7_tells_83 : decode cX7_tells 83 = .ok (.if_icmp .ne 8, 3) := by decide +kernel
theorem dX7_tells_86 : decode cX7_tells 86 = .ok (.bipush 8, 2) := by decide +kernel
theorem dX7_tells_88 : decode cX7_tells 88 = .ok (.goto 4, 3) := by decide +kernel
theorem dX7_tells_91 : decode cX7_tells 91 = .ok (.iconst 5, 1) := by decide +kernel
theorem dX7_tells_92 : decode cX7_tells 92 = .ok (.istore 4, 2) := by decide +kernel
theorem dX7_tells_94 : decode cX7_tells 94 = .ok (.iload 4, 2) := by decide +kernel
theorem dX7_tells_96 : decode cX7_tells 96 = .ok (.bipush 8, 2) := by decide +kernel
theorem dX7_tells_98 : decode cX7_tells 98 = .ok (.if_icmp .ne 10, 3) := by decide +kernel
theorem dX7_tells_101 : decode cX7_tells 101 = .ok (.aload_n 0, 1) := by decide +kernel
theorem dX7_tells_102 : decode cX7_tells 102 = .ok (.getfield 98, 3) := by decide +kernel
theorem dX7_tells_105 : decode cX7_tells 105 = .ok (.goto 10, 3) := by decide +kernel
theorem dX7_tells_108 : decode cX7_tells 108 = .ok (.aload_n 0, 1) := by decide +kernel
theorem dX7_tells_109 : decode cX7_tells 109 = .ok (.iload_n 2, 1) := by decide +kernel
theorem dX7_tells_110 : decode cX7_tells 110 = .ok (.iload 4, 2) := by decide +kernel
theorem dX7_tells_112 : decode cX7_tells 112 = .ok (.invokevirtual 87, 3) := by decide +kernel
theorem dX7_tells_115 : decode cX7_tells 115 = .ok (.istore 5, 2) := by decide +kernel
theorem dX7_tells_117 : decode cX7_tells 117 = .ok (.iload 4, 2) := by decide +kernel
theorem dX7_tells_119 : decode cX7_tells 119 = .ok (.bipush 8, 2) := by decide +kernel
theorem dX7_tells_121 : decode cX7_tells 121 = .ok (.if_icmp .ne 12, 3) := by decide +kernel
theorem dX7_tells_124 : decode cX7_tells 124 = .ok (.aload_n 0, 1) := by decide +kernel
theorem dX7_tells_125 : decode cX7_tells 125 = .ok (.getfield 61, 3) := by decide +kernel
theorem dX7_tells_128 : decode cX7_tells 128 = .ok (.iconst 1, 1) := by decide +kernel
theorem dX7_tells_129 : decode cX7_tells 129 = .ok (.isub, 1) := by decide +kernel
theorem dX7_tells_130 : decode cX7_tells 130 = .ok (.goto 19, 3) := by decide +kernel
theorem dX7_tells_133 : decode cX7_tells 133 = .ok (.iload 4, 2) := by decide +kernel
theorem dX7_tells_135 : decode cX7_tells 135 = .ok (.bipush 7, 2) := by decide +kernel
theorem dX7_tells_137 : decode cX7_tells 137 = .ok (.if_icmp .ne 7, 3) := by decide +kernel
theorem dX7_tells_140 : decode cX7_tells 140 = .ok (.iconst 5, 1) := by decide +kernel
theorem dX7_tells_141 : decode cX7_tells 141 = .ok (.goto 8, 3) := by decide +kernel
theorem dX7_tells_144 : decode cX7_tells 144 = .ok (.iload 4, 2) := by decide +kernel
theorem dX7_tells_146 : decode cX7_tells 146 = .ok (.invokestatic 83, 3) := by decide +kernel
theorem dX7_tells_149 : decode cX7_tells 149 = .ok (.istore 6, 2) := by decide +kernel
theorem dX7_tells_151 : decode cX7_tells 151 = .ok (.iconst 0, 1) := by decide +kernel
theorem dX7_tells_152 : decode cX7_tells 152 = .ok (.istore 7, 2) := by decide +kernel
theorem dX7_tells_154 : decode cX7_tells 154 = .ok (.iconst 0, 1) := by decide +kernel
theorem dX7_tells_155 : decode cX7_tells 155 = .ok (.istore 8, 2) := by decide +kernel
theorem dX7_tells_157 : decode cX7_tells 157 = .ok (.iconst (-1), 1) := by decide +kernel
theorem dX7_tells_158 : decode cX7_tells 158 = .ok (.istore 9, 2) := by decide +kernel
theorem dX7_tells_160 : decode cX7_tells 160 = .ok (.iload 6, 2) := by decide +kernel
theorem dX7_tells_162 : decode cX7_tells 162 = .ok (.istore 10, 2) := by decide +kernel
theorem dX7_tells_164 : decode cX7_tells 164 = .ok (.iload 10, 2) := by decide +kernel
theorem dX7_tells_166 : decode cX7_tells 166 = .ok (.ifCond .lt 91, 3) := by decide +kernel
theorem dX7_tells_169 : decode cX7_tells 169 = .ok (.iload 4, 2) := by decide +kernel
theorem dX7_tells_171 : decode cX7_tells 171 = .ok (.iconst 4, 1) := by decide +kernel
theorem dX7_tells_172 : decode cX7_tells 172 = .ok (.if_icmp .ne 21, 3) := by decide +kernel
theorem dX7_tells_175 : decode cX7_tells 175 = .ok (.iload 10, 2) := by decide +kernel
theorem dX7_tells_177 : decode cX7_tells 177 = .ok (.aload_n 0, 1) := by decide +kernel
theorem dX7_tells_178 : decode cX7_tells 178 = .ok (.getfield 29, 3) := by decide +kernel
theorem dX7_tells_181 : decode cX7_tells 181 = .ok (.iconst 5, 1) := by decide +kernel
theorem dX7_tells_182 : decode cX7_tells 182 = .ok (.iload_n 2, 1) := by decide +kernel
theorem dX7_tells_183 : decode cX7_tells 183 = .ok (.imul, 1) := by decide +kernel
theorem dX7_tells_184 : decode cX7_tells 184 = .ok (.iconst 1, 1) := by decide +kernel
theorem dX7_tells_185 : decode cX7_tells 185 = .ok (.iadd, 1) := by decide +kernel
theorem dX7_tells_186 : decode cX7_tells 186 = .ok (.iaload, 1) := by decide +kernel
theorem dX7_tells_187 : decode cX7_tells 187 = .ok (.iconst (-1), 1) := by decide +kernel
theorem dX7_tells_188 : decode cX7_tells 188 = .ok (.ixor, 1) := by decide +kernel
theorem dX7_tells_189 : decode cX7_tells 189 = .ok (.iand, 1) := by decide +kernel
theorem dX7_tells_190 : decode cX7_tells 190 = .ok (.ifCond .ne 7, 3) := by decide +kernel
theorem dX7_tells_193 : decode cX7_tells 193 = .ok (.iconst 1, 1) := by decide +kernel
theorem dX7_tells_194 : decode cX7_tells 194 = .ok (.goto 4, 3) := by decide +kernel
theorem dX7_tells_197 : decode cX7_tells 197 = .ok (.iconst 0, 1) := by decide +kernel
theorem dX7_tells_198 : decode cX7_tells 198 = .ok (.istore 11, 2) := by decide +kernel
theorem dX7_tells_200 : decode cX7_tells 200 = .ok (.aload_n 0, 1) := by decide +kernel
theorem dX7_tells_201 : decode cX7_tells 201 = .ok (.iload 4, 2) := by decide +kernel
theorem dX7_tells_203 : decode cX7_tells 203 = .ok (.iload_n 2, 1) := by decide +kernel
theorem dX7_tells_204 : decode cX7_tells 204 = .ok (.iload 10, 2) := by decide +kernel
theorem dX7_tells_206 : decode cX7_tells 206 = .ok (.invokevirtual 91, 3) := by decide +kernel
theorem dX7_tells_209 : decode cX7_tells 209 = .ok (.iload 11, 2) := by decide +kernel
theorem dX7_tells_211 : decode cX7_tells 211 = .ok (.ifCond .eq 40, 3) := by decide +kernel
theorem dX7_tells_214 : decode cX7_tells 214 = .ok (.aload_n 0, 1) := by decide +kernel
theorem dX7_tells_215 : decode cX7_tells 215 = .ok (.iload_n 1, 1) := by decide +kernel
theorem dX7_tells_216 : decode cX7_tells 216 = .ok (.iload_n 2, 1) := by decide +kernel
theorem dX7_tells_217 : decode cX7_tells 217 = .ok (.invokevirtual 396, 3) := by decide +kernel
theorem dX7_tells_220 : decode cX7_tells 220 = .ok (.iconst (-1), 1) := by decide +kernel
theorem dX7_tells_221 : decode cX7_tells 221 = .ok (.if_icmp .ne 30, 3) := by decide +kernel
theorem dX7_tells_224 : decode cX7_tells 224 = .ok (.iload 7, 2) := by decide +kernel
theorem dX7_tells_226 : decode cX7_tells 226 = .ok (.iload 10, 2) := by decide +kernel
theorem dX7_tells_228 : decode cX7_tells 228 = .ok (.bipush 10, 2) := by decide +kernel
theorem dX7_tells_230 : decode cX7_tells 230 = .ok (.if_icmp .ge 10, 3) := by decide +kernel
theorem dX7_tells_233 : decode cX7_tells 233 = .ok (.iconst 1, 1) := by decide +kernel
theorem dX7_tells_234 : decode cX7_tells 234 = .ok (.iload 10, 2) := by decide +kernel
theorem dX7_tells_236 : decode cX7_tells 236 = .ok (.ishl, 1) := by decide +kernel
theorem dX7_tells_237 : decode cX7_tells 237 = .ok (.goto 4, 3) := by decide +kernel
theorem dX7_tells_240 : decode cX7_tells 240 = .ok (.iconst 0, 1) := by decide +kernel
theorem dX7_tells_241 : decode cX7_tells 241 = .ok (.ior, 1) := by decide +kernel
theorem dX7_tells_242 : decode cX7_tells 242 = .ok (.istore 7, 2) := by decide +kernel
theorem dX7_tells_244 : decode cX7_tells 244 = .ok (.iinc 8 1, 3) := by decide +kernel
theorem dX7_tells_247 : decode cX7_tells 247 = .ok (.iload 10, 2) := by decide +kernel
theorem dX7_tells_249 : decode cX7_tells 249 = .ok (.istore 9, 2) := by decide +kernel
theorem dX7_tells_251 : decode cX7_tells 251 = .ok (.iinc 10 (-1), 3) := by decide +kernel
theorem dX7_tells_254 : decode cX7_tells 254 = .ok (.goto (-90), 3) := by decide +kernel
theorem dX7_tells_257 : decode cX7_tells 257 = .ok (.aload_n 0, 1) := by decide +kernel
theorem dX7_tells_258 : decode cX7_tells 258 = .ok (.iload 4, 2) := by decide +kernel
theorem dX7_tells_260 : decode cX7_tells 260 = .ok (.iload_n 2, 1) := by decide +kernel
theorem dX7_tells_261 : decode cX7_tells 261 = .ok (.iload 5, 2) := by decide +kernel
theorem dX7_tells_263 : decode cX7_tells 263 = .ok (.invokevirtual 91, 3) := by decide +kernel
theorem dX7_tells_266 : decode cX7_tells 266 = .ok (.iload_n 3, 1) := by decide +kernel
theorem dX7_tells_267 : decode cX7_tells 267 = .ok (.iconst 3, 1) := by decide +kernel
theorem dX7_tells_268 : decode cX7_tells 268 = .ok (.if_icmp .eq 9, 3) := by decide +kernel
theorem dX7_tells_271 : decode cX7_tells 271 = .ok (.iload_n 3, 1) := by decide +kernel
theorem dX7_tells_272 : decode cX7_tells 272 = .ok (.bipush 6, 2) := by decide +kernel
theorem dX7_tells_274 : decode cX7_tells 274 = .ok (.if_icmp .ne 8, 3) := by decide +kernel
theorem dX7_tells_277 : decode cX7_tells 277 = .ok (.iload 8, 2) := by decide +kernel
theorem dX7_tells_279 : decode cX7_tells 279 = .ok (.goto 21, 3) := by decide +kernel
theorem dX7_tells_282 : decode cX7_tells 282 = .ok (.iload_n 3, 1) := by decide +kernel
theorem dX7_tells_283 : decode cX7_tells 283 = .ok (.iconst 4, 1) := by decide +kernel
theorem dX7_tells_284 : decode cX7_tells 284 = .ok (.if_icmp .eq 9, 3) := by decide +kernel
theorem dX7_tells_287 : decode cX7_tells 287 = .ok (.iload_n 3, 1) := by decide +kernel
theorem dX7_tells_288 : decode cX7_tells 288 = .ok (.bipush 7, 2) := by decide +kernel
theorem dX7_tells_290 : decode cX7_tells 290 = .ok (.if_icmp .ne 8, 3) := by decide +kernel
theorem dX7_tells_293 : decode cX7_tells 293 = .ok (.iload 9, 2) := by decide +kernel
theorem dX7_tells_295 : decode cX7_tells 295 = .ok (.goto 5, 3) := by decide +kernel
theorem dX7_tells_298 : decode cX7_tells 298 = .ok (.iload 7, 2) := by decide +kernel
theorem dX7_tells_300 : decode cX7_tells 300 = .ok (.ireturn, 1) := by decide +kernel
theorem dX7_film_0 : decode cX7_film 0 = .ok (.iload_n 1, 1) := by decide +kernel
theorem dX7_film_1 : decode cX7_film 1 = .ok (.invokestatic 393, 3) := by decide +kernel
theorem dX7_film_4 : decode cX7_film 4 = .ok (.ifCond .eq 23, 3) := by decide +kernel
theorem dX7_film_7 : decode cX7_film 7 = .ok (.aload_n 0, 1) := by decide +kernel
theorem dX7_film_8 : decode cX7_film 8 = .ok (.iload_n 2, 1) := by decide +kernel
theorem dX7_film_9 : decode cX7_film 9 = .ok (.invokevirtual 73, 3) := by decide +kernel
theorem dX7_film_12 : decode cX7_film 12 = .ok (.ifCond .eq 15, 3) := by decide +kernel
theorem dX7_film_15 : decode cX7_film 15 = .ok (.iload_n 3, 1) := by decide +kernel
theorem dX7_film_16 : decode cX7_film 16 = .ok (.i2l, 1) := by decide +kernel
theorem dX7_film_17 : decode cX7_film 17 = .ok (.lconst 0, 1) := by decide +kernel
theorem dX7_film_18 : decode cX7_film 18 = .ok (.ldc2_w 365, 3) := by decide +kernel
theorem dX7_film_21 : decode cX7_film 21 = .ok (.invokestatic 67, 3) := by decide +kernel
theorem dX7_film_24 : decode cX7_film 24 = .ok (.ifCond .ne 6, 3) := by decide +kernel
theorem dX7_film_27 : decode cX7_film 27 = .ok (.bipush (-2), 2) := by decide +kernel
theorem dX7_film_29 : decode cX7_film 29 = .ok (.ireturn, 1) := by decide +kernel
theorem dX7_film_30 : decode cX7_film 30 = .ok (.aload_n 0, 1) := by decide +kernel
theorem dX7_film_31 : decode cX7_film 31 = .ok (.iload_n 1, 1) := by decide +kernel
theorem dX7_film_32 : decode cX7_film 32 = .ok (.iconst 1, 1) := by decide +kernel
theorem dX7_film_33 : decode cX7_film 33 = .ok (.iload_n 3, 1) := by decide +kernel
theorem dX7_film_34 : decode cX7_film 34 = .ok (.invokevirtual 399, 3) := by decide +kernel
theorem dX7_film_37 : decode cX7_film 37 = .ok (.pop, 1) := by decide +kernel
theorem dX7_film_38 : decode cX7_film 38 = .ok (.aload_n 0, 1) := by decide +kernel
theorem dX7_film_39 : decode cX7_film 39 = .ok (.iload_n 2, 1) := by decide +kernel
theorem dX7_film_40 : decode cX7_film 40 = .ok (.invokevirtual 109, 3) := by decide +kernel
theorem dX7_film_43 : decode cX7_film 43 = .ok (.iconst 0, 1) := by decide +kernel
theorem dX7_film_44 : decode cX7_film 44 = .ok (.istore 4, 2) := by decide +kernel
theorem dX7_film_46 : decode cX7_film 46 = .ok (.iload 4, 2) := by decide +kernel
theorem dX7_film_48 : decode cX7_film 48 = .ok (.iload_n 3, 1) := by decide +kernel
theorem dX7_film_49 : decode cX7_film 49 = .ok (.if_icmp .ge 31, 3) := by decide +kernel
theorem dX7_film_52 : decode cX7_film 52 = .ok (.aload_n 0, 1) := by decide +kernel
theorem dX7_film_53 : decode cX7_film 53 = .ok (.iload_n 2, 1) := by decide +kernel
theorem dX7_film_54 : decode cX7_film 54 = .ok (.invokevirtual 359, 3) := by decide +kernel
theorem dX7_film_57 : decode cX7_film 57 = .ok (.pop, 1) := by decide +kernel
theorem dX7_film_58 : decode cX7_film 58 = .ok (.aload_n 0, 1) := by decide +kernel
theorem dX7_film_59 : decode cX7_film 59 = .ok (.getfield 54, 3) := by decide +kernel
theorem dX7_film_62 : decode cX7_film 62 = .ok (.bipush 40, 2) := by decide +kernel
theorem dX7_film_64 : decode cX7_film 64 = .ok (.iload_n 1, 1) := by decide +kernel
theorem dX7_film_65 : decode cX7_film 65 = .ok (.imul, 1) := by decide +kernel
theorem dX7_film_66 : decode cX7_film 66 = .ok (.iload 4, 2) := by decide +kernel
theorem dX7_film_68 : decode cX7_film 68 = .ok (.iadd, 1) := by decide +kernel
theorem dX7_film_69 : decode cX7_film 69 = .ok (.aload_n 0, 1) := by decide +kernel
theorem dX7_film_70 : decode cX7_film 70 = .ok (.getfield 340, 3) := by decide +kernel
theorem dX7_film_73 : decode cX7_film 73 = .ok (.iastore, 1) := by decide +kernel
theorem dX7_film_74 : decode cX7_film 74 = .ok (.iinc 4 1, 3) := by decide +kernel
theorem dX7_film_77 : decode cX7_film 77 = .ok (.goto (-31), 3) := by decide +kernel
theorem dX7_film_80 : decode cX7_film 80 = .ok (.iload_n 3, 1) := by decide +kernel
theorem dX7_film_81 : decode cX7_film 81 = .ok (.ireturn, 1) := by decide +kernel
theorem dX7_draws_0 : decode cX7_draws 0 = .ok (.iload_n 1, 1) := by decide +kernel
theorem dX7_draws_1 : decode cX7_draws 1 = .ok (.istore_n 2, 1) := by decide +kernel
theorem dX7_draws_2 : decode cX7_draws 2 = .ok (.iconst 0, 1) := by decide +kernel
theorem dX7_draws_3 : decode cX7_draws 3 = .ok (.istore_n 3, 1) := by decide +kernel
theorem dX7_draws_4 : decode cX7_draws 4 = .ok (.iload_n 3, 1) := by decide +kernel
theorem dX7_draws_5 : decode cX7_draws 5 = .ok (.bipush 8, 2) := by decide +kernel
theorem dX7_draws_7 : decode cX7_draws 7 = .ok (.if_icmp .ge 44, 3) := by decide +kernel
theorem dX7_draws_10 : decode cX7_draws 10 = .ok (.aload_n 0, 1) := by decide +kernel
theorem dX7_draws_11 : decode cX7_draws 11 = .ok (.getfield 32, 3) := by decide +kernel
theorem dX7_draws_14 : decode cX7_draws 14 = .ok (.iload_n 3, 1) := by decide +kernel
theorem dX7_draws_15 : decode cX7_draws 15 = .ok (.aload_n 0, 1) := by decide +kernel
theorem dX7_draws_16 : decode cX7_draws 16 = .ok (.getfield 23, 3) := by decide +kernel
theorem dX7_draws_19 : decode cX7_draws 19 = .ok (.iload_n 3, 1) := by decide +kernel
theorem dX7_draws_20 : decode cX7_draws 20 = .ok (.iaload, 1) := by decide +kernel
theorem dX7_draws_21 : decode cX7_draws 21 = .ok (.iastore, 1) := by decide +kernel
theorem dX7_draws_22 : decode cX7_draws 22 = .ok (.iload_n 2, 1) := by decide +kernel
theorem dX7_draws_23 : decode cX7_draws 23 = .ok (.ldc_w 402, 3) := by decide +kernel
theorem dX7_draws_26 : decode cX7_draws 26 = .ok (.imul, 1) := by decide +kernel
theorem dX7_draws_27 : decode cX7_draws 27 = .ok (.sipush 12345, 3) := by decide +kernel
theorem dX7_draws_30 : decode cX7_draws 30 = .ok (.iadd, 1) := by decide +kernel
theorem dX7_draws_31 : decode cX7_draws 31 = .ok (.istore_n 2, 1) := by decide +kernel
theorem dX7_draws_32 : decode cX7_draws 32 = .ok (.aload_n 0, 1) := by decide +kernel
theorem dX7_draws_33 : decode cX7_draws 33 = .ok (.getfield 23, 3) := by decide +kernel
theorem dX7_draws_36 : decode cX7_draws 36 = .ok (.iload_n 3, 1) := by decide +kernel
theorem dX7_draws_37 : decode cX7_draws 37 = .ok (.iload_n 2, 1) := by decide +kernel
theorem dX7_draws_38 : decode cX7_draws 38 = .ok (.bipush 9, 2) := by decide +kernel
theorem dX7_draws_40 : decode cX7_draws 40 = .ok (.iushr, 1) := by decide +kernel
theorem dX7_draws_41 : decode cX7_draws 41 = .ok (.bipush 30, 2) := by decide +kernel
theorem dX7_draws_43 : decode cX7_draws 43 = .ok (.irem, 1) := by decide +kernel
theorem dX7_draws_44 : decode cX7_draws 44 = .ok (.iastore, 1) := by decide +kernel
theorem dX7_draws_45 : decode cX7_draws 45 = .ok (.iinc 3 1, 3) := by decide +kernel
theorem dX7_draws_48 : decode cX7_draws 48 = .ok (.goto (-44), 3) := by decide +kernel
theorem dX7_draws_51 : decode cX7_draws 51 = .ok (.return_, 1) := by decide +kernel
theorem dX7_laysBack_0 : decode cX7_laysBack 0 = .ok (.iconst 0, 1) := by decide +kernel
theorem dX7_laysBack_1 : decode cX7_laysBack 1 = .ok (.istore_n 1, 1) := by decide +kernel
theorem dX7_laysBack_2 : decode cX7_laysBack 2 = .ok (.iload_n 1, 1) := by decide +kernel
theorem dX7_laysBack_3 : decode cX7_laysBack 3 = .ok (.bipush 8, 2) := by decide +kernel
theorem dX7_laysBack_5 : decode cX7_laysBack 5 = .ok (.if_icmp .ge 21, 3) := by decide +kernel
theorem dX7_laysBack_8 : decode cX7_laysBack 8 = .ok (.aload_n 0, 1) := by decide +kernel
theorem dX7_laysBack_9 : decode cX7_laysBack 9 = .ok (.getfield 23, 3) := by decide +kernel
theorem dX7_laysBack_12 : decode cX7_laysBack 12 = .ok (.iload_n 1, 1) := by decide +kernel
theorem dX7_laysBack_13 : decode cX7_laysBack 13 = .ok (.aload_n 0, 1) := by decide +kernel
theorem dX7_laysBack_14 : decode cX7_laysBack 14 = .ok (.getfield 32, 3) := by decide +kernel
theorem dX7_laysBack_17 : decode cX7_laysBack 17 = .ok (.iload_n 1, 1) := by decide +kernel
theorem dX7_laysBack_18 : decode cX7_laysBack 18 = .ok (.iaload, 1) := by decide +kernel
theorem dX7_laysBack_19 : decode cX7_laysBack 19 = .ok (.iastore, 1) := by decide +kernel
theorem dX7_laysBack_20 : decode cX7_laysBack 20 = .ok (.iinc 1 1, 3) := by decide +kernel
theorem dX7_laysBack_23 : decode cX7_laysBack 23 = .ok (.goto (-21), 3) := by decide +kernel
theorem dX7_laysBack_26 : decode cX7_laysBack 26 = .ok (.return_, 1) := by decide +kernel
theorem dX7_drawn_0 : decode cX7_drawn 0 = .ok (.iload_n 2, 1) := by decide +kernel
theorem dX7_drawn_1 : decode cX7_drawn 1 = .ok (.i2l, 1) := by decide +kernel
theorem dX7_drawn_2 : decode cX7_drawn 2 = .ok (.lconst 0, 1) := by decide +kernel
theorem dX7_drawn_3 : decode cX7_drawn 3 = .ok (.ldc2_w 365, 3) := by decide +kernel
theorem dX7_drawn_6 : decode cX7_drawn 6 = .ok (.invokestatic 67, 3) := by decide +kernel
theorem dX7_drawn_9 : decode cX7_drawn 9 = .ok (.ifCond .ne 6, 3) := by decide +kernel
theorem dX7_drawn_12 : decode cX7_drawn 12 = .ok (.bipush (-2), 2) := by decide +kernel
theorem dX7_drawn_14 : decode cX7_drawn 14 = .ok (.ireturn, 1) := by decide +kernel
theorem dX7_drawn_15 : decode cX7_drawn 15 = .ok (.aload_n 0, 1) := by decide +kernel
theorem dX7_drawn_16 : decode cX7_drawn 16 = .ok (.iload_n 1, 1) := by decide +kernel
theorem dX7_drawn_17 : decode cX7_drawn 17 = .ok (.invokevirtual 403, 3) := by decide +kernel
theorem dX7_drawn_20 : decode cX7_drawn 20 = .ok (.aload_n 0, 1) := by decide +kernel
theorem dX7_drawn_21 : decode cX7_drawn 21 = .ok (.iload_n 2, 1) := by decide +kernel
theorem dX7_drawn_22 : decode cX7_drawn 22 = .ok (.invokevirtual 390, 3) := by decide +kernel
theorem dX7_drawn_25 : decode cX7_drawn 25 = .ok (.istore_n 3, 1) := by decide +kernel
theorem dX7_drawn_26 : decode cX7_drawn 26 = .ok (.aload_n 0, 1) := by decide +kernel
theorem dX7_drawn_27 : decode cX7_drawn 27 = .ok (.invokevirtual 406, 3) := by decide +kernel
theorem dX7_drawn_30 : decode cX7_drawn 30 = .ok (.iload_n 3, 1) := by decide +kernel
theorem dX7_drawn_31 : decode cX7_drawn 31 = .ok (.ireturn, 1) := by decide +kernel
theorem dX7_chance_0 : decode cX7_chance 0 = .ok (.iload_n 2, 1) := by decide +kernel
theorem dX7_chance_1 : decode cX7_chance 1 = .ok (.i2l, 1) := by decide +kernel
theorem dX7_chance_2 : decode cX7_chance 2 = .ok (.lconst 1, 1) := by decide +kernel
theorem dX7_chance_3 : decode cX7_chance 3 = .ok (.ldc2_w 409, 3) := by decide +kernel
theorem dX7_chance_6 : decode cX7_chance 6 = .ok (.invokestatic 67, 3) := by decide +kernel
theorem dX7_chance_9 : decode cX7_chance 9 = .ok (.ifCond .eq 13, 3) := by decide +kernel
theorem dX7_chance_12 : decode cX7_chance 12 = .ok (.iload_n 3, 1) := by decide +kernel
theorem dX7_chance_13 : decode cX7_chance 13 = .ok (.i2l, 1) := by decide +kernel
theorem dX7_chance_14 : decode cX7_chance 14 = .ok (.lconst 0, 1) := by decide +kernel
theorem dX7_chance_15 : decode cX7_chance 15 = .ok (.lconst 1, 1) := by decide +kernel
theorem dX7_chance_16 : decode cX7_chance 16 = .ok (.invokestatic 67, 3) := by decide +kernel
theorem dX7_chance_19 : decode cX7_chance 19 = .ok (.ifCond .ne 7, 3) := by decide +kernel
theorem dX7_chance_22 : decode cX7_chance 22 = .ok (.ldc2_w 411, 3) := by decide +kernel
theorem dX7_chance_25 : decode cX7_chance 25 = .ok (.lreturn, 1) := by decide +kernel
theorem dX7_chance_26 : decode cX7_chance 26 = .ok (.lconst 0, 1) := by decide +kernel
theorem dX7_chance_27 : decode cX7_chance 27 = .ok (.lstore 4, 2) := by decide +kernel
theorem dX7_chance_29 : decode cX7_chance 29 = .ok (.iconst 0, 1) := by decide +kernel
theorem dX7_chance_30 : decode cX7_chance 30 = .ok (.istore 6, 2) := by decide +kernel
theorem dX7_chance_32 : decode cX7_chance 32 = .ok (.iload 6, 2) := by decide +kernel
theorem dX7_chance_34 : decode cX7_chance 34 = .ok (.iload_n 2, 1) := by decide +kernel
theorem dX7_chance_35 : decode cX7_chance 35 = .ok (.if_icmp .ge 93, 3) := by decide +kernel
theorem dX7_chance_38 : decode cX7_chance 38 = .ok (.aload_n 0, 1) := by decide +kernel
theorem dX7_chance_39 : decode cX7_chance 39 = .ok (.iload_n 1, 1) := by decide +kernel
theorem dX7_chance_40 : decode cX7_chance 40 = .ok (.iload 6, 2) := by decide +kernel
theorem dX7_chance_42 : decode cX7_chance 42 = .ok (.iadd, 1) := by decide +kernel
theorem dX7_chance_43 : decode cX7_chance 43 = .ok (.invokevirtual 403, 3) := by decide +kernel
theorem dX7_chance_46 : decode cX7_chance 46 = .ok (.iconst 1, 1) := by decide +kernel
theorem dX7_chance_47 : decode cX7_chance 47 = .ok (.istore 7, 2) := by decide +kernel
theorem dX7_chance_49 : decode cX7_chance 49 = .ok (.iconst 0, 1) := by decide +kernel
theorem dX7_chance_50 : decode cX7_chance 50 = .ok (.istore 8, 2) := by decide +kernel
theorem dX7_chance_52 : decode cX7_chance 52 = .ok (.iload 8, 2) := by decide +kernel
theorem dX7_chance_54 : decode cX7_chance 54 = .ok (.aload_n 0, 1) := by decide +kernel
theorem dX7_chance_55 : decode cX7_chance 55 = .ok (.getfield 64, 3) := by decide +kernel
theorem dX7_chance_58 : decode cX7_chance 58 = .ok (.if_icmp .ge 45, 3) := by decide +kernel
theorem dX7_chance_61 : decode cX7_chance 61 = .ok (.iload 7, 2) := by decide +kernel
theorem dX7_chance_63 : decode cX7_chance 63 = .ok (.ifCond .eq 40, 3) := by decide +kernel
theorem dX7_chance_66 : decode cX7_chance 66 = .ok (.aload_n 0, 1) := by decide +kernel
theorem dX7_chance_67 : decode cX7_chance 67 = .ok (.iload 8, 2) := by decide +kernel
theorem dX7_chance_69 : decode cX7_chance 69 = .ok (.bipush 10, 2) := by decide +kernel
theorem dX7_chance_71 : decode cX7_chance 71 = .ok (.invokevirtual 369, 3) := by decide +kernel
theorem dX7_chance_74 : decode cX7_chance 74 = .ok (.aload_n 0, 1) := by decide +kernel
theorem dX7_chance_75 : decode cX7_chance 75 = .ok (.getfield 353, 3) := by decide +kernel
theorem dX7_chance_78 : decode cX7_chance 78 = .ok (.iconst (-1), 1) := by decide +kernel
theorem dX7_chance_79 : decode cX7_chance 79 = .ok (.if_icmp .ne 11, 3) := by decide +kernel
theorem dX7_chance_82 : decode cX7_chance 82 = .ok (.aload_n 0, 1) := by decide +kernel
theorem dX7_chance_83 : decode cX7_chance 83 = .ok (.getfield 356, 3) := by decide +kernel
theorem dX7_chance_86 : decode cX7_chance 86 = .ok (.iconst (-1), 1) := by decide +kernel
theorem dX7_chance_87 : decode cX7_chance 87 = .ok (.if_icmp .eq 7, 3) := by decide +kernel
theorem dX7_chance_90 : decode cX7_chance 90 = .ok (.iconst 1, 1) := by decide +kernel
theorem dX7_chance_91 : decode cX7_chance 91 = .ok (.goto 4, 3) := by decide +kernel
theorem dX7_chance_94 : decode cX7_chance 94 = .ok (.iconst 0, 1) := by decide +kernel
theorem dX7_chance_95 : decode cX7_chance 95 = .ok (.istore 7, 2) := by decide +kernel
theorem dX7_chance_97 : decode cX7_chance 97 = .ok (.iinc 8 1, 3) := by decide +kernel
theorem dX7_chance_100 : decode cX7_chance 100 = .ok (.goto (-48), 3) := by decide +kernel
theorem dX7_chance_103 : decode cX7_chance 103 = .ok (.lload 4, 2) := by decide +kernel
theorem dX7_chance_105 : decode cX7_chance 105 = .ok (.iload 7, 2) := by decide +kernel
theorem dX7_chance_107 : decode cX7_chance 107 = .ok (.ifCond .eq 7, 3) := by decide +kernel
theorem dX7_chance_110 : decode cX7_chance 110 = .ok (.lconst 1, 1) := by decide +kernel
theorem dX7_chance_111 : decode cX7_chance 111 = .ok (.goto 4, 3) := by decide +kernel
theorem dX7_chance_114 : decode cX7_chance 114 = .ok (.lconst 0, 1) := by decide +kernel
theorem dX7_chance_115 : decode cX7_chance 115 = .ok (.ladd, 1) := by decide +kernel
theorem dX7_chance_116 : decode cX7_chance 116 = .ok (.lstore 4, 2) := by decide +kernel
theorem dX7_chance_118 : decode cX7_chance 118 = .ok (.aload_n 0, 1) := by decide +kernel
theorem dX7_chance_119 : decode cX7_chance 119 = .ok (.invokevirtual 406, 3) := by decide +kernel
theorem dX7_chance_122 : decode cX7_chance 122 = .ok (.iinc 6 1, 3) := by decide +kernel
theorem dX7_chance_125 : decode cX7_chance 125 = .ok (.goto (-93), 3) := by decide +kernel
theorem dX7_chance_128 : decode cX7_chance 128 = .ok (.lload 4, 2) := by decide +kernel
theorem dX7_chance_130 : decode cX7_chance 130 = .ok (.lstore 6, 2) := by decide +kernel
theorem dX7_chance_132 : decode cX7_chance 132 = .ok (.iload_n 2, 1) := by decide +kernel
theorem dX7_chance_133 : decode cX7_chance 133 = .ok (.i2l, 1) := by decide +kernel
theorem dX7_chance_134 : decode cX7_chance 134 = .ok (.lstore 8, 2) := by decide +kernel
theorem dX7_chance_136 : decode cX7_chance 136 = .ok (.lload 8, 2) := by decide +kernel
theorem dX7_chance_138 : decode cX7_chance 138 = .ok (.lconst 0, 1) := by decide +kernel
theorem dX7_chance_139 : decode cX7_chance 139 = .ok (.lcmp, 1) := by decide +kernel
theorem dX7_chance_140 : decode cX7_chance 140 = .ok (.ifCond .eq 21, 3) := by decide +kernel
theorem dX7_chance_143 : decode cX7_chance 143 = .ok (.lload 6, 2) := by decide +kernel
theorem dX7_chance_145 : decode cX7_chance 145 = .ok (.lload 8, 2) := by decide +kernel
theorem dX7_chance_147 : decode cX7_chance 147 = .ok (.lrem, 1) := by decide +kernel
theorem dX7_chance_148 : decode cX7_chance 148 = .ok (.lstore 10, 2) := by decide +kernel
theorem dX7_chance_150 : decode cX7_chance 150 = .ok (.lload 8, 2) := by decide +kernel
theorem dX7_chance_152 : decode cX7_chance 152 = .ok (.lstore 6, 2) := by decide +kernel
theorem dX7_chance_154 : decode cX7_chance 154 = .ok (.lload 10, 2) := by decide +kernel
theorem dX7_chance_156 : decode cX7_chance 156 = .ok (.lstore 8, 2) := by decide +kernel
theorem dX7_chance_158 : decode cX7_chance 158 = .ok (.goto (-22), 3) := by decide +kernel
theorem dX7_chance_161 : decode cX7_chance 161 = .ok (.iload_n 3, 1) := by decide +kernel
theorem dX7_chance_162 : decode cX7_chance 162 = .ok (.ifCond .ne 11, 3) := by decide +kernel
theorem dX7_chance_165 : decode cX7_chance 165 = .ok (.lload 4, 2) := by decide +kernel
theorem dX7_chance_167 : decode cX7_chance 167 = .ok (.lload 6, 2) := by decide +kernel
theorem dX7_chance_169 : decode cX7_chance 169 = .ok (.ldiv, 1) := by decide +kernel
theorem dX7_chance_170 : decode cX7_chance 170 = .ok (.goto 8, 3) := by decide +kernel
theorem dX7_chance_173 : decode cX7_chance 173 = .ok (.iload_n 2, 1) := by decide +kernel
theorem dX7_chance_174 : decode cX7_chance 174 = .ok (.i2l, 1) := by decide +kernel
theorem dX7_chance_175 : decode cX7_chance 175 = .ok (.lload 6, 2) := by decide +kernel
theorem dX7_chance_177 : decode cX7_chance 177 = .ok (.ldiv, 1) := by decide +kernel
theorem dX7_chance_178 : decode cX7_chance 178 = .ok (.lreturn, 1) := by decide +kernel
theorem dX7_image_0 : decode cX7_image 0 = .ok (.iconst 0, 1) := by decide +kernel
theorem dX7_image_1 : decode cX7_image 1 = .ok (.istore_n 1, 1) := by decide +kernel
theorem dX7_image_2 : decode cX7_image 2 = .ok (.iload_n 1, 1) := by decide +kernel
theorem dX7_image_3 : decode cX7_image 3 = .ok (.bipush 8, 2) := by decide +kernel
theorem dX7_image_5 : decode cX7_image 5 = .ok (.if_icmp .ge 21, 3) := by decide +kernel
theorem dX7_image_8 : decode cX7_image 8 = .ok (.aload_n 0, 1) := by decide +kernel
theorem dX7_image_9 : decode cX7_image 9 = .ok (.getfield 35, 3) := by decide +kernel
theorem dX7_image_12 : decode cX7_image 12 = .ok (.iload_n 1, 1) := by decide +kernel
theorem dX7_image_13 : decode cX7_image 13 = .ok (.aload_n 0, 1) := by decide +kernel
theorem dX7_image_14 : decode cX7_image 14 = .ok (.getfield 23, 3) := by decide +kernel
theorem dX7_image_17 : decode cX7_image 17 = .ok (.iload_n 1, 1) := by decide +kernel
theorem dX7_image_18 : decode cX7_image 18 = .ok (.iaload, 1) := by decide +kernel
theorem dX7_image_19 : decode cX7_image 19 = .ok (.iastore, 1) := by decide +kernel
theorem dX7_image_20 : decode cX7_image 20 = .ok (.iinc 1 1, 3) := by decide +kernel
theorem dX7_image_23 : decode cX7_image 23 = .ok (.goto (-21), 3) := by decide +kernel
theorem dX7_image_26 : decode cX7_image 26 = .ok (.iconst 0, 1) := by decide +kernel
theorem dX7_image_27 : decode cX7_image 27 = .ok (.istore_n 1, 1) := by decide +kernel
theorem dX7_image_28 : decode cX7_image 28 = .ok (.iload_n 1, 1) := by decide +kernel
theorem dX7_image_29 : decode cX7_image 29 = .ok (.bipush 30, 2) := by decide +kernel
theorem dX7_image_31 : decode cX7_image 31 = .ok (.if_icmp .ge 21, 3) := by decide +kernel
theorem dX7_image_34 : decode cX7_image 34 = .ok (.aload_n 0, 1) := by decide +kernel
theorem dX7_image_35 : decode cX7_image 35 = .ok (.getfield 38, 3) := by decide +kernel
theorem dX7_image_38 : decode cX7_image 38 = .ok (.iload_n 1, 1) := by decide +kernel
theorem dX7_image_39 : decode cX7_image 39 = .ok (.aload_n 0, 1) := by decide +kernel
theorem dX7_image_40 : decode cX7_image 40 = .ok (.getfield 29, 3) := by decide +kernel
theorem dX7_image_43 : decode cX7_image 43 = .ok (.iload_n 1, 1) := by decide +kernel
theorem dX7_image_44 : decode cX7_image 44 = .ok (.iaload, 1) := by decide +kernel
theorem dX7_image_45 : decode cX7_image 45 = .ok (.iastore, 1) := by decide +kernel
theorem dX7_image_46 : decode cX7_image 46 = .ok (.iinc 1 1, 3) := by decide +kernel
theorem dX7_image_49 : decode cX7_image 49 = .ok (.goto (-21), 3) := by decide +kernel
theorem dX7_image_52 : decode cX7_image 52 = .ok (.aload_n 0, 1) := by decide +kernel
theorem dX7_image_53 : decode cX7_image 53 = .ok (.aload_n 0, 1) := by decide +kernel
theorem dX7_image_54 : decode cX7_image 54 = .ok (.getfield 64, 3) := by decide +kernel
theorem dX7_image_57 : decode cX7_image 57 = .ok (.putfield 41, 3) := by decide +kernel
theorem dX7_image_60 : decode cX7_image 60 = .ok (.aload_n 0, 1) := by decide +kernel
theorem dX7_image_61 : decode cX7_image 61 = .ok (.aload_n 0, 1) := by decide +kernel
theorem dX7_image_62 : decode cX7_image 62 = .ok (.getfield 95, 3) := by decide +kernel
theorem dX7_image_65 : decode cX7_image 65 = .ok (.putfield 413, 3) := by decide +kernel
theorem dX7_image_68 : decode cX7_image 68 = .ok (.aload_n 0, 1) := by decide +kernel
theorem dX7_image_69 : decode cX7_image 69 = .ok (.aload_n 0, 1) := by decide +kernel
theorem dX7_image_70 : decode cX7_image 70 = .ok (.getfield 98, 3) := by decide +kernel
theorem dX7_image_73 : decode cX7_image 73 = .ok (.putfield 416, 3) := by decide +kernel
theorem dX7_image_76 : decode cX7_image 76 = .ok (.aload_n 0, 1) := by decide +kernel
theorem dX7_image_77 : decode cX7_image 77 = .ok (.getfield 64, 3) := by decide +kernel
theorem dX7_image_80 : decode cX7_image 80 = .ok (.ireturn, 1) := by decide +kernel
theorem dX7_back_0 : decode cX7_back 0 = .ok (.aload_n 0, 1) := by decide +kernel
theorem dX7_back_1 : decode cX7_back 1 = .ok (.getfield 41, 3) := by decide +kernel
theorem dX7_back_4 : decode cX7_back 4 = .ok (.iconst (-1), 1) := by decide +kernel
theorem dX7_back_5 : decode cX7_back 5 = .ok (.if_icmp .ne 6, 3) := by decide +kernel
theorem dX7_back_8 : decode cX7_back 8 = .ok (.bipush (-3), 2) := by decide +kernel
theorem dX7_back_10 : decode cX7_back 10 = .ok (.ireturn, 1) := by decide +kernel
theorem dX7_back_11 : decode cX7_back 11 = .ok (.iconst 0, 1) := by decide +kernel
theorem dX7_back_12 : decode cX7_back 12 = .ok (.istore_n 1, 1) := by decide +kernel
theorem dX7_back_13 : decode cX7_back 13 = .ok (.iload_n 1, 1) := by decide +kernel
theorem dX7_back_14 : decode cX7_back 14 = .ok (.bipush 8, 2) := by decide +kernel
theorem dX7_back_16 : decode cX7_back 16 = .ok (.if_icmp .ge 21, 3) := by decide +kernel
theorem dX7_back_19 : decode cX7_back 19 = .ok (.aload_n 0, 1) := by decide +kernel
theorem dX7_back_20 : decode cX7_back 20 = .ok (.getfield 23, 3) := by decide +kernel
theorem dX7_back_23 : decode cX7_back 23 = .ok (.iload_n 1, 1) := by decide +kernel
theorem dX7_back_24 : decode cX7_back 24 = .ok (.aload_n 0, 1) := by decide +kernel
theorem dX7_back_25 : decode cX7_back 25 = .ok (.getfield 35, 3) := by decide +kernel
theorem dX7_back_28 : decode cX7_back 28 = .ok (.iload_n 1, 1) := by decide +kernel
theorem dX7_back_29 : decode cX7_back 29 = .ok (.iaload, 1) := by decide +kernel
theorem dX7_back_30 : decode cX7_back 30 = .ok (.iastore, 1) := by decide +kernel
theorem dX7_back_31 : decode cX7_back 31 = .ok (.iinc 1 1, 3) := by decide +kernel
theorem dX7_back_34 : decode cX7_back 34 = .ok (.goto (-21), 3) := by decide +kernel
theorem dX7_back_37 : decode cX7_back 37 = .ok (.iconst 0, 1) := by decide +kernel
theorem dX7_back_38 : decode cX7_back 38 = .ok (.istore_n 1, 1) := by decide +kernel
theorem dX7_back_39 : decode cX7_back 39 = .ok (.iload_n 1, 1) := by decide +kernel
theorem dX7_back_40 : decode cX7_back 40 = .ok (.bipush 30, 2) := by decide +kernel
theorem dX7_back_42 : decode cX7_back 42 = .ok (.if_icmp .ge 21, 3) := by decide +kernel
theorem dX7_back_45 : decode cX7_back 45 = .ok (.aload_n 0, 1) := by decide +kernel
theorem dX7_back_46 : decode cX7_back 46 = .ok (.getfield 29, 3) := by decide +kernel
theorem dX7_back_49 : decode cX7_back 49 = .ok (.iload_n 1, 1) := by decide +kernel
theorem dX7_back_50 : decode cX7_back 50 = .ok (.aload_n 0, 1) := by decide +kernel
theorem dX7_back_51 : decode cX7_back 51 = .ok (.getfield 38, 3) := by decide +kernel
theorem dX7_back_54 : decode cX7_back 54 = .ok (.iload_n 1, 1) := by decide +kernel
theorem dX7_back_55 : decode cX7_back 55 = .ok (.iaload, 1) := by decide +kernel
theorem dX7_back_56 : decode cX7_back 56 = .ok (.iastore, 1) := by decide +kernel
theorem dX7_back_57 : decode cX7_back 57 = .ok (.iinc 1 1, 3) := by decide +kernel
theorem dX7_back_60 : decode cX7_back 60 = .ok (.goto (-21), 3) := by decide +kernel
theorem dX7_back_63 : decode cX7_back 63 = .ok (.aload_n 0, 1) := by decide +kernel
theorem dX7_back_64 : decode cX7_back 64 = .ok (.aload_n 0, 1) := by decide +kernel
theorem dX7_back_65 : decode cX7_back 65 = .ok (.getfield 41, 3) := by decide +kernel
theorem dX7_back_68 : decode cX7_back 68 = .ok (.putfield 64, 3) := by decide +kernel
theorem dX7_back_71 : decode cX7_back 71 = .ok (.aload_n 0, 1) := by decide +kernel
theorem dX7_back_72 : decode cX7_back 72 = .ok (.aload_n 0, 1) := by decide +kernel
theorem dX7_back_73 : decode cX7_back 73 = .ok (.getfield 413, 3) := by decide +kernel
theorem dX7_back_76 : decode cX7_back 76 = .ok (.putfield 95, 3) := by decide +kernel
theorem dX7_back_79 : decode cX7_back 79 = .ok (.aload_n 0, 1) := by decide +kernel
theorem dX7_back_80 : decode cX7_back 80 = .ok (.aload_n 0, 1) := by decide +kernel
theorem dX7_back_81 : decode cX7_back 81 = .ok (.getfield 416, 3) := by decide +kernel
theorem dX7_back_84 : decode cX7_back 84 = .ok (.putfield 98, 3) := by decide +kernel
theorem dX7_back_87 : decode cX7_back 87 = .ok (.aload_n 0, 1) := by decide +kernel
theorem dX7_back_88 : decode cX7_back 88 = .ok (.getfield 64, 3) := by decide +kernel
theorem dX7_back_91 : decode cX7_back 91 = .ok (.ireturn, 1) := by decide +kernel
theorem dX7_count_0 : decode cX7_count 0 = .ok (.iload_n 1, 1) := by decide +kernel
theorem dX7_count_1 : decode cX7_count 1 = .ok (.i2l, 1) := by decide +kernel
theorem dX7_count_2 : decode cX7_count 2 = .ok (.lconst 0, 1) := by decide +kernel
theorem dX7_count_3 : decode cX7_count 3 = .ok (.ldc2_w 77, 3) := by decide +kernel
theorem dX7_count_6 : decode cX7_count 6 = .ok (.invokestatic 67, 3) := by decide +kernel
theorem dX7_count_9 : decode cX7_count 9 = .ok (.ifCond .ne 6, 3) := by decide +kernel
theorem dX7_count_12 : decode cX7_count 12 = .ok (.bipush (-2), 2) := by decide +kernel
theorem dX7_count_14 : decode cX7_count 14 = .ok (.ireturn, 1) := by decide +kernel
theorem dX7_count_15 : decode cX7_count 15 = .ok (.iload_n 1, 1) := by decide +kernel
theorem dX7_count_16 : decode cX7_count 16 = .ok (.iconst 2, 1) := by decide +kernel
theorem dX7_count_17 : decode cX7_count 17 = .ok (.if_icmp .lt 8, 3) := by decide +kernel
theorem dX7_count_20 : decode cX7_count 20 = .ok (.iload_n 1, 1) := by decide +kernel
theorem dX7_count_21 : decode cX7_count 21 = .ok (.iconst 3, 1) := by decide +kernel
theorem dX7_count_22 : decode cX7_count 22 = .ok (.if_icmp .le 55, 3) := by decide +kernel
theorem dX7_count_25 : decode cX7_count 25 = .ok (.iload_n 1, 1) := by decide +kernel
theorem dX7_count_26 : decode cX7_count 26 = .ok (.ifCond .ne 10, 3) := by decide +kernel
theorem dX7_count_29 : decode cX7_count 29 = .ok (.aload_n 0, 1) := by decide +kernel
theorem dX7_count_30 : decode cX7_count 30 = .ok (.getfield 64, 3) := by decide +kernel
theorem dX7_count_33 : decode cX7_count 33 = .ok (.goto 43, 3) := by decide +kernel
theorem dX7_count_36 : decode cX7_count 36 = .ok (.iload_n 1, 1) := by decide +kernel
theorem dX7_count_37 : decode cX7_count 37 = .ok (.iconst 1, 1) := by decide +kernel
theorem dX7_count_38 : decode cX7_count 38 = .ok (.if_icmp .ne 10, 3) := by decide +kernel
theorem dX7_count_41 : decode cX7_count 41 = .ok (.aload_n 0, 1) := by decide +kernel
theorem dX7_count_42 : decode cX7_count 42 = .ok (.getfield 95, 3) := by decide +kernel
theorem dX7_count_45 : decode cX7_count 45 = .ok (.goto 31, 3) := by decide +kernel
theorem dX7_count_48 : decode cX7_count 48 = .ok (.iload_n 1, 1) := by decide +kernel
theorem dX7_count_49 : decode cX7_count 49 = .ok (.iconst 4, 1) := by decide +kernel
theorem dX7_count_50 : decode cX7_count 50 = .ok (.if_icmp .ne 10, 3) := by decide +kernel
theorem dX7_count_53 : decode cX7_count 53 = .ok (.aload_n 0, 1) := by decide +kernel
theorem dX7_count_54 : decode cX7_count 54 = .ok (.getfield 61, 3) := by decide +kernel
theorem dX7_count_57 : decode cX7_count 57 = .ok (.goto 19, 3) := by decide +kernel
theorem dX7_count_60 : decode cX7_count 60 = .ok (.iload_n 1, 1) := by decide +kernel
theorem dX7_count_61 : decode cX7_count 61 = .ok (.iconst 5, 1) := by decide +kernel
theorem dX7_count_62 : decode cX7_count 62 = .ok (.if_icmp .ne 10, 3) := by decide +kernel
theorem dX7_count_65 : decode cX7_count 65 = .ok (.aload_n 0, 1) := by decide +kernel
theorem dX7_count_66 : decode cX7_count 66 = .ok (.getfield 131, 3) := by decide +kernel
theorem dX7_count_69 : decode cX7_count 69 = .ok (.goto 7, 3) := by decide +kernel
theorem dX7_count_72 : decode cX7_count 72 = .ok (.aload_n 0, 1) := by decide +kernel
theorem dX7_count_73 : decode cX7_count 73 = .ok (.getfield 98, 3) := by decide +kernel
theorem dX7_count_76 : decode cX7_count 76 = .ok (.ireturn, 1) := by decide +kernel
theorem dX7_count_77 : decode cX7_count 77 = .ok (.iconst 0, 1) := by decide +kernel
theorem dX7_count_78 : decode cX7_count 78 = .ok (.istore_n 2, 1) := by decide +kernel
theorem dX7_count_79 : decode cX7_count 79 = .ok (.iconst 0, 1) := by decide +kernel
theorem dX7_count_80 : decode cX7_count 80 = .ok (.istore_n 3, 1) := by decide +kernel
theorem dX7_count_81 : decode cX7_count 81 = .ok (.iload_n 3, 1) := by decide +kernel
theorem dX7_count_82 : decode cX7_count 82 = .ok (.aload_n 0, 1) := by decide +kernel
theorem dX7_count_83 : decode cX7_count 83 = .ok (.getfield 64, 3) := by decide +kernel
theorem dX7_count_86 : decode cX7_count 86 = .ok (.if_icmp .ge 46, 3) := by decide +kernel
theorem dX7_count_89 : decode cX7_count 89 = .ok (.aload_n 0, 1) := by decide +kernel
theorem dX7_count_90 : decode cX7_count 90 = .ok (.iload_n 3, 1) := by decide +kernel
theorem dX7_count_91 : decode cX7_count 91 = .ok (.invokevirtual 109, 3) := by decide +kernel
theorem dX7_count_94 : decode cX7_count 94 = .ok (.iload_n 2, 1) := by decide +kernel
theorem dX7_count_95 : decode cX7_count 95 = .ok (.iload_n 1, 1) := by decide +kernel
theorem dX7_count_96 : decode cX7_count 96 = .ok (.iconst 2, 1) := by decide +kernel
theorem dX7_count_97 : decode cX7_count 97 = .ok (.if_icmp .ne 14, 3) := by decide +kernel
theorem dX7_count_100 : decode cX7_count 100 = .ok (.aload_n 0, 1) := by decide +kernel
theorem dX7_count_101 : decode cX7_count 101 = .ok (.iload_n 3, 1) := by decide +kernel
theorem dX7_count_102 : decode cX7_count 102 = .ok (.invokevirtual 362, 3) := by decide +kernel
theorem dX7_count_105 : decode cX7_count 105 = .ok (.ifCond .eq 18, 3) := by decide +kernel
theorem dX7_count_108 : decode cX7_count 108 = .ok (.goto 11, 3) := by decide +kernel
theorem dX7_count_111 : decode cX7_count 111 = .ok (.aload_n 0, 1) := by decide +kernel
theorem dX7_count_112 : decode cX7_count 112 = .ok (.iload_n 3, 1) := by decide +kernel
theorem dX7_count_113 : decode cX7_count 113 = .ok (.invokevirtual 125, 3) := by decide +kernel
theorem dX7_count_116 : decode cX7_count 116 = .ok (.ifCond .eq 7, 3) := by decide +kernel
theorem dX7_count_119 : decode cX7_count 119 = .ok (.iconst 1, 1) := by decide +kernel
theorem dX7_count_120 : decode cX7_count 120 = .ok (.goto 4, 3) := by decide +kernel
theorem dX7_count_123 : decode cX7_count 123 = .ok (.iconst 0, 1) := by decide +kernel
theorem dX7_count_124 : decode cX7_count 124 = .ok (.iadd, 1) := by decide +kernel
theorem dX7_count_125 : decode cX7_count 125 = .ok (.istore_n 2, 1) := by decide +kernel
theorem dX7_count_126 : decode cX7_count 126 = .ok (.iinc 3 1, 3) := by decide +kernel
theorem dX7_count_129 : decode cX7_count 129 = .ok (.goto (-48), 3) := by decide +kernel
theorem dX7_count_132 : decode cX7_count 132 = .ok (.iload_n 2, 1) := by decide +kernel
theorem dX7_count_133 : decode cX7_count 133 = .ok (.ireturn, 1) := by decide +kernel
theorem dX7_isSheet_0 : decode cX7_isSheet 0 = .ok (.iload_n 0, 1) := by decide +kernel
theorem dX7_isSheet_1 : decode cX7_isSheet 1 = .ok (.i2l, 1) := by decide +kernel
theorem dX7_isSheet_2 : decode cX7_isSheet 2 = .ok (.lconst 0, 1) := by decide +kernel
theorem dX7_isSheet_3 : decode cX7_isSheet 3 = .ok (.ldc2_w 367, 3) := by decide +kernel
theorem dX7_isSheet_6 : decode cX7_isSheet 6 = .ok (.invokestatic 67, 3) := by decide +kernel
theorem dX7_isSheet_9 : decode cX7_isSheet 9 = .ok (.ireturn, 1) := by decide +kernel
theorem dX7_sheet_0 : decode cX7_sheet 0 = .ok (.iload_n 1, 1) := by decide +kernel
theorem dX7_sheet_1 : decode cX7_sheet 1 = .ok (.invokestatic 393, 3) := by decide +kernel
theorem dX7_sheet_4 : decode cX7_sheet 4 = .ok (.ifCond .eq 27, 3) := by decide +kernel
theorem dX7_sheet_7 : decode cX7_sheet 7 = .ok (.iload_n 2, 1) := by decide +kernel
theorem dX7_sheet_8 : decode cX7_sheet 8 = .ok (.i2l, 1) := by decide +kernel
theorem dX7_sheet_9 : decode cX7_sheet 9 = .ok (.ldc2_w 419, 3) := by decide +kernel
theorem dX7_sheet_12 : decode cX7_sheet 12 = .ok (.ldc2_w 421, 3) := by decide +kernel
theorem dX7_sheet_15 : decode cX7_sheet 15 = .ok (.invokestatic 67, 3) := by decide +kernel
theorem dX7_sheet_18 : decode cX7_sheet 18 = .ok (.ifCond .eq 13, 3) := by decide +kernel
theorem dX7_sheet_21 : decode cX7_sheet 21 = .ok (.iload_n 2, 1) := by decide +kernel
theorem dX7_sheet_22 : decode cX7_sheet 22 = .ok (.ifCond .lt 12, 3) := by decide +kernel
theorem dX7_sheet_25 : decode cX7_sheet 25 = .ok (.iload_n 3, 1) := by decide +kernel
theorem dX7_sheet_26 : decode cX7_sheet 26 = .ok (.bipush 40, 2) := by decide +kernel
theorem dX7_sheet_28 : decode cX7_sheet 28 = .ok (.if_icmp .le 6, 3) := by decide +kernel
theorem dX7_sheet_31 : decode cX7_sheet 31 = .ok (.bipush (-2), 2) := by decide +kernel
theorem dX7_sheet_33 : decode cX7_sheet 33 = .ok (.ireturn, 1) := by decide +kernel
theorem dX7_sheet_34 : decode cX7_sheet 34 = .ok (.iload_n 2, 1) := by decide +kernel
theorem dX7_sheet_35 : decode cX7_sheet 35 = .ok (.ifCond .lt 10, 3) := by decide +kernel
theorem dX7_sheet_38 : decode cX7_sheet 38 = .ok (.iload_n 3, 1) := by decide +kernel
theorem dX7_sheet_39 : decode cX7_sheet 39 = .ok (.ifCond .ge 6, 3) := by decide +kernel
theorem dX7_sheet_42 : decode cX7_sheet 42 = .ok (.bipush (-14), 2) := by decide +kernel
theorem dX7_sheet_44 : decode cX7_sheet 44 = .ok (.ireturn, 1) := by decide +kernel
theorem dX7_sheet_45 : decode cX7_sheet 45 = .ok (.aload_n 0, 1) := by decide +kernel
theorem dX7_sheet_46 : decode cX7_sheet 46 = .ok (.getfield 44, 3) := by decide +kernel
theorem dX7_sheet_49 : decode cX7_sheet 49 = .ok (.iload_n 1, 1) := by decide +kernel
theorem dX7_sheet_50 : decode cX7_sheet 50 = .ok (.iload_n 2, 1) := by decide +kernel
theorem dX7_sheet_51 : decode cX7_sheet 51 = .ok (.ifCond .lt 7, 3) := by decide +kernel
theorem dX7_sheet_54 : decode cX7_sheet 54 = .ok (.iconst 1, 1) := by decide +kernel
theorem dX7_sheet_55 : decode cX7_sheet 55 = .ok (.goto 4, 3) := by decide +kernel
theorem dX7_sheet_58 : decode cX7_sheet 58 = .ok (.iconst 0, 1) := by decide +kernel
theorem dX7_sheet_59 : decode cX7_sheet 59 = .ok (.bastore, 1) := by decide +kernel
theorem dX7_sheet_60 : decode cX7_sheet 60 = .ok (.aload_n 0, 1) := by decide +kernel
theorem dX7_sheet_61 : decode cX7_sheet 61 = .ok (.getfield 48, 3) := by decide +kernel
theorem dX7_sheet_64 : decode cX7_sheet 64 = .ok (.iload_n 1, 1) := by decide +kernel
theorem dX7_sheet_65 : decode cX7_sheet 65 = .ok (.iload_n 2, 1) := by decide +kernel
theorem dX7_sheet_66 : decode cX7_sheet 66 = .ok (.iastore, 1) := by decide +kernel
theorem dX7_sheet_67 : decode cX7_sheet 67 = .ok (.aload_n 0, 1) := by decide +kernel
theorem dX7_sheet_68 : decode cX7_sheet 68 = .ok (.getfield 51, 3) := by decide +kernel
theorem dX7_sheet_71 : decode cX7_sheet 71 = .ok (.iload_n 1, 1) := by decide +kernel
theorem dX7_sheet_72 : decode cX7_sheet 72 = .ok (.iload_n 3, 1) := by decide +kernel
theorem dX7_sheet_73 : decode cX7_sheet 73 = .ok (.iastore, 1) := by decide +kernel
theorem dX7_sheet_74 : decode cX7_sheet 74 = .ok (.iconst 0, 1) := by decide +kernel
theorem dX7_sheet_75 : decode cX7_sheet 75 = .ok (.istore 4, 2) := by decide +kernel
theorem dX7_sheet_77 : decode cX7_sheet 77 = .ok (.iload 4, 2) := by decide +kernel
theorem dX7_sheet_79 : decode cX7_sheet 79 = .ok (.iload_n 3, 1) := by decide +kernel
theorem dX7_sheet_80 : decode cX7_sheet 80 = .ok (.if_icmp .ge 26, 3) := by decide +kernel
theorem dX7_sheet_83 : decode cX7_sheet 83 = .ok (.iload_n 2, 1) := by decide +kernel
theorem dX7_sheet_84 : decode cX7_sheet 84 = .ok (.ifCond .lt 22, 3) := by decide +kernel
theorem dX7_sheet_87 : decode cX7_sheet 87 = .ok (.aload_n 0, 1) := by decide +kernel
theorem dX7_sheet_88 : decode cX7_sheet 88 = .ok (.getfield 54, 3) := by decide +kernel
theorem dX7_sheet_91 : decode cX7_sheet 91 = .ok (.bipush 40, 2) := by decide +kernel
theorem dX7_sheet_93 : decode cX7_sheet 93 = .ok (.iload_n 1, 1) := by decide +kernel
theorem dX7_sheet_94 : decode cX7_sheet 94 = .ok (.imul, 1) := by decide +kernel
theorem dX7_sheet_95 : decode cX7_sheet 95 = .ok (.iload 4, 2) := by decide +kernel
theorem dX7_sheet_97 : decode cX7_sheet 97 = .ok (.iadd, 1) := by decide +kernel
theorem dX7_sheet_98 : decode cX7_sheet 98 = .ok (.iconst 0, 1) := by decide +kernel
theorem dX7_sheet_99 : decode cX7_sheet 99 = .ok (.iastore, 1) := by decide +kernel
theorem dX7_sheet_100 : decode cX7_sheet 100 = .ok (.iinc 4 1, 3) := by decide +kernel
theorem dX7_sheet_103 : decode cX7_sheet 103 = .ok (.goto (-26), 3) := by decide +kernel
theorem dX7_sheet_106 : decode cX7_sheet 106 = .ok (.iconst 1, 1) := by decide +kernel
theorem dX7_sheet_107 : decode cX7_sheet 107 = .ok (.ireturn, 1) := by decide +kernel
theorem dX7_cell_0 : decode cX7_cell 0 = .ok (.iload_n 1, 1) := by decide +kernel
theorem dX7_cell_1 : decode cX7_cell 1 = .ok (.invokestatic 393, 3) := by decide +kernel
theorem dX7_cell_4 : decode cX7_cell 4 = .ok (.ifCond .ne 6, 3) := by decide +kernel
theorem dX7_cell_7 : decode cX7_cell 7 = .ok (.bipush (-2), 2) := by decide +kernel
theorem dX7_cell_9 : decode cX7_cell 9 = .ok (.ireturn, 1) := by decide +kernel
theorem dX7_cell_10 : decode cX7_cell 10 = .ok (.aload_n 0, 1) := by decide +kernel
theorem dX7_cell_11 : decode cX7_cell 11 = .ok (.getfield 44, 3) := by decide +kernel
theorem dX7_cell_14 : decode cX7_cell 14 = .ok (.iload_n 1, 1) := by decide +kernel
theorem dX7_cell_15 : decode cX7_cell 15 = .ok (.baload, 1) := by decide +kernel
theorem dX7_cell_16 : decode cX7_cell 16 = .ok (.ifCond .ne 6, 3) := by decide +kernel
theorem dX7_cell_19 : decode cX7_cell 19 = .ok (.bipush (-11), 2) := by decide +kernel
theorem dX7_cell_21 : decode cX7_cell 21 = .ok (.ireturn, 1) := by decide +kernel
theorem dX7_cell_22 : decode cX7_cell 22 = .ok (.iload_n 2, 1) := by decide +kernel
theorem dX7_cell_23 : decode cX7_cell 23 = .ok (.i2l, 1) := by decide +kernel
theorem dX7_cell_24 : decode cX7_cell 24 = .ok (.lconst 0, 1) := by decide +kernel
theorem dX7_cell_25 : decode cX7_cell 25 = .ok (.aload_n 0, 1) := by decide +kernel
theorem dX7_cell_26 : decode cX7_cell 26 = .ok (.getfield 51, 3) := by decide +kernel
theorem dX7_cell_29 : decode cX7_cell 29 = .ok (.iload_n 1, 1) := by decide +kernel
theorem dX7_cell_30 : decode cX7_cell 30 = .ok (.iaload, 1) := by decide +kernel
theorem dX7_cell_31 : decode cX7_cell 31 = .ok (.iconst 1, 1) := by decide +kernel
theorem dX7_cell_32 : decode cX7_cell 32 = .ok (.isub, 1) := by decide +kernel
theorem dX7_cell_33 : decode cX7_cell 33 = .ok (.i2l, 1) := by decide +kernel
theorem dX7_cell_34 : decode cX7_cell 34 = .ok (.invokestatic 67, 3) := by decide +kernel
theorem dX7_cell_37 : decode cX7_cell 37 = .ok (.ifCond .ne 6, 3) := by decide +kernel
theorem dX7_cell_40 : decode cX7_cell 40 = .ok (.bipush (-12), 2) := by decide +kernel
theorem dX7_cell_42 : decode cX7_cell 42 = .ok (.ireturn, 1) := by decide +kernel
theorem dX7_cell_43 : decode cX7_cell 43 = .ok (.aload_n 0, 1) := by decide +kernel
theorem dX7_cell_44 : decode cX7_cell 44 = .ok (.getfield 54, 3) := by decide +kernel
theorem dX7_cell_47 : decode cX7_cell 47 = .ok (.bipush 40, 2) := by decide +kernel
theorem dX7_cell_49 : decode cX7_cell 49 = .ok (.iload_n 1, 1) := by decide +kernel
theorem dX7_cell_50 : decode cX7_cell 50 = .ok (.imul, 1) := by decide +kernel
theorem dX7_cell_51 : decode cX7_cell 51 = .ok (.iload_n 2, 1) := by decide +kernel
theorem dX7_cell_52 : decode cX7_cell 52 = .ok (.iadd, 1) := by decide +kernel
theorem dX7_cell_53 : decode cX7_cell 53 = .ok (.aload_n 0, 1) := by decide +kernel
theorem dX7_cell_54 : decode cX7_cell 54 = .ok (.getfield 48, 3) := by decide +kernel
theorem dX7_cell_57 : decode cX7_cell 57 = .ok (.iload_n 1, 1) := by decide +kernel
theorem dX7_cell_58 : decode cX7_cell 58 = .ok (.iaload, 1) := by decide +kernel
theorem dX7_cell_59 : decode cX7_cell 59 = .ok (.ifCond .ne 8, 3) := by decide +kernel
theorem dX7_cell_62 : decode cX7_cell 62 = .ok (.iload_n 3, 1) := by decide +kernel
theorem dX7_cell_63 : decode cX7_cell 63 = .ok (.i2b, 1) := by decide +kernel
theorem dX7_cell_64 : decode cX7_cell 64 = .ok (.goto 19, 3) := by decide +kernel
theorem dX7_cell_67 : decode cX7_cell 67 = .ok (.aload_n 0, 1) := by decide +kernel
theorem dX7_cell_68 : decode cX7_cell 68 = .ok (.getfield 48, 3) := by decide +kernel
theorem dX7_cell_71 : decode cX7_cell 71 = .ok (.iload_n 1, 1) := by decide +kernel
theorem dX7_cell_72 : decode cX7_cell 72 = .ok (.iaload, 1) := by decide +kernel
theorem dX7_cell_73 : decode cX7_cell 73 = .ok (.iconst 1, 1) := by decide +kernel
theorem dX7_cell_74 : decode cX7_cell 74 = .ok (.if_icmp .ne 8, 3) := by decide +kernel
theorem dX7_cell_77 : decode cX7_cell 77 = .ok (.iload_n 3, 1) := by decide +kernel
theorem dX7_cell_78 : decode cX7_cell 78 = .ok (.i2s, 1) := by decide +kernel
theorem dX7_cell_79 : decode cX7_cell 79 = .ok (.goto 4, 3) := by decide +kernel
theorem dX7_cell_82 : decode cX7_cell 82 = .ok (.iload_n 3, 1) := by decide +kernel
theorem dX7_cell_83 : decode cX7_cell 83 = .ok (.iastore, 1) := by decide +kernel
theorem dX7_cell_84 : decode cX7_cell 84 = .ok (.iconst 1, 1) := by decide +kernel
theorem dX7_cell_85 : decode cX7_cell 85 = .ok (.ireturn, 1) := by decide +kernel
theorem dX7_copy_0 : decode cX7_copy 0 = .ok (.iload_n 1, 1) := by decide +kernel
theorem dX7_copy_1 : decode cX7_copy 1 = .ok (.invokestatic 393, 3) := by decide +kernel
theorem dX7_copy_4 : decode cX7_copy 4 = .ok (.ifCond .eq 10, 3) := by decide +kernel
theorem dX7_copy_7 : decode cX7_copy 7 = .ok (.iload_n 3, 1) := by decide +kernel
theorem dX7_copy_8 : decode cX7_copy 8 = .ok (.invokestatic 393, 3) := by decide +kernel
theorem dX7_copy_11 : decode cX7_copy 11 = .ok (.ifCond .ne 6, 3) := by decide +kernel
theorem dX7_copy_14 : decode cX7_copy 14 = .ok (.bipush (-2), 2) := by decide +kernel
theorem dX7_copy_16 : decode cX7_copy 16 = .ok (.ireturn, 1) := by decide +kernel
theorem dX7_copy_17 : decode cX7_copy 17 = .ok (.aload_n 0, 1) := by decide +kernel
theorem dX7_copy_18 : decode cX7_copy 18 = .ok (.getfield 44, 3) := by decide +kernel
theorem dX7_copy_21 : decode cX7_copy 21 = .ok (.iload_n 1, 1) := by decide +kernel
theorem dX7_copy_22 : decode cX7_copy 22 = .ok (.baload, 1) := by decide +kernel
theorem dX7_copy_23 : decode cX7_copy 23 = .ok (.ifCond .eq 12, 3) := by decide +kernel
theorem dX7_copy_26 : decode cX7_copy 26 = .ok (.aload_n 0, 1) := by decide +kernel
theorem dX7_copy_27 : decode cX7_copy 27 = .ok (.getfield 44, 3) := by decide +kernel
theorem dX7_copy_30 : decode cX7_copy 30 = .ok (.iload_n 3, 1) := by decide +kernel
theorem dX7_copy_31 : decode cX7_copy 31 = .ok (.baload, 1) := by decide +kernel
theorem dX7_copy_32 : decode cX7_copy 32 = .ok (.ifCond .ne 6, 3) := by decide +kernel
theorem dX7_copy_35 : decode cX7_copy 35 = .ok (.bipush (-11), 2) := by decide +kernel
theorem dX7_copy_37 : decode cX7_copy 37 = .ok (.ireturn, 1) := by decide +kernel
theorem dX7_copy_38 : decode cX7_copy 38 = .ok (.aload_n 0, 1) := by decide +kernel
theorem dX7_copy_39 : decode cX7_copy 39 = .ok (.getfield 48, 3) := by decide +kernel
theorem dX7_copy_42 : decode cX7_copy 42 = .ok (.iload_n 1, 1) := by decide +kernel
theorem dX7_copy_43 : decode cX7_copy 43 = .ok (.iaload, 1) := by decide +kernel
theorem dX7_copy_44 : decode cX7_copy 44 = .ok (.aload_n 0, 1) := by decide +kernel
theorem dX7_copy_45 : decode cX7_copy 45 = .ok (.getfield 48, 3) := by decide +kernel
theorem dX7_copy_48 : decode cX7_copy 48 = .ok (.iload_n 3, 1) := by decide +kernel
theorem dX7_copy_49 : decode cX7_copy 49 = .ok (.iaload, 1) := by decide +kernel
theorem dX7_copy_50 : decode cX7_copy 50 = .ok (.if_icmp .eq 6, 3) := by decide +kernel
theorem dX7_copy_53 : decode cX7_copy 53 = .ok (.bipush (-13), 2) := by decide +kernel
theorem dX7_copy_55 : decode cX7_copy 55 = .ok (.ireturn, 1) := by decide +kernel
theorem dX7_copy_56 : decode cX7_copy 56 = .ok (.iload 5, 2) := by decide +kernel
theorem dX7_copy_58 : decode cX7_copy 58 = .ok (.ifCond .lt 39, 3) := by decide +kernel
theorem dX7_copy_61 : decode cX7_copy 61 = .ok (.iload_n 2, 1) := by decide +kernel
theorem dX7_copy_62 : decode cX7_copy 62 = .ok (.ifCond .lt 35, 3) := by decide +kernel
theorem dX7_copy_65 : decode cX7_copy 65 = .ok (.iload 4, 2) := by decide +kernel
theorem dX7_copy_67 : decode cX7_copy 67 = .ok (.ifCond .lt 30, 3) := by decide +kernel
theorem dX7_copy_70 : decode cX7_copy 70 = .ok (.iload_n 2, 1) := by decide +kernel
theorem dX7_copy_71 : decode cX7_copy 71 = .ok (.aload_n 0, 1) := by decide +kernel
theorem dX7_copy_72 : decode cX7_copy 72 = .ok (.getfield 51, 3) := by decide +kernel
theorem dX7_copy_75 : decode cX7_copy 75 = .ok (.iload_n 1, 1) := by decide +kernel
theorem dX7_copy_76 : decode cX7_copy 76 = .ok (.iaload, 1) := by decide +kernel
theorem dX7_copy_77 : decode cX7_copy 77 = .ok (.iload 5, 2) := by decide +kernel
theorem dX7_copy_79 : decode cX7_copy 79 = .ok (.isub, 1) := by decide +kernel
theorem dX7_copy_80 : decode cX7_copy 80 = .ok (.if_icmp .gt 17, 3) := by decide +kernel
theorem dX7_copy_83 : decode cX7_copy 83 = .ok (.iload 4, 2) := by decide +kernel
theorem dX7_copy_85 : decode cX7_copy 85 = .ok (.aload_n 0, 1) := by decide +kernel
theorem dX7_copy_86 : decode cX7_copy 86 = .ok (.getfield 51, 3) := by decide +kernel
theorem dX7_copy_89 : decode cX7_copy 89 = .ok (.iload_n 3, 1) := by decide +kernel
theorem dX7_copy_90 : decode cX7_copy 90 = .ok (.iaload, 1) := by decide +kernel
theorem dX7_copy_91 : decode cX7_copy 91 = .ok (.iload 5, 2) := by decide +kernel
theorem dX7_copy_93 : decode cX7_copy 93 = .ok (.isub, 1) := by decide +kernel
theorem dX7_copy_94 : decode cX7_copy 94 = .ok (.if_icmp .le 6, 3) := by decide +kernel
theorem dX7_copy_97 : decode cX7_copy 97 = .ok (.bipush (-12), 2) := by decide +kernel
theorem dX7_copy_99 : decode cX7_copy 99 = .ok (.ireturn, 1) := by decide +kernel
theorem dX7_copy_100 : decode cX7_copy 100 = .ok (.iload_n 1, 1) := by decide +kernel
theorem dX7_copy_101 : decode cX7_copy 101 = .ok (.iload_n 3, 1) := by decide +kernel
theorem dX7_copy_102 : decode cX7_copy 102 = .ok (.if_icmp .ne 13, 3) := by decide +kernel
theorem dX7_copy_105 : decode cX7_copy 105 = .ok (.iload_n 2, 1) := by decide +kernel
theorem dX7_copy_106 : decode cX7_copy 106 = .ok (.iload 4, 2) := by decide +kernel
theorem dX7_copy_108 : decode cX7_copy 108 = .ok (.if_icmp .ge 7, 3) := by decide +kernel
theorem dX7_copy_111 : decode cX7_copy 111 = .ok (.iconst 1, 1) := by decide +kernel
theorem dX7_copy_112 : decode cX7_copy 112 = .ok (.goto 4, 3) := by decide +kernel
theorem dX7_copy_115 : decode cX7_copy 115 = .ok (.iconst 0, 1) := by decide +kernel
theorem dX7_copy_116 : decode cX7_copy 116 = .ok (.istore 6, 2) := by decide +kernel
theorem dX7_copy_118 : decode cX7_copy 118 = .ok (.iconst 0, 1) := by decide +kernel
theorem dX7_copy_119 : decode cX7_copy 119 = .ok (.istore 7, 2) := by decide +kernel
theorem dX7_copy_121 : decode cX7_copy 121 = .ok (.iload 7, 2) := by decide +kernel
theorem dX7_copy_123 : decode cX7_copy 123 = .ok (.iload 5, 2) := by decide +kernel
theorem dX7_copy_125 : decode cX7_copy 125 = .ok (.if_icmp .ge 57, 3) := by decide +kernel
theorem dX7_copy_128 : decode cX7_copy 128 = .ok (.iload 6, 2) := by decide +kernel
theorem dX7_copy_130 : decode cX7_copy 130 = .ok (.ifCond .eq 13, 3) := by decide +kernel
theorem dX7_copy_133 : decode cX7_copy 133 = .ok (.iload 5, 2) := by decide +kernel
theorem dX7_copy_135 : decode cX7_copy 135 = .ok (.iconst 1, 1) := by decide +kernel
theorem dX7_copy_136 : decode cX7_copy 136 = .ok (.isub, 1) := by decide +kernel
theorem dX7_copy_137 : decode cX7_copy 137 = .ok (.iload 7, 2) := by decide +kernel
theorem dX7_copy_139 : decode cX7_copy 139 = .ok (.isub, 1) := by decide +kernel
theorem dX7_copy_140 : decode cX7_copy 140 = .ok (.goto 5, 3) := by decide +kernel
theorem dX7_copy_143 : decode cX7_copy 143 = .ok (.iload 7, 2) := by decide +kernel
theorem dX7_copy_145 : decode cX7_copy 145 = .ok (.istore 8, 2) := by decide +kernel
theorem dX7_copy_147 : decode cX7_copy 147 = .ok (.aload_n 0, 1) := by decide +kernel
theorem dX7_copy_148 : decode cX7_copy 148 = .ok (.getfield 54, 3) := by decide +kernel
theorem dX7_copy_151 : decode cX7_copy 151 = .ok (.bipush 40, 2) := by decide +kernel
theorem dX7_copy_153 : decode cX7_copy 153 = .ok (.iload_n 3, 1) := by decide +kernel
theorem dX7_copy_154 : decode cX7_copy 154 = .ok (.imul, 1) := by decide +kernel
theorem dX7_copy_155 : decode cX7_copy 155 = .ok (.iload 4, 2) := by decide +kernel
theorem dX7_copy_157 : decode cX7_copy 157 = .ok (.iadd, 1) := by decide +kernel
theorem dX7_copy_158 : decode cX7_copy 158 = .ok (.iload 8, 2) := by decide +kernel
theorem dX7_copy_160 : decode cX7_copy 160 = .ok (.iadd, 1) := by decide +kernel
theorem dX7_copy_161 : decode cX7_copy 161 = .ok (.aload_n 0, 1) := by decide +kernel
theorem dX7_copy_162 : decode cX7_copy 162 = .ok (.getfield 54, 3) := by decide +kernel
theorem dX7_copy_165 : decode cX7_copy 165 = .ok (.bipush 40, 2) := by decide +kernel
theorem dX7_copy_167 : decode cX7_copy 167 = .ok (.iload_n 1, 1) := by decide +kernel
theorem dX7_copy_168 : decode cX7_copy 168 = .ok (.imul, 1) := by decide +kernel
theorem dX7_copy_169 : decode cX7_copy 169 = .ok (.iload_n 2, 1) := by decide +kernel
theorem dX7_copy_170 : decode cX7_copy 170 = .ok (.iadd, 1) := by decide +kernel
theorem dX7_copy_171 : decode cX7_copy 171 = .ok (.iload 8, 2) := by decide +kernel
theorem dX7_copy_173 : decode cX7_copy 173 = .ok (.iadd, 1) := by decide +kernel
theorem dX7_copy_174 : decode cX7_copy 174 = .ok (.iaload, 1) := by decide +kernel
theorem dX7_copy_175 : decode cX7_copy 175 = .ok (.iastore, 1) := by decide +kernel
theorem dX7_copy_176 : decode cX7_copy 176 = .ok (.iinc 7 1, 3) := by decide +kernel
theorem dX7_copy_179 : decode cX7_copy 179 = .ok (.goto (-58), 3) := by decide +kernel
theorem dX7_copy_182 : decode cX7_copy 182 = .ok (.iload 5, 2) := by decide +kernel
theorem dX7_copy_184 : decode cX7_copy 184 = .ok (.ireturn, 1) := by decide +kernel
theorem dX7_walkers_0 : decode cX7_walkers 0 = .ok (.iload_n 1, 1) := by decide +kernel
theorem dX7_walkers_1 : decode cX7_walkers 1 = .ok (.invokestatic 393, 3) := by decide +kernel
theorem dX7_walkers_4 : decode cX7_walkers 4 = .ok (.ifCond .eq 28, 3) := by decide +kernel
theorem dX7_walkers_7 : decode cX7_walkers 7 = .ok (.iload_n 2, 1) := by decide +kernel
theorem dX7_walkers_8 : decode cX7_walkers 8 = .ok (.i2l, 1) := by decide +kernel
theorem dX7_walkers_9 : decode cX7_walkers 9 = .ok (.lconst 0, 1) := by decide +kernel
theorem dX7_walkers_10 : decode cX7_walkers 10 = .ok (.ldc2_w 421, 3) := by decide +kernel
theorem dX7_walkers_13 : decode cX7_walkers 13 = .ok (.invokestatic 67, 3) := by decide +kernel
theorem dX7_walkers_16 : decode cX7_walkers 16 = .ok (.ifCond .eq 16, 3) := by decide +kernel
theorem dX7_walkers_19 : decode cX7_walkers 19 = .ok (.iload 4, 2) := by decide +kernel
theorem dX7_walkers_21 : decode cX7_walkers 21 = .ok (.i2l, 1) := by decide +kernel
theorem dX7_walkers_22 : decode cX7_walkers 22 = .ok (.lconst 0, 1) := by decide +kernel
theorem dX7_walkers_23 : decode cX7_walkers 23 = .ok (.ldc2_w 77, 3) := by decide +kernel
theorem dX7_walkers_26 : decode cX7_walkers 26 = .ok (.invokestatic 67, 3) := by decide +kernel
theorem dX7_walkers_29 : decode cX7_walkers 29 = .ok (.ifCond .ne 6, 3) := by decide +kernel
theorem dX7_walkers_32 : decode cX7_walkers 32 = .ok (.bipush (-2), 2) := by decide +kernel
theorem dX7_walkers_34 : decode cX7_walkers 34 = .ok (.ireturn, 1) := by decide +kernel
theorem dX7_walkers_35 : decode cX7_walkers 35 = .ok (.aload_n 0, 1) := by decide +kernel
theorem dX7_walkers_36 : decode cX7_walkers 36 = .ok (.getfield 44, 3) := by decide +kernel
theorem dX7_walkers_39 : decode cX7_walkers 39 = .ok (.iload_n 1, 1) := by decide +kernel
theorem dX7_walkers_40 : decode cX7_walkers 40 = .ok (.baload, 1) := by decide +kernel
theorem dX7_walkers_41 : decode cX7_walkers 41 = .ok (.ifCond .eq 16, 3) := by decide +kernel
theorem dX7_walkers_44 : decode cX7_walkers 44 = .ok (.aload_n 0, 1) := by decide +kernel
theorem dX7_walkers_45 : decode cX7_walkers 45 = .ok (.getfield 48, 3) := by decide +kernel
theorem dX7_walkers_48 : decode cX7_walkers 48 = .ok (.iload_n 1, 1) := by decide +kernel
theorem dX7_walkers_49 : decode cX7_walkers 49 = .ok (.iaload, 1) := by decide +kernel
theorem dX7_walkers_50 : decode cX7_walkers 50 = .ok (.iload_n 2, 1) := by decide +kernel
theorem dX7_walkers_51 : decode cX7_walkers 51 = .ok (.if_icmp .eq 6, 3) := by decide +kernel
theorem dX7_walkers_54 : decode cX7_walkers 54 = .ok (.bipush (-13), 2) := by decide +kernel
theorem dX7_walkers_56 : decode cX7_walkers 56 = .ok (.ireturn, 1) := by decide +kernel
theorem dX7_walkers_57 : decode cX7_walkers 57 = .ok (.aload_n 0, 1) := by decide +kernel
theorem dX7_walkers_58 : decode cX7_walkers 58 = .ok (.getfield 44, 3) := by decide +kernel
theorem dX7_walkers_61 : decode cX7_walkers 61 = .ok (.iload_n 1, 1) := by decide +kernel
theorem dX7_walkers_62 : decode cX7_walkers 62 = .ok (.baload, 1) := by decide +kernel
theorem dX7_walkers_63 : decode cX7_walkers 63 = .ok (.ifCond .ne 6, 3) := by decide +kernel
theorem dX7_walkers_66 : decode cX7_walkers 66 = .ok (.bipush (-11), 2) := by decide +kernel
theorem dX7_walkers_68 : decode cX7_walkers 68 = .ok (.ireturn, 1) := by decide +kernel
theorem dX7_walkers_69 : decode cX7_walkers 69 = .ok (.iconst 0, 1) := by decide +kernel
theorem dX7_walkers_70 : decode cX7_walkers 70 = .ok (.istore 5, 2) := by decide +kernel
theorem dX7_walkers_72 : decode cX7_walkers 72 = .ok (.iconst 0, 1) := by decide +kernel
theorem dX7_walkers_73 : decode cX7_walkers 73 = .ok (.istore 6, 2) := by decide +kernel
theorem dX7_walkers_75 : decode cX7_walkers 75 = .ok (.iload 6, 2) := by decide +kernel
theorem dX7_walkers_77 : decode cX7_walkers 77 = .ok (.iload 4, 2) := by decide +kernel
theorem dX7_walkers_79 : decode cX7_walkers 79 = .ok (.if_icmp .ge 88, 3) := by decide +kernel
theorem dX7_walkers_82 : decode cX7_walkers 82 = .ok (.iload_n 3, 1) := by decide +kernel
theorem dX7_walkers_83 : decode cX7_walkers 83 = .ok (.ifCond .lt 20, 3) := by decide +kernel
theorem dX7_walkers_86 : decode cX7_walkers 86 = .ok (.iload_n 3, 1) := by decide +kernel
theorem dX7_walkers_87 : decode cX7_walkers 87 = .ok (.aload_n 0, 1) := by decide +kernel
theorem dX7_walkers_88 : decode cX7_walkers 88 = .ok (.getfield 51, 3) := by decide +kernel
theorem dX7_walkers_91 : decode cX7_walkers 91 = .ok (.iload_n 1, 1) := by decide +kernel
theorem dX7_walkers_92 : decode cX7_walkers 92 = .ok (.iaload, 1) := by decide +kernel
theorem dX7_walkers_93 : decode cX7_walkers 93 = .ok (.iconst 3, 1) := by decide +kernel
theorem dX7_walkers_94 : decode cX7_walkers 94 = .ok (.iload 6, 2) := by decide +kernel
theorem dX7_walkers_96 : decode cX7_walkers 96 = .ok (.imul, 1) := by decide +kernel
theorem dX7_walkers_97 : decode cX7_walkers 97 = .ok (.isub, 1) := by decide +kernel
theorem dX7_walkers_98 : decode cX7_walkers 98 = .ok (.iconst 3, 1) := by decide +kernel
theorem dX7_walkers_99 : decode cX7_walkers 99 = .ok (.isub, 1) := by decide +kernel
theorem dX7_walkers_100 : decode cX7_walkers 100 = .ok (.if_icmp .le 6, 3) := by decide +kernel
theorem dX7_walkers_103 : decode cX7_walkers 103 = .ok (.bipush (-12), 2) := by decide +kernel
theorem dX7_walkers_105 : decode cX7_walkers 105 = .ok (.ireturn, 1) := by decide +kernel
theorem dX7_walkers_106 : decode cX7_walkers 106 = .ok (.bipush 40, 2) := by decide +kernel
theorem dX7_walkers_108 : decode cX7_walkers 108 = .ok (.iload_n 1, 1) := by decide +kernel
theorem dX7_walkers_109 : decode cX7_walkers 109 = .ok (.imul, 1) := by decide +kernel
theorem dX7_walkers_110 : decode cX7_walkers 110 = .ok (.iload_n 3, 1) := by decide +kernel
theorem dX7_walkers_111 : decode cX7_walkers 111 = .ok (.iadd, 1) := by decide +kernel
theorem dX7_walkers_112 : decode cX7_walkers 112 = .ok (.iconst 3, 1) := by decide +kernel
theorem dX7_walkers_113 : decode cX7_walkers 113 = .ok (.iload 6, 2) := by decide +kernel
theorem dX7_walkers_115 : decode cX7_walkers 115 = .ok (.imul, 1) := by decide +kernel
theorem dX7_walkers_116 : decode cX7_walkers 116 = .ok (.iadd, 1) := by decide +kernel
theorem dX7_walkers_117 : decode cX7_walkers 117 = .ok (.istore 7, 2) := by decide +kernel
theorem dX7_walkers_119 : decode cX7_walkers 119 = .ok (.iload 5, 2) := by decide +kernel
theorem dX7_walkers_121 : decode cX7_walkers 121 = .ok (.aload_n 0, 1) := by decide +kernel
theorem dX7_walkers_122 : decode cX7_walkers 122 = .ok (.aload_n 0, 1) := by decide +kernel
theorem dX7_walkers_123 : decode cX7_walkers 123 = .ok (.getfield 54, 3) := by decide +kernel
theorem dX7_walkers_126 : decode cX7_walkers 126 = .ok (.iload 7, 2) := by decide +kernel
theorem dX7_walkers_128 : decode cX7_walkers 128 = .ok (.iaload, 1) := by decide +kernel
theorem dX7_walkers_129 : decode cX7_walkers 129 = .ok (.aload_n 0, 1) := by decide +kernel
theorem dX7_walkers_130 : decode cX7_walkers 130 = .ok (.getfield 54, 3) := by decide +kernel
theorem dX7_walkers_133 : decode cX7_walkers 133 = .ok (.iload 7, 2) := by decide +kernel
theorem dX7_walkers_135 : decode cX7_walkers 135 = .ok (.iconst 1, 1) := by decide +kernel
theorem dX7_walkers_136 : decode cX7_walkers 136 = .ok (.iadd, 1) := by decide +kernel
theorem dX7_walkers_137 : decode cX7_walkers 137 = .ok (.iaload, 1) := by decide +kernel
theorem dX7_walkers_138 : decode cX7_walkers 138 = .ok (.aload_n 0, 1) := by decide +kernel
theorem dX7_walkers_139 : decode cX7_walkers 139 = .ok (.getfield 54, 3) := by decide +kernel
theorem dX7_walkers_142 : decode cX7_walkers 142 = .ok (.iload 7, 2) := by decide +kernel
theorem dX7_walkers_144 : decode cX7_walkers 144 = .ok (.iconst 2, 1) := by decide +kernel
theorem dX7_walkers_145 : decode cX7_walkers 145 = .ok (.iadd, 1) := by decide +kernel
theorem dX7_walkers_146 : decode cX7_walkers 146 = .ok (.iaload, 1) := by decide +kernel
theorem dX7_walkers_147 : decode cX7_walkers 147 = .ok (.invokevirtual 423, 3) := by decide +kernel
theorem dX7_walkers_150 : decode cX7_walkers 150 = .ok (.ifCond .lt 7, 3) := by decide +kernel
theorem dX7_walkers_153 : decode cX7_walkers 153 = .ok (.iconst 1, 1) := by decide +kernel
theorem dX7_walkers_154 : decode cX7_walkers 154 = .ok (.goto 4, 3) := by decide +kernel
theorem dX7_walkers_157 : decode cX7_walkers 157 = .ok (.iconst 0, 1) := by decide +kernel
theorem dX7_walkers_158 : decode cX7_walkers 158 = .ok (.iadd, 1) := by decide +kernel
theorem dX7_walkers_159 : decode cX7_walkers 159 = .ok (.istore 5, 2) := by decide +kernel
theorem dX7_walkers_161 : decode cX7_walkers 161 = .ok (.iinc 6 1, 3) := by decide +kernel
theorem dX7_walkers_164 : decode cX7_walkers 164 = .ok (.goto (-89), 3) := by decide +kernel
theorem dX7_walkers_167 : decode cX7_walkers 167 = .ok (.iload 5, 2) := by decide +kernel
theorem dX7_walkers_169 : decode cX7_walkers 169 = .ok (.ireturn, 1) := by decide +kernel
theorem dX7_over_0 : decode cX7_over 0 = .ok (.iload_n 0, 1) := by decide +kernel
theorem dX7_over_1 : decode cX7_over 1 = .ok (.ifCond .ne 7, 3) := by decide +kernel
theorem dX7_over_4 : decode cX7_over 4 = .ok (.iconst (-1), 1) := by decide +kernel
theorem dX7_over_5 : decode cX7_over 5 = .ok (.goto 22, 3) := by decide +kernel
theorem dX7_over_8 : decode cX7_over 8 = .ok (.iload_n 0, 1) := by decide +kernel
theorem dX7_over_9 : decode cX7_over 9 = .ok (.iconst 3, 1) := by decide +kernel
theorem dX7_over_10 : decode cX7_over 10 = .ok (.if_icmp .ne 7, 3) := by decide +kernel
theorem dX7_over_13 : decode cX7_over 13 = .ok (.iconst 1, 1) := by decide +kernel
theorem dX7_over_14 : decode cX7_over 14 = .ok (.goto 13, 3) := by decide +kernel
theorem dX7_over_17 : decode cX7_over 17 = .ok (.iload_n 0, 1) := by decide +kernel
theorem dX7_over_18 : decode cX7_over 18 = .ok (.iconst 4, 1) := by decide +kernel
theorem dX7_over_19 : decode cX7_over 19 = .ok (.if_icmp .ne 7, 3) := by decide +kernel
theorem dX7_over_22 : decode cX7_over 22 = .ok (.iconst 2, 1) := by decide +kernel
theorem dX7_over_23 : decode cX7_over 23 = .ok (.goto 4, 3) := by decide +kernel
theorem dX7_over_26 : decode cX7_over 26 = .ok (.iconst 0, 1) := by decide +kernel
theorem dX7_over_27 : decode cX7_over 27 = .ok (.ireturn, 1) := by decide +kernel
theorem dX7_taken_0 : decode cX7_taken 0 = .ok (.iload_n 2, 1) := by decide +kernel
theorem dX7_taken_1 : decode cX7_taken 1 = .ok (.i2l, 1) := by decide +kernel
theorem dX7_taken_2 : decode cX7_taken 2 = .ok (.lconst 0, 1) := by decide +kernel
theorem dX7_taken_3 : decode cX7_taken 3 = .ok (.ldc2_w 101, 3) := by decide +kernel
theorem dX7_taken_6 : decode cX7_taken 6 = .ok (.invokestatic 67, 3) := by decide +kernel
theorem dX7_taken_9 : decode cX7_taken 9 = .ok (.ifCond .ne 6, 3) := by decide +kernel
theorem dX7_taken_12 : decode cX7_taken 12 = .ok (.bipush (-2), 2) := by decide +kernel
theorem dX7_taken_14 : decode cX7_taken 14 = .ok (.ireturn, 1) := by decide +kernel
theorem dX7_taken_15 : decode cX7_taken 15 = .ok (.aload_n 0, 1) := by decide +kernel
theorem dX7_taken_16 : decode cX7_taken 16 = .ok (.iload_n 1, 1) := by decide +kernel
theorem dX7_taken_17 : decode cX7_taken 17 = .ok (.invokevirtual 73, 3) := by decide +kernel
theorem dX7_taken_20 : decode cX7_taken 20 = .ok (.ifCond .ne 6, 3) := by decide +kernel
theorem dX7_taken_23 : decode cX7_taken 23 = .ok (.bipush (-11), 2) := by decide +kernel
theorem dX7_taken_25 : decode cX7_taken 25 = .ok (.ireturn, 1) := by decide +kernel
theorem dX7_taken_26 : decode cX7_taken 26 = .ok (.aload_n 0, 1) := by decide +kernel
theorem dX7_taken_27 : decode cX7_taken 27 = .ok (.getfield 26, 3) := by decide +kernel
theorem dX7_taken_30 : decode cX7_taken 30 = .ok (.iload_n 1, 1) := by decide +kernel
theorem dX7_taken_31 : decode cX7_taken 31 = .ok (.iaload, 1) := by decide +kernel
theorem dX7_taken_32 : decode cX7_taken 32 = .ok (.istore_n 3, 1) := by decide +kernel
theorem dX7_taken_33 : decode cX7_taken 33 = .ok (.iload_n 3, 1) := by decide +kernel
theorem dX7_taken_34 : decode cX7_taken 34 = .ok (.iconst (-1), 1) := by decide +kernel
theorem dX7_taken_35 : decode cX7_taken 35 = .ok (.if_icmp .eq 16, 3) := by decide +kernel
theorem dX7_taken_38 : decode cX7_taken 38 = .ok (.iload_n 3, 1) := by decide +kernel
theorem dX7_taken_39 : decode cX7_taken 39 = .ok (.iload_n 2, 1) := by decide +kernel
theorem dX7_taken_40 : decode cX7_taken 40 = .ok (.if_icmp .eq 11, 3) := by decide +kernel
theorem dX7_taken_43 : decode cX7_taken 43 = .ok (.iload_n 3, 1) := by decide +kernel
theorem dX7_taken_44 : decode cX7_taken 44 = .ok (.invokestatic 426, 3) := by decide +kernel
theorem dX7_taken_47 : decode cX7_taken 47 = .ok (.istore_n 3, 1) := by decide +kernel
theorem dX7_taken_48 : decode cX7_taken 48 = .ok (.goto (-15), 3) := by decide +kernel
theorem dX7_taken_51 : decode cX7_taken 51 = .ok (.iload_n 3, 1) := by decide +kernel
theorem dX7_taken_52 : decode cX7_taken 52 = .ok (.iload_n 2, 1) := by decide +kernel
theorem dX7_taken_53 : decode cX7_taken 53 = .ok (.if_icmp .ne 14, 3) := by decide +kernel
theorem dX7_taken_56 : decode cX7_taken 56 = .ok (.aload_n 0, 1) := by decide +kernel
theorem dX7_taken_57 : decode cX7_taken 57 = .ok (.getfield 29, 3) := by decide +kernel
theorem dX7_taken_60 : decode cX7_taken 60 = .ok (.iconst 5, 1) := by decide +kernel
theorem dX7_taken_61 : decode cX7_taken 61 = .ok (.iload_n 1, 1) := by decide +kernel
theorem dX7_taken_62 : decode cX7_taken 62 = .ok (.imul, 1) := by decide +kernel
theorem dX7_taken_63 : decode cX7_taken 63 = .ok (.iaload, 1) := by decide +kernel
theorem dX7_taken_64 : decode cX7_taken 64 = .ok (.goto 5, 3) := by decide +kernel
theorem dX7_taken_67 : decode cX7_taken 67 = .ok (.bipush (-13), 2) := by decide +kernel
theorem dX7_taken_69 : decode cX7_taken 69 = .ok (.ireturn, 1) := by decide +kernel
theorem dJ9_max_7cf53_0 : decode cJ9_max_7cf53 0 = .ok (.iload_n 0, 1) := by decide +kernel
theorem dJ9_max_7cf53_1 : decode cJ9_max_7cf53 1 = .ok (.iload_n 1, 1) := by decide +kernel
theorem dJ9_max_7cf53_2 : decode cJ9_max_7cf53 2 = .ok (.if_icmp .lt 7, 3) := by decide +kernel
theorem dJ9_max_7cf53_5 : decode cJ9_max_7cf53 5 = .ok (.iload_n 0, 1) := by decide +kernel
theorem dJ9_max_7cf53_6 : decode cJ9_max_7cf53 6 = .ok (.goto 4, 3) := by decide +kernel
theorem dJ9_max_7cf53_9 : decode cJ9_max_7cf53 9 = .ok (.iload_n 1, 1) := by decide +kernel
theorem dJ9_max_7cf53_10 : decode cJ9_max_7cf53 10 = .ok (.ireturn, 1) := by decide +kernel
theorem dJ9_min_7cf53_0 : decode cJ9_min_7cf53 0 = .ok (.iload_n 0, 1) := by decide +kernel
theorem dJ9_min_7cf53_1 : decode cJ9_min_7cf53 1 = .ok (.iload_n 1, 1) := by decide +kernel
theorem dJ9_min_7cf53_2 : decode cJ9_min_7cf53 2 = .ok (.if_icmp .gt 7, 3) := by decide +kernel
theorem dJ9_min_7cf53_5 : decode cJ9_min_7cf53 5 = .ok (.iload_n 0, 1) := by decide +kernel
theorem dJ9_min_7cf53_6 : decode cJ9_min_7cf53 6 = .ok (.goto 4, 3) := by decide +kernel
theorem dJ9_min_7cf53_9 : decode cJ9_min_7cf53 9 = .ok (.iload_n 1, 1) := by decide +kernel
theorem dJ9_min_7cf53_10 : decode cJ9_min_7cf53 10 = .ok (.ireturn, 1) := by decide +kernel
theorem dJ0_length_8abf5_0 : decode cJ0_length_8abf5 0 = .ok (.aload_n 0, 1) := by decide +kernel
theorem dJ0_length_8abf5_1 : decode cJ0_length_8abf5 1 = .ok (.getfield 9, 3) := by decide +kernel
theorem dJ0_length_8abf5_4 : decode cJ0_length_8abf5 4 = .ok (.arraylength, 1) := by decide +kernel
theorem dJ0_length_8abf5_5 : decode cJ0_length_8abf5 5 = .ok (.aload_n 0, 1) := by decide +kernel
theorem dJ0_length_8abf5_6 : decode cJ0_length_8abf5 6 = .ok (.invokevirtual 335, 3) := by decide +kernel
theorem dJ0_length_8abf5_9 : decode cJ0_length_8abf5 9 = .ok (.ishr, 1) := by decide +kernel
theorem dJ0_length_8abf5_10 : decode cJ0_length_8abf5 10 = .ok (.ireturn, 1) := by decide +kernel
theorem dJ0_charAt_5068e_0 : decode cJ0_charAt_5068e 0 = .ok (.aload_n 0, 1) := by decide +kernel
theorem dJ0_charAt_5068e_1 : decode cJ0_charAt_5068e 1 = .ok (.invokevirtual 492, 3) := by decide +kernel
theorem dJ0_charAt_5068e_4 : decode cJ0_charAt_5068e 4 = .ok (.ifCond .eq 12, 3) := by decide +kernel
theorem dJ0_charAt_5068e_7 : decode cJ0_charAt_5068e 7 = .ok (.aload_n 0, 1) := by decide +kernel
theorem dJ0_charAt_5068e_8 : decode cJ0_charAt_5068e 8 = .ok (.getfield 9, 3) := by decide +kernel
theorem dJ0_charAt_5068e_11 : decode cJ0_charAt_5068e 11 = .ok (.iload_n 1, 1) := by decide +kernel
theorem dJ0_charAt_5068e_12 : decode cJ0_charAt_5068e 12 = .ok (.invokestatic 495, 3) := by decide +kernel
theorem dJ0_charAt_5068e_15 : decode cJ0_charAt_5068e 15 = .ok (.ireturn, 1) := by decide +kernel
theorem dJ0_charAt_5068e_16 : decode cJ0_charAt_5068e 16 = .ok (.aload_n 0, 1) := by decide +kernel
theorem dJ0_charAt_5068e_17 : decode cJ0_charAt_5068e 17 = .ok (.getfield 9, 3) := by decide +kernel
theorem dJ0_charAt_5068e_20 : decode cJ0_charAt_5068e 20 = .ok (.iload_n 1, 1) := by decide +kernel
theorem dJ0_charAt_5068e_21 : decode cJ0_charAt_5068e 21 = .ok (.invokestatic 498, 3) := by decide +kernel
theorem dJ0_charAt_5068e_24 : decode cJ0_charAt_5068e 24 = .ok (.ireturn, 1) := by decide +kernel
theorem dJ0_coder_7d493_0 : decode cJ0_coder_7d493 0 = .ok (.getstatic 38, 3) := by decide +kernel
theorem dJ0_coder_7d493_3 : decode cJ0_coder_7d493 3 = .ok (.ifCond .eq 10, 3) := by decide +kernel
theorem dJ0_coder_7d493_6 : decode cJ0_coder_7d493 6 = .ok (.aload_n 0, 1) := by decide +kernel
theorem dJ0_coder_7d493_7 : decode cJ0_coder_7d493 7 = .ok (.getfield 15, 3) := by decide +kernel
theorem dJ0_coder_7d493_10 : decode cJ0_coder_7d493 10 = .ok (.goto 4, 3) := by decide +kernel
theorem dJ0_coder_7d493_13 : decode cJ0_coder_7d493 13 = .ok (.iconst 1, 1) := by decide +kernel
theorem dJ0_coder_7d493_14 : decode cJ0_coder_7d493 14 = .ok (.ireturn, 1) := by decide +kernel
theorem dJ0_isLatin1_aae02_0 : decode cJ0_isLatin1_aae02 0 = .ok (.getstatic 38, 3) := by decide +kernel
theorem dJ0_isLatin1_aae02_3 : decode cJ0_isLatin1_aae02 3 = .ok (.ifCond .eq 14, 3) := by decide +kernel
theorem dJ0_isLatin1_aae02_6 : decode cJ0_isLatin1_aae02 6 = .ok (.aload_n 0, 1) := by decide +kernel
theorem dJ0_isLatin1_aae02_7 : decode cJ0_isLatin1_aae02 7 = .ok (.getfield 15, 3) := by decide +kernel
theorem dJ0_isLatin1_aae02_10 : decode cJ0_isLatin1_aae02 10 = .ok (.ifCond .ne 7, 3) := by decide +kernel
theorem dJ0_isLatin1_aae02_13 : decode cJ0_isLatin1_aae02 13 = .ok (.iconst 1, 1) := by decide +kernel
theorem dJ0_isLatin1_aae02_14 : decode cJ0_isLatin1_aae02 14 = .ok (.goto 4, 3) := by decide +kernel
theorem dJ0_isLatin1_aae02_17 : decode cJ0_isLatin1_aae02 17 = .ok (.iconst 0, 1) := by decide +kernel
theorem dJ0_isLatin1_aae02_18 : decode cJ0_isLatin1_aae02 18 = .ok (.ireturn, 1) := by decide +kernel
theorem dJ0_checkIndex_df160_0 : decode cJ0_checkIndex_df160 0 = .ok (.iload_n 0, 1) := by decide +kernel
theorem dJ0_checkIndex_df160_1 : decode cJ0_checkIndex_df160 1 = .ok (.iload_n 1, 1) := by decide +kernel
theorem dJ0_checkIndex_df160_2 : decode cJ0_checkIndex_df160 2 = .ok (.getstatic 1053, 3) := by decide +kernel
theorem dJ0_checkIndex_df160_5 : decode cJ0_checkIndex_df160 5 = .ok (.invokestatic 1059, 3) := by decide +kernel
theorem dJ0_checkIndex_df160_8 : decode cJ0_checkIndex_df160 8 = .ok (.pop, 1) := by decide +kernel
theorem dJ0_checkIndex_df160_9 : decode cJ0_checkIndex_df160 9 = .ok (.return_, 1) := by decide +kernel
theorem dJ1_charAt_3b067_0 : decode cJ1_charAt_3b067 0 = .ok (.iload_n 1, 1) := by decide +kernel
theorem dJ1_charAt_3b067_1 : decode cJ1_charAt_3b067 1 = .ok (.aload_n 0, 1) := by decide +kernel
theorem dJ1_charAt_3b067_2 : decode cJ1_charAt_3b067 2 = .ok (.arraylength, 1) := by decide +kernel
theorem dJ1_charAt_3b067_3 : decode cJ1_charAt_3b067 3 = .ok (.invokestatic 9, 3) := by decide +kernel
theorem dJ1_charAt_3b067_6 : decode cJ1_charAt_3b067 6 = .ok (.aload_n 0, 1) := by decide +kernel
theorem dJ1_charAt_3b067_7 : decode cJ1_charAt_3b067 7 = .ok (.iload_n 1, 1) := by decide +kernel
theorem dJ1_charAt_3b067_8 : decode cJ1_charAt_3b067 8 = .ok (.baload, 1) := by decide +kernel
theorem dJ1_charAt_3b067_9 : decode cJ1_charAt_3b067 9 = .ok (.sipush 255, 3) := by decide +kernel
theorem dJ1_charAt_3b067_12 : decode cJ1_charAt_3b067 12 = .ok (.iand, 1) := by decide +kernel
theorem dJ1_charAt_3b067_13 : decode cJ1_charAt_3b067 13 = .ok (.i2c, 1) := by decide +kernel
theorem dJ1_charAt_3b067_14 : decode cJ1_charAt_3b067 14 = .ok (.ireturn, 1) := by decide +kernel
theorem dJ2_getChar_3b067_0 : decode cJ2_getChar_3b067 0 = .ok (.getstatic 44, 3) := by decide +kernel
theorem dJ2_getChar_3b067_3 : decode cJ2_getChar_3b067 3 = .ok (.ifCond .ne 25, 3) := by decide +kernel
theorem dJ2_getChar_3b067_6 : decode cJ2_getChar_3b067 6 = .ok (.iload_n 1, 1) := by decide +kernel
theorem dJ2_getChar_3b067_7 : decode cJ2_getChar_3b067 7 = .ok (.ifCond .lt 11, 3) := by decide +kernel
theorem dJ2_getChar_3b067_10 : decode cJ2_getChar_3b067 10 = .ok (.iload_n 1, 1) := by decide +kernel
theorem dJ2_getChar_3b067_11 : decode cJ2_getChar_3b067 11 = .ok (.aload_n 0, 1) := by decide +kernel
theorem dJ2_getChar_3b067_12 : decode cJ2_getChar_3b067 12 = .ok (.invokestatic 48, 3) := by decide +kernel
theorem dJ2_getChar_3b067_15 : decode cJ2_getChar_3b067 15 = .ok (.if_icmp .lt 13, 3) := by decide +kernel
theorem dJ2_getChar_3b067_18 : decode cJ2_getChar_3b067 18 = .ok (.new 52, 3) := by decide +kernel
theorem dJ2_getChar_3b067_21 : decode cJ2_getChar_3b067 21 = .ok (.dup, 1) := by decide +kernel
theorem dJ2_getChar_3b067_22 : decode cJ2_getChar_3b067 22 = .ok (.ldc 54, 2) := by decide +kernel
theorem dJ2_getChar_3b067_24 : decode cJ2_getChar_3b067 24 = .ok (.invokespecial 56, 3) := by decide +kernel
theorem dJ2_getChar_3b067_27 : decode cJ2_getChar_3b067 27 = .ok (.athrow, 1) := by decide +kernel
theorem dJ2_getChar_3b067_28 : decode cJ2_getChar_3b067 28 = .ok (.iload_n 1, 1) := by decide +kernel
theorem dJ2_getChar_3b067_29 : decode cJ2_getChar_3b067 29 = .ok (.iconst 1, 1) := by decide +kernel
theorem dJ2_getChar_3b067_30 : decode cJ2_getChar_3b067 30 = .ok (.ishl, 1) := by decide +kernel
theorem dJ2_getChar_3b067_31 : decode cJ2_getChar_3b067 31 = .ok (.istore_n 1, 1) := by decide +kernel
theorem dJ2_getChar_3b067_32 : decode cJ2_getChar_3b067 32 = .ok (.aload_n 0, 1) := by decide +kernel
theorem dJ2_getChar_3b067_33 : decode cJ2_getChar_3b067 33 = .ok (.iload_n 1, 1) := by decide +kernel
theorem dJ2_getChar_3b067_34 : decode cJ2_getChar_3b067 34 = .ok (.iinc 1 1, 3) := by decide +kernel
theorem dJ2_getChar_3b067_37 : decode cJ2_getChar_3b067 37 = .ok (.baload, 1) := by decide +kernel
theorem dJ2_getChar_3b067_38 : decode cJ2_getChar_3b067 38 = .ok (.sipush 255, 3) := by decide +kernel
theorem dJ2_getChar_3b067_41 : decode cJ2_getChar_3b067 41 = .ok (.iand, 1) := by decide +kernel
theorem dJ2_getChar_3b067_42 : decode cJ2_getChar_3b067 42 = .ok (.getstatic 59, 3) := by decide +kernel
theorem dJ2_getChar_3b067_45 : decode cJ2_getChar_3b067 45 = .ok (.ishl, 1) := by decide +kernel
theorem dJ2_getChar_3b067_46 : decode cJ2_getChar_3b067 46 = .ok (.aload_n 0, 1) := by decide +kernel
theorem dJ2_getChar_3b067_47 : decode cJ2_getChar_3b067 47 = .ok (.iload_n 1, 1) := by decide +kernel
theorem dJ2_getChar_3b067_48 : decode cJ2_getChar_3b067 48 = .ok (.baload, 1) := by decide +kernel
theorem dJ2_getChar_3b067_49 : decode cJ2_getChar_3b067 49 = .ok (.sipush 255, 3) := by decide +kernel
theorem dJ2_getChar_3b067_52 : decode cJ2_getChar_3b067 52 = .ok (.iand, 1) := by decide +kernel
theorem dJ2_getChar_3b067_53 : decode cJ2_getChar_3b067 53 = .ok (.getstatic 63, 3) := by decide +kernel
theorem dJ2_getChar_3b067_56 : decode cJ2_getChar_3b067 56 = .ok (.ishl, 1) := by decide +kernel
theorem dJ2_getChar_3b067_57 : decode cJ2_getChar_3b067 57 = .ok (.ior, 1) := by decide +kernel
theorem dJ2_getChar_3b067_58 : decode cJ2_getChar_3b067 58 = .ok (.i2c, 1) := by decide +kernel
theorem dJ2_getChar_3b067_59 : decode cJ2_getChar_3b067 59 = .ok (.ireturn, 1) := by decide +kernel
theorem dJ2_length_9d52b_0 : decode cJ2_length_9d52b 0 = .ok (.aload_n 0, 1) := by decide +kernel
theorem dJ2_length_9d52b_1 : decode cJ2_length_9d52b 1 = .ok (.arraylength, 1) := by decide +kernel
theorem dJ2_length_9d52b_2 : decode cJ2_length_9d52b 2 = .ok (.iconst 1, 1) := by decide +kernel
theorem dJ2_length_9d52b_3 : decode cJ2_length_9d52b 3 = .ok (.ishr, 1) := by decide +kernel
theorem dJ2_length_9d52b_4 : decode cJ2_length_9d52b 4 = .ok (.ireturn, 1) := by decide +kernel
theorem dJ2_charAt_3b067_0 : decode cJ2_charAt_3b067 0 = .ok (.iload_n 1, 1) := by decide +kernel
theorem dJ2_charAt_3b067_1 : decode cJ2_charAt_3b067 1 = .ok (.aload_n 0, 1) := by decide +kernel
theorem dJ2_charAt_3b067_2 : decode cJ2_charAt_3b067 2 = .ok (.invokestatic 67, 3) := by decide +kernel
theorem dJ2_charAt_3b067_5 : decode cJ2_charAt_3b067 5 = .ok (.aload_n 0, 1) := by decide +kernel
theorem dJ2_charAt_3b067_6 : decode cJ2_charAt_3b067 6 = .ok (.iload_n 1, 1) := by decide +kernel
theorem dJ2_charAt_3b067_7 : decode cJ2_charAt_3b067 7 = .ok (.invokestatic 71, 3) := by decide +kernel
theorem dJ2_charAt_3b067_10 : decode cJ2_charAt_3b067 10 = .ok (.ireturn, 1) := by decide +kernel
theorem dJ2_checkIndex_2214a_0 : decode cJ2_checkIndex_2214a 0 = .ok (.iload_n 0, 1) := by decide +kernel
theorem dJ2_checkIndex_2214a_1 : decode cJ2_checkIndex_2214a 1 = .ok (.aload_n 1, 1) := by decide +kernel
theorem dJ2_checkIndex_2214a_2 : decode cJ2_checkIndex_2214a 2 = .ok (.invokestatic 48, 3) := by decide +kernel
theorem dJ2_checkIndex_2214a_5 : decode cJ2_checkIndex_2214a 5 = .ok (.invokestatic 414, 3) := by decide +kernel
theorem dJ2_checkIndex_2214a_8 : decode cJ2_checkIndex_2214a 8 = .ok (.return_, 1) := by decide +kernel
theorem dJ7_fill_53178_0 : decode cJ7_fill_53178 0 = .ok (.iconst 0, 1) := by decide +kernel
theorem dJ7_fill_53178_1 : decode cJ7_fill_53178 1 = .ok (.istore_n 2, 1) := by decide +kernel
theorem dJ7_fill_53178_2 : decode cJ7_fill_53178 2 = .ok (.aload_n 0, 1) := by decide +kernel
theorem dJ7_fill_53178_3 : decode cJ7_fill_53178 3 = .ok (.arraylength, 1) := by decide +kernel
theorem dJ7_fill_53178_4 : decode cJ7_fill_53178 4 = .ok (.istore_n 3, 1) := by decide +kernel
theorem dJ7_fill_53178_5 : decode cJ7_fill_53178 5 = .ok (.iload_n 2, 1) := by decide +kernel
theorem dJ7_fill_53178_6 : decode cJ7_fill_53178 6 = .ok (.iload_n 3, 1) := by decide +kernel
theorem dJ7_fill_53178_7 : decode cJ7_fill_53178 7 = .ok (.if_icmp .ge 13, 3) := by decide +kernel
theorem dJ7_fill_53178_10 : decode cJ7_fill_53178 10 = .ok (.aload_n 0, 1) := by decide +kernel
theorem dJ7_fill_53178_11 : decode cJ7_fill_53178 11 = .ok (.iload_n 2, 1) := by decide +kernel
theorem dJ7_fill_53178_12 : decode cJ7_fill_53178 12 = .ok (.iload_n 1, 1) := by decide +kernel
theorem dJ7_fill_53178_13 : decode cJ7_fill_53178 13 = .ok (.iastore, 1) := by decide +kernel
theorem dJ7_fill_53178_14 : decode cJ7_fill_53178 14 = .ok (.iinc 2 1, 3) := by decide +kernel
theorem dJ7_fill_53178_17 : decode cJ7_fill_53178 17 = .ok (.goto (-12), 3) := by decide +kernel
theorem dJ7_fill_53178_20 : decode cJ7_fill_53178 20 = .ok (.return_, 1) := by decide +kernel
theorem dJ3_checkIndex_8e157_0 : decode cJ3_checkIndex_8e157 0 = .ok (.iload_n 0, 1) := by decide +kernel
theorem dJ3_checkIndex_8e157_1 : decode cJ3_checkIndex_8e157 1 = .ok (.ifCond .lt 8, 3) := by decide +kernel
theorem dJ3_checkIndex_8e157_4 : decode cJ3_checkIndex_8e157 4 = .ok (.iload_n 0, 1) := by decide +kernel
theorem dJ3_checkIndex_8e157_5 : decode cJ3_checkIndex_8e157 5 = .ok (.iload_n 1, 1) := by decide +kernel
theorem dJ3_checkIndex_8e157_6 : decode cJ3_checkIndex_8e157 6 = .ok (.if_icmp .lt 10, 3) := by decide +kernel
theorem dJ3_checkIndex_8e157_9 : decode cJ3_checkIndex_8e157 9 = .ok (.aload_n 2, 1) := by decide +kernel
theorem dJ3_checkIndex_8e157_10 : decode cJ3_checkIndex_8e157 10 = .ok (.iload_n 0, 1) := by decide +kernel
theorem dJ3_checkIndex_8e157_11 : decode cJ3_checkIndex_8e157 11 = .ok (.iload_n 1, 1) := by decide +kernel
theorem dJ3_checkIndex_8e157_12 : decode cJ3_checkIndex_8e157 12 = .ok (.invokestatic 95, 3) := by decide +kernel
theorem dJ3_checkIndex_8e157_15 : decode cJ3_checkIndex_8e157 15 = .ok (.athrow, 1) := by decide +kernel
theorem dJ3_checkIndex_8e157_16 : decode cJ3_checkIndex_8e157 16 = .ok (.iload_n 0, 1) := by decide +kernel
theorem dJ3_checkIndex_8e157_17 : decode cJ3_checkIndex_8e157 17 = .ok (.ireturn, 1) := by decide +kernel
theorem dL_law_0 : decode cL_law 0 = .ok (.new 7, 3) := by decide +kernel
theorem dL_law_3 : decode cL_law 3 = .ok (.dup, 1) := by decide +kernel
theorem dL_law_4 : decode cL_law 4 = .ok (.invokespecial 9, 3) := by decide +kernel
theorem dL_law_7 : decode cL_law 7 = .ok (.astore_n 1, 1) := by decide +kernel
theorem dL_law_8 : decode cL_law 8 = .ok (.new 10, 3) := by decide +kernel
theorem dL_law_11 : decode cL_law 11 = .ok (.dup, 1) := by decide +kernel
theorem dL_law_12 : decode cL_law 12 = .ok (.invokespecial 12, 3) := by decide +kernel
theorem dL_law_15 : decode cL_law 15 = .ok (.astore_n 2, 1) := by decide +kernel
theorem dL_law_16 : decode cL_law 16 = .ok (.iconst 0, 1) := by decide +kernel
theorem dL_law_17 : decode cL_law 17 = .ok (.istore_n 3, 1) := by decide +kernel
theorem dL_law_18 : decode cL_law 18 = .ok (.iload_n 3, 1) := by decide +kernel
theorem dL_law_19 : decode cL_law 19 = .ok (.aload_n 0, 1) := by decide +kernel
theorem dL_law_20 : decode cL_law 20 = .ok (.arraylength, 1) := by decide +kernel
theorem dL_law_21 : decode cL_law 21 = .ok (.bipush 6, 2) := by decide +kernel
theorem dL_law_23 : decode cL_law 23 = .ok (.isub, 1) := by decide +kernel
theorem dL_law_24 : decode cL_law 24 = .ok (.if_icmp .gt 1070, 3) := by decide +kernel
theorem dL_law_27 : decode cL_law 27 = .ok (.aload_n 0, 1) := by decide +kernel
theorem dL_law_28 : decode cL_law 28 = .ok (.iload_n 3, 1) := by decide +kernel
theorem dL_law_29 : decode cL_law 29 = .ok (.iaload, 1) := by decide +kernel
theorem dL_law_30 : decode cL_law 30 = .ok (.bipush 31, 2) := by decide +kernel
theorem dL_law_32 : decode cL_law 32 = .ok (.iand, 1) := by decide +kernel
theorem dL_law_33 : decode cL_law 33 = .ok (.tableswitch 1055 0 26 #[123, 166, 209, 242, 265, 278, 301, 314, 357, 380, 423, 466, 509, 542, 575, 608, 651, 694, 727, 771, 784, 797, 820, 863, 906, 969, 1022], 123) := by decide +kernel
theorem dL_law_156 : decode cL_law 156 = .ok (.aload_n 1, 1) := by decide +kernel
theorem dL_law_157 : decode cL_law 157 = .ok (.aload_n 0, 1) := by decide +kernel
theorem dL_law_158 : decode cL_law 158 = .ok (.iload_n 3, 1) := by decide +kernel
theorem dL_law_159 : decode cL_law 159 = .ok (.iconst 1, 1) := by decide +kernel
theorem dL_law_160 : decode cL_law 160 = .ok (.iadd, 1) := by decide +kernel
theorem dL_law_161 : decode cL_law 161 = .ok (.iaload, 1) := by decide +kernel
theorem dL_law_162 : decode cL_law 162 = .ok (.aload_n 0, 1) := by decide +kernel
theorem dL_law_163 : decode cL_law 163 = .ok (.iload_n 3, 1) := by decide +kernel
theorem dL_law_164 : decode cL_law 164 = .ok (.iconst 2, 1) := by decide +kernel
theorem dL_law_165 : decode cL_law 165 = .ok (.iadd, 1) := by decide +kernel
theorem dL_law_166 : decode cL_law 166 = .ok (.iaload, 1) := by decide +kernel
theorem dL_law_167 : decode cL_law 167 = .ok (.aload_n 0, 1) := by decide +kernel
theorem dL_law_168 : decode cL_law 168 = .ok (.iload_n 3, 1) := by decide +kernel
theorem dL_law_169 : decode cL_law 169 = .ok (.iconst 3, 1) := by decide +kernel
theorem dL_law_170 : decode cL_law 170 = .ok (.iadd, 1) := by decide +kernel
theorem dL_law_171 : decode cL_law 171 = .ok (.iaload, 1) := by decide +kernel
theorem dL_law_172 : decode cL_law 172 = .ok (.invokevirtual 13, 3) := by decide +kernel
theorem dL_law_175 : decode cL_law 175 = .ok (.aload_n 2, 1) := by decide +kernel
theorem dL_law_176 : decode cL_law 176 = .ok (.aload_n 0, 1) := by decide +kernel
theorem dL_law_177 : decode cL_law 177 = .ok (.iload_n 3, 1) := by decide +kernel
theorem dL_law_178 : decode cL_law 178 = .ok (.iconst 1, 1) := by decide +kernel
theorem dL_law_179 : decode cL_law 179 = .ok (.iadd, 1) := by decide +kernel
theorem dL_law_180 : decode cL_law 180 = .ok (.iaload, 1) := by decide +kernel
theorem dL_law_181 : decode cL_law 181 = .ok (.aload_n 0, 1) := by decide +kernel
theorem dL_law_182 : decode cL_law 182 = .ok (.iload_n 3, 1) := by decide +kernel
theorem dL_law_183 : decode cL_law 183 = .ok (.iconst 2, 1) := by decide +kernel
theorem dL_law_184 : decode cL_law 184 = .ok (.iadd, 1) := by decide +kernel
theorem dL_law_185 : decode cL_law 185 = .ok (.iaload, 1) := by decide +kernel
theorem dL_law_186 : decode cL_law 186 = .ok (.aload_n 0, 1) := by decide +kernel
theorem dL_law_187 : decode cL_law 187 = .ok (.iload_n 3, 1) := by decide +kernel
theorem dL_law_188 : decode cL_law 188 = .ok (.iconst 3, 1) := by decide +kernel
theorem dL_law_189 : decode cL_law 189 = .ok (.iadd, 1) := by decide +kernel
theorem dL_law_190 : decode cL_law 190 = .ok (.iaload, 1) := by decide +kernel
theorem dL_law_191 : decode cL_law 191 = .ok (.invokevirtual 17, 3) := by decide +kernel
theorem dL_law_194 : decode cL_law 194 = .ok (.if_icmp .eq 894, 3) := by decide +kernel
theorem dL_law_197 : decode cL_law 197 = .ok (.iconst 0, 1) := by decide +kernel
theorem dL_law_198 : decode cL_law 198 = .ok (.ireturn, 1) := by decide +kernel
theorem dL_law_199 : decode cL_law 199 = .ok (.aload_n 1, 1) := by decide +kernel
theorem dL_law_200 : decode cL_law 200 = .ok (.aload_n 0, 1) := by decide +kernel
theorem dL_law_201 : decode cL_law 201 = .ok (.iload_n 3, 1) := by decide +kernel
theorem dL_law_202 : decode cL_law 202 = .ok (.iconst 1, 1) := by decide +kernel
theorem dL_law_203 : decode cL_law 203 = .ok (.iadd, 1) := by decide +kernel
theorem dL_law_204 : decode cL_law 204 = .ok (.iaload, 1) := by decide +kernel
theorem dL_law_205 : decode cL_law 205 = .ok (.aload_n 0, 1) := by decide +kernel
theorem dL_law_206 : decode cL_law 206 = .ok (.iload_n 3, 1) := by decide +kernel
theorem dL_law_207 : decode cL_law 207 = .ok (.iconst 2, 1) := by decide +kernel
theorem dL_law_208 : decode cL_law 208 = .ok (.iadd, 1) := by decide +kernel
theorem dL_law_209 : decode cL_law 209 = .ok (.iaload, 1) := by decide +kernel
theorem dL_law_210 : decode cL_law 210 = .ok (.aload_n 0, 1) := by decide +kernel
theorem dL_law_211 : decode cL_law 211 = .ok (.iload_n 3, 1) := by decide +kernel
theorem dL_law_212 : decode cL_law 212 = .ok (.iconst 3, 1) := by decide +kernel
theorem dL_law_213 : decode cL_law 213 = .ok (.iadd, 1) := by decide +kernel
theorem dL_law_214 : decode cL_law 214 = .ok (.iaload, 1) := by decide +kernel
theorem dL_law_215 : decode cL_law 215 = .ok (.invokevirtual 18, 3) := by decide +kernel
theorem dL_law_218 : decode cL_law 218 = .ok (.aload_n 2, 1) := by decide +kernel
theorem dL_law_219 : decode cL_law 219 = .ok (.aload_n 0, 1) := by decide +kernel
theorem dL_law_220 : decode cL_law 220 = .ok (.iload_n 3, 1) := by decide +kernel
theorem dL_law_221 : decode cL_law 221 = .ok (.iconst 1, 1) := by decide +kernel
theorem dL_law_222 : decode cL_law 222 = .ok (.iadd, 1) := by decide +kernel
theorem dL_law_223 : decode cL_law 223 = .ok (.iaload, 1) := by decide +kernel
theorem dL_law_224 : decode cL_law 224 = .ok (.aload_n 0, 1) := by decide +kernel
theorem dL_law_225 : decode cL_law 225 = .ok (.iload_n 3, 1) := by decide +kernel
theorem dL_law_226 : decode cL_law 226 = .ok (.iconst 2, 1) := by decide +kernel
theorem dL_law_227 : decode cL_law 227 = .ok (.iadd, 1) := by decide +kernel
theorem dL_law_228 : decode cL_law 228 = .ok (.iaload, 1) := by decide +kernel
theorem dL_law_229 : decode cL_law 229 = .ok (.aload_n 0, 1) := by decide +kernel
theorem dL_law_230 : decode cL_law 230 = .ok (.iload_n 3, 1) := by decide +kernel
theorem dL_law_231 : decode cL_law 231 = .ok (.iconst 3, 1) := by decide +kernel
theorem dL_law_232 : decode cL_law 232 = .ok (.iadd, 1) := by decide +kernel
theorem dL_law_233 : decode cL_law 233 = .ok (.iaload, 1) := by decide +kernel
theorem dL_law_234 : decode cL_law 234 = .ok (.invokevirtual 21, 3) := by decide +kernel
theorem dL_law_237 : decode cL_law 237 = .ok (.if_icmp .eq 851, 3) := by decide +kernel
theorem dL_law_240 : decode cL_law 240 = .ok (.iconst 0, 1) := by decide +kernel
theorem dL_law_241 : decode cL_law 241 = .ok (.ireturn, 1) := by decide +kernel
theorem dL_law_242 : decode cL_law 242 = .ok (.aload_n 1, 1) := by decide +kernel
theorem dL_law_243 : decode cL_law 243 = .ok (.aload_n 0, 1) := by decide +kernel
theorem dL_law_244 : decode cL_law 244 = .ok (.iload_n 3, 1) := by decide +kernel
theorem dL_law_245 : decode cL_law 245 = .ok (.iconst 1, 1) := by decide +kernel
theorem dL_law_246 : decode cL_law 246 = .ok (.iadd, 1) := by decide +kernel
theorem dL_law_247 : decode cL_law 247 = .ok (.iaload, 1) := by decide +kernel
theorem dL_law_248 : decode cL_law 248 = .ok (.aload_n 0, 1) := by decide +kernel
theorem dL_law_249 : decode cL_law 249 = .ok (.iload_n 3, 1) := by decide +kernel
theorem dL_law_250 : decode cL_law 250 = .ok (.iconst 2, 1) := by decide +kernel
theorem dL_law_251 : decode cL_law 251 = .ok (.iadd, 1) := by decide +kernel
theorem dL_law_252 : decode cL_law 252 = .ok (.iaload, 1) := by decide +kernel
theorem dL_law_253 : decode cL_law 253 = .ok (.invokevirtual 22, 3) := by decide +kernel
theorem dL_law_256 : decode cL_law 256 = .ok (.aload_n 2, 1) := by decide +kernel
theorem dL_law_257 : decode cL_law 257 = .ok (.aload_n 0, 1) := by decide +kernel
theorem dL_law_258 : decode cL_law 258 = .ok (.iload_n 3, 1) := by decide +kernel
theorem dL_law_259 : decode cL_law 259 = .ok (.iconst 1, 1) := by decide +kernel
theorem dL_law_260 : decode cL_law 260 = .ok (.iadd, 1) := by decide +kernel
theorem dL_law_261 : decode cL_law 261 = .ok (.iaload, 1) := by decide +kernel
theorem dL_law_262 : decode cL_law 262 = .ok (.aload_n 0, 1) := by decide +kernel
theorem dL_law_263 : decode cL_law 263 = .ok (.iload_n 3, 1) := by decide +kernel
theorem dL_law_264 : decode cL_law 264 = .ok (.iconst 2, 1) := by decide +kernel
theorem dL_law_265 : decode cL_law 265 = .ok (.iadd, 1) := by decide +kernel
theorem dL_law_266 : decode cL_law 266 = .ok (.iaload, 1) := by decide +kernel
theorem dL_law_267 : decode cL_law 267 = .ok (.invokevirtual 26, 3) := by decide +kernel
theorem dL_law_270 : decode cL_law 270 = .ok (.if_icmp .eq 818, 3) := by decide +kernel
theorem dL_law_273 : decode cL_law 273 = .ok (.iconst 0, 1) := by decide +kernel
theorem dL_law_274 : decode cL_law 274 = .ok (.ireturn, 1) := by decide +kernel
theorem dL_law_275 : decode cL_law 275 = .ok (.aload_n 1, 1) := by decide +kernel
theorem dL_law_276 : decode cL_law 276 = .ok (.aload_n 0, 1) := by decide +kernel
theorem dL_law_277 : decode cL_law 277 = .ok (.iload_n 3, 1) := by decide +kernel
theorem dL_law_278 : decode cL_law 278 = .ok (.iconst 1, 1) := by decide +kernel
theorem dL_law_279 : decode cL_law 279 = .ok (.iadd, 1) := by decide +kernel
theorem dL_law_280 : decode cL_law 280 = .ok (.iaload, 1) := by decide +kernel
theorem dL_law_281 : decode cL_law 281 = .ok (.invokevirtual 27, 3) := by decide +kernel
theorem dL_law_284 : decode cL_law 284 = .ok (.aload_n 2, 1) := by decide +kernel
theorem dL_law_285 : decode cL_law 285 = .ok (.aload_n 0, 1) := by decide +kernel
theorem dL_law_286 : decode cL_law 286 = .ok (.iload_n 3, 1) := by decide +kernel
theorem dL_law_287 : decode cL_law 287 = .ok (.iconst 1, 1) := by decide +kernel
theorem dL_law_288 : decode cL_law 288 = .ok (.iadd, 1) := by decide +kernel
theorem dL_law_289 : decode cL_law 289 = .ok (.iaload, 1) := by decide +kernel
theorem dL_law_290 : decode cL_law 290 = .ok (.invokevirtual 31, 3) := by decide +kernel
theorem dL_law_293 : decode cL_law 293 = .ok (.if_icmp .eq 795, 3) := by decide +kernel
theorem dL_law_296 : decode cL_law 296 = .ok (.iconst 0, 1) := by decide +kernel
theorem dL_law_297 : decode cL_law 297 = .ok (.ireturn, 1) := by decide +kernel
theorem dL_law_298 : decode cL_law 298 = .ok (.aload_n 1, 1) := by decide +kernel
theorem dL_law_299 : decode cL_law 299 = .ok (.invokevirtual 32, 3) := by decide +kernel
theorem dL_law_302 : decode cL_law 302 = .ok (.aload_n 2, 1) := by decide +kernel
theorem dL_law_303 : decode cL_law 303 = .ok (.invokevirtual 36, 3) := by decide +kernel
theorem dL_law_306 : decode cL_law 306 = .ok (.if_icmp .eq 782, 3) := by decide +kernel
theorem dL_law_309 : decode cL_law 309 = .ok (.iconst 0, 1) := by decide +kernel
theorem dL_law_310 : decode cL_law 310 = .ok (.ireturn, 1) := by decide +kernel
theorem dL_law_311 : decode cL_law 311 = .ok (.aload_n 1, 1) := by decide +kernel
theorem dL_law_312 : decode cL_law 312 = .ok (.aload_n 0, 1) := by decide +kernel
theorem dL_law_313 : decode cL_law 313 = .ok (.iload_n 3, 1) := by decide +kernel
theorem dL_law_314 : decode cL_law 314 = .ok (.iconst 1, 1) := by decide +kernel
theorem dL_law_315 : decode cL_law 315 = .ok (.iadd, 1) := by decide +kernel
theorem dL_law_316 : decode cL_law 316 = .ok (.iaload, 1) := by decide +kernel
theorem dL_law_317 : decode cL_law 317 = .ok (.invokevirtual 37, 3) := by decide +kernel
theorem dL_law_320 : decode cL_law 320 = .ok (.aload_n 2, 1) := by decide +kernel
theorem dL_law_321 : decode cL_law 321 = .ok (.aload_n 0, 1) := by decide +kernel
theorem dL_law_322 : decode cL_law 322 = .ok (.iload_n 3, 1) := by decide +kernel
theorem dL_law_323 : decode cL_law 323 = .ok (.iconst 1, 1) := by decide +kernel
theorem dL_law_324 : decode cL_law 324 = .ok (.iadd, 1) := by decide +kernel
theorem dL_law_325 : decode cL_law 325 = .ok (.iaload, 1) := by decide +kernel
theorem dL_law_326 : decode cL_law 326 = .ok (.invokevirtual 40, 3) := by decide +kernel
theorem dL_law_329 : decode cL_law 329 = .ok (.if_icmp .eq 759, 3) := by decide +kernel
theorem dL_law_332 : decode cL_law 332 = .ok (.iconst 0, 1) := by decide +kernel
theorem dL_law_333 : decode cL_law 333 = .ok (.ireturn, 1) := by decide +kernel
theorem dL_law_334 : decode cL_law 334 = .ok (.aload_n 1, 1) := by decide +kernel
theorem dL_law_335 : decode cL_law 335 = .ok (.invokevirtual 41, 3) := by decide +kernel
theorem dL_law_338 : decode cL_law 338 = .ok (.aload_n 2, 1) := by decide +kernel
theorem dL_law_339 : decode cL_law 339 = .ok (.invokevirtual 44, 3) := by decide +kernel
theorem dL_law_342 : decode cL_law 342 = .ok (.if_icmp .eq 746, 3) := by decide +kernel
theorem dL_law_345 : decode cL_law 345 = .ok (.iconst 0, 1) := by decide +kernel
theorem dL_law_346 : decode cL_law 346 = .ok (.ireturn, 1) := by decide +kernel
theorem dL_law_347 : decode cL_law 347 = .ok (.aload_n 1, 1) := by decide +kernel
theorem dL_law_348 : decode cL_law 348 = .ok (.aload_n 0, 1) := by decide +kernel
theorem dL_law_349 : decode cL_law 349 = .ok (.iload_n 3, 1) := by decide +kernel
theorem dL_law_350 : decode cL_law 350 = .ok (.iconst 1, 1) := by decide +kernel
theorem dL_law_351 : decode cL_law 351 = .ok (.iadd, 1) := by decide +kernel
theorem dL_law_352 : decode cL_law 352 = .ok (.iaload, 1) := by decide +kernel
theorem dL_law_353 : decode cL_law 353 = .ok (.aload_n 0, 1) := by decide +kernel
theorem dL_law_354 : decode cL_law 354 = .ok (.iload_n 3, 1) := by decide +kernel
theorem dL_law_355 : decode cL_law 355 = .ok (.iconst 2, 1) := by decide +kernel
theorem dL_law_356 : decode cL_law 356 = .ok (.iadd, 1) := by decide +kernel
theorem dL_law_357 : decode cL_law 357 = .ok (.iaload, 1) := by decide +kernel
theorem dL_law_358 : decode cL_law 358 = .ok (.aload_n 0, 1) := by decide +kernel
theorem dL_law_359 : decode cL_law 359 = .ok (.iload_n 3, 1) := by decide +kernel
theorem dL_law_360 : decode cL_law 360 = .ok (.iconst 3, 1) := by decide +kernel
theorem dL_law_361 : decode cL_law 361 = .ok (.iadd, 1) := by decide +kernel
theorem dL_law_362 : decode cL_law 362 = .ok (.iaload, 1) := by decide +kernel
theorem dL_law_363 : decode cL_law 363 = .ok (.invokevirtual 45, 3) := by decide +kernel
theorem dL_law_366 : decode cL_law 366 = .ok (.aload_n 2, 1) := by decide +kernel
theorem dL_law_367 : decode cL_law 367 = .ok (.aload_n 0, 1) := by decide +kernel
theorem dL_law_368 : decode cL_law 368 = .ok (.iload_n 3, 1) := by decide +kernel
theorem dL_law_369 : decode cL_law 369 = .ok (.iconst 1, 1) := by decide +kernel
theorem dL_law_370 : decode cL_law 370 = .ok (.iadd, 1) := by decide +kernel
theorem dL_law_371 : decode cL_law 371 = .ok (.iaload, 1) := by decide +kernel
theorem dL_law_372 : decode cL_law 372 = .ok (.aload_n 0, 1) := by decide +kernel
theorem dL_law_373 : decode cL_law 373 = .ok (.iload_n 3, 1) := by decide +kernel
theorem dL_law_374 : decode cL_law 374 = .ok (.iconst 2, 1) := by decide +kernel
theorem dL_law_375 : decode cL_law 375 = .ok (.iadd, 1) := by decide +kernel
theorem dL_law_376 : decode cL_law 376 = .ok (.iaload, 1) := by decide +kernel
theorem dL_law_377 : decode cL_law 377 = .ok (.aload_n 0, 1) := by decide +kernel
theorem dL_law_378 : decode cL_law 378 = .ok (.iload_n 3, 1) := by decide +kernel
theorem dL_law_379 : decode cL_law 379 = .ok (.iconst 3, 1) := by decide +kernel
theorem dL_law_380 : decode cL_law 380 = .ok (.iadd, 1) := by decide +kernel
theorem dL_law_381 : decode cL_law 381 = .ok (.iaload, 1) := by decide +kernel
theorem dL_law_382 : decode cL_law 382 = .ok (.invokevirtual 48, 3) := by decide +kernel
theorem dL_law_385 : decode cL_law 385 = .ok (.if_icmp .eq 703, 3) := by decide +kernel
theorem dL_law_388 : decode cL_law 388 = .ok (.iconst 0, 1) := by decide +kernel
theorem dL_law_389 : decode cL_law 389 = .ok (.ireturn, 1) := by decide +kernel
theorem dL_law_390 : decode cL_law 390 = .ok (.aload_n 1, 1) := by decide +kernel
theorem dL_law_391 : decode cL_law 391 = .ok (.aload_n 0, 1) := by decide +kernel
theorem dL_law_392 : decode cL_law 392 = .ok (.iload_n 3, 1) := by decide +kernel
theorem dL_law_393 : decode cL_law 393 = .ok (.iconst 1, 1) := by decide +kernel
theorem dL_law_394 : decode cL_law 394 = .ok (.iadd, 1) := by decide +kernel
theorem dL_law_395 : decode cL_law 395 = .ok (.iaload, 1) := by decide +kernel
theorem dL_law_396 : decode cL_law 396 = .ok (.invokevirtual 49, 3) := by decide +kernel
theorem dL_law_399 : decode cL_law 399 = .ok (.aload_n 2, 1) := by decide +kernel
theorem dL_law_400 : decode cL_law 400 = .ok (.aload_n 0, 1) := by decide +kernel
theorem dL_law_401 : decode cL_law 401 = .ok (.iload_n 3, 1) := by decide +kernel
theorem dL_law_402 : decode cL_law 402 = .ok (.iconst 1, 1) := by decide +kernel
theorem dL_law_403 : decode cL_law 403 = .ok (.iadd, 1) := by decide +kernel
theorem dL_law_404 : decode cL_law 404 = .ok (.iaload, 1) := by decide +kernel
theorem dL_law_405 : decode cL_law 405 = .ok (.invokevirtual 52, 3) := by decide +kernel
theorem dL_law_408 : decode cL_law 408 = .ok (.if_icmp .eq 680, 3) := by decide +kernel
theorem dL_law_411 : decode cL_law 411 = .ok (.iconst 0, 1) := by decide +kernel
theorem dL_law_412 : decode cL_law 412 = .ok (.ireturn, 1) := by decide +kernel
theorem dL_law_413 : decode cL_law 413 = .ok (.aload_n 1, 1) := by decide +kernel
theorem dL_law_414 : decode cL_law 414 = .ok (.aload_n 0, 1) := by decide +kernel
theorem dL_law_415 : decode cL_law 415 = .ok (.iload_n 3, 1) := by decide +kernel
theorem dL_law_416 : decode cL_law 416 = .ok (.iconst 1, 1) := by decide +kernel
theorem dL_law_417 : decode cL_law 417 = .ok (.iadd, 1) := by decide +kernel
theorem dL_law_418 : decode cL_law 418 = .ok (.iaload, 1) := by decide +kernel
theorem dL_law_419 : decode cL_law 419 = .ok (.aload_n 0, 1) := by decide +kernel
theorem dL_law_420 : decode cL_law 420 = .ok (.iload_n 3, 1) := by decide +kernel
theorem dL_law_421 : decode cL_law 421 = .ok (.iconst 2, 1) := by decide +kernel
theorem dL_law_422 : decode cL_law 422 = .ok (.iadd, 1) := by decide +kernel
theorem dL_law_423 : decode cL_law 423 = .ok (.iaload, 1) := by decide +kernel
theorem dL_law_424 : decode cL_law 424 = .ok (.aload_n 0, 1) := by decide +kernel
theorem dL_law_425 : decode cL_law 425 = .ok (.iload_n 3, 1) := by decide +kernel
theorem dL_law_426 : decode cL_law 426 = .ok (.iconst 3, 1) := by decide +kernel
theorem dL_law_427 : decode cL_law 427 = .ok (.iadd, 1) := by decide +kernel
theorem dL_law_428 : decode cL_law 428 = .ok (.iaload, 1) := by decide +kernel
theorem dL_law_429 : decode cL_law 429 = .ok (.invokevirtual 53, 3) := by decide +kernel
theorem dL_law_432 : decode cL_law 432 = .ok (.aload_n 2, 1) := by decide +kernel
theorem dL_law_433 : decode cL_law 433 = .ok (.aload_n 0, 1) := by decide +kernel
theorem dL_law_434 : decode cL_law 434 = .ok (.iload_n 3, 1) := by decide +kernel
theorem dL_law_435 : decode cL_law 435 = .ok (.iconst 1, 1) := by decide +kernel
theorem dL_law_436 : decode cL_law 436 = .ok (.iadd, 1) := by decide +kernel
theorem dL_law_437 : decode cL_law 437 = .ok (.iaload, 1) := by decide +kernel
theorem dL_law_438 : decode cL_law 438 = .ok (.aload_n 0, 1) := by decide +kernel
theorem dL_law_439 : decode cL_law 439 = .ok (.iload_n 3, 1) := by decide +kernel
theorem dL_law_440 : decode cL_law 440 = .ok (.iconst 2, 1) := by decide +kernel
theorem dL_law_441 : decode cL_law 441 = .ok (.iadd, 1) := by decide +kernel
theorem dL_law_442 : decode cL_law 442 = .ok (.iaload, 1) := by decide +kernel
theorem dL_law_443 : decode cL_law 443 = .ok (.aload_n 0, 1) := by decide +kernel
theorem dL_law_444 : decode cL_law 444 = .ok (.iload_n 3, 1) := by decide +kernel
theorem dL_law_445 : decode cL_law 445 = .ok (.iconst 3, 1) := by decide +kernel
theorem dL_law_446 : decode cL_law 446 = .ok (.iadd, 1) := by decide +kernel
theorem dL_law_447 : decode cL_law 447 = .ok (.iaload, 1) := by decide +kernel
theorem dL_law_448 : decode cL_law 448 = .ok (.invokevirtual 56, 3) := by decide +kernel
theorem dL_law_451 : decode cL_law 451 = .ok (.if_icmp .eq 637, 3) := by decide +kernel
theorem dL_law_454 : decode cL_law 454 = .ok (.iconst 0, 1) := by decide +kernel
theorem dL_law_455 : decode cL_law 455 = .ok (.ireturn, 1) := by decide +kernel
theorem dL_law_456 : decode cL_law 456 = .ok (.aload_n 1, 1) := by decide +kernel
theorem dL_law_457 : decode cL_law 457 = .ok (.aload_n 0, 1) := by decide +kernel
theorem dL_law_458 : decode cL_law 458 = .ok (.iload_n 3, 1) := by decide +kernel
theorem dL_law_459 : decode cL_law 459 = .ok (.iconst 1, 1) := by decide +kernel
theorem dL_law_460 : decode cL_law 460 = .ok (.iadd, 1) := by decide +kernel
theorem dL_law_461 : decode cL_law 461 = .ok (.iaload, 1) := by decide +kernel
theorem dL_law_462 : decode cL_law 462 = .ok (.aload_n 0, 1) := by decide +kernel
theorem dL_law_463 : decode cL_law 463 = .ok (.iload_n 3, 1) := by decide +kernel
theorem dL_law_464 : decode cL_law 464 = .ok (.iconst 2, 1) := by decide +kernel
theorem dL_law_465 : decode cL_law 465 = .ok (.iadd, 1) := by decide +kernel
theorem dL_law_466 : decode cL_law 466 = .ok (.iaload, 1) := by decide +kernel
theorem dL_law_467 : decode cL_law 467 = .ok (.aload_n 0, 1) := by decide +kernel
theorem dL_law_468 : decode cL_law 468 = .ok (.iload_n 3, 1) := by decide +kernel
theorem dL_law_469 : decode cL_law 469 = .ok (.iconst 3, 1) := by decide +kernel
theorem dL_law_470 : decode cL_law 470 = .ok (.iadd, 1) := by decide +kernel
theorem dL_law_471 : decode cL_law 471 = .ok (.iaload, 1) := by decide +kernel
theorem dL_law_472 : decode cL_law 472 = .ok (.invokevirtual 57, 3) := by decide +kernel
theorem dL_law_475 : decode cL_law 475 = .ok (.aload_n 2, 1) := by decide +kernel
theorem dL_law_476 : decode cL_law 476 = .ok (.aload_n 0, 1) := by decide +kernel
theorem dL_law_477 : decode cL_law 477 = .ok (.iload_n 3, 1) := by decide +kernel
theorem dL_law_478 : decode cL_law 478 = .ok (.iconst 1, 1) := by decide +kernel
theorem dL_law_479 : decode cL_law 479 = .ok (.iadd, 1) := by decide +kernel
theorem dL_law_480 : decode cL_law 480 = .ok (.iaload, 1) := by decide +kernel
theorem dL_law_481 : decode cL_law 481 = .ok (.aload_n 0, 1) := by decide +kernel
theorem dL_law_482 : decode cL_law 482 = .ok (.iload_n 3, 1) := by decide +kernel
theorem dL_law_483 : decode cL_law 483 = .ok (.iconst 2, 1) := by decide +kernel
theorem dL_law_484 : decode cL_law 484 = .ok (.iadd, 1) := by decide +kernel
theorem dL_law_485 : decode cL_law 485 = .ok (.iaload, 1) := by decide +kernel
theorem dL_law_486 : decode cL_law 486 = .ok (.aload_n 0, 1) := by decide +kernel
theorem dL_law_487 : decode cL_law 487 = .ok (.iload_n 3, 1) := by decide +kernel
theorem dL_law_488 : decode cL_law 488 = .ok (.iconst 3, 1) := by decide +kernel
theorem dL_law_489 : decode cL_law 489 = .ok (.iadd, 1) := by decide +kernel
theorem dL_law_490 : decode cL_law 490 = .ok (.iaload, 1) := by decide +kernel
theorem dL_law_491 : decode cL_law 491 = .ok (.invokevirtual 60, 3) := by decide +kernel
theorem dL_law_494 : decode cL_law 494 = .ok (.if_icmp .eq 594, 3) := by decide +kernel
theorem dL_law_497 : decode cL_law 497 = .ok (.iconst 0, 1) := by decide +kernel
theorem dL_law_498 : decode cL_law 498 = .ok (.ireturn, 1) := by decide +kernel
theorem dL_law_499 : decode cL_law 499 = .ok (.aload_n 1, 1) := by decide +kernel
theorem dL_law_500 : decode cL_law 500 = .ok (.aload_n 0, 1) := by decide +kernel
theorem dL_law_501 : decode cL_law 501 = .ok (.iload_n 3, 1) := by decide +kernel
theorem dL_law_502 : decode cL_law 502 = .ok (.iconst 1, 1) := by decide +kernel
theorem dL_law_503 : decode cL_law 503 = .ok (.iadd, 1) := by decide +kernel
theorem dL_law_504 : decode cL_law 504 = .ok (.iaload, 1) := by decide +kernel
theorem dL_law_505 : decode cL_law 505 = .ok (.aload_n 0, 1) := by decide +kernel
theorem dL_law_506 : decode cL_law 506 = .ok (.iload_n 3, 1) := by decide +kernel
theorem dL_law_507 : decode cL_law 507 = .ok (.iconst 2, 1) := by decide +kernel
theorem dL_law_508 : decode cL_law 508 = .ok (.iadd, 1) := by decide +kernel
theorem dL_law_509 : decode cL_law 509 = .ok (.iaload, 1) := by decide +kernel
theorem dL_law_510 : decode cL_law 510 = .ok (.aload_n 0, 1) := by decide +kernel
theorem dL_law_511 : decode cL_law 511 = .ok (.iload_n 3, 1) := by decide +kernel
theorem dL_law_512 : decode cL_law 512 = .ok (.iconst 3, 1) := by decide +kernel
theorem dL_law_513 : decode cL_law 513 = .ok (.iadd, 1) := by decide +kernel
theorem dL_law_514 : decode cL_law 514 = .ok (.iaload, 1) := by decide +kernel
theorem dL_law_515 : decode cL_law 515 = .ok (.invokevirtual 61, 3) := by decide +kernel
theorem dL_law_518 : decode cL_law 518 = .ok (.aload_n 2, 1) := by decide +kernel
theorem dL_law_519 : decode cL_law 519 = .ok (.aload_n 0, 1) := by decide +kernel
theorem dL_law_520 : decode cL_law 520 = .ok (.iload_n 3, 1) := by decide +kernel
theorem dL_law_521 : decode cL_law 521 = .ok (.iconst 1, 1) := by decide +kernel
theorem dL_law_522 : decode cL_law 522 = .ok (.iadd, 1) := by decide +kernel
theorem dL_law_523 : decode cL_law 523 = .ok (.iaload, 1) := by decide +kernel
theorem dL_law_524 : decode cL_law 524 = .ok (.aload_n 0, 1) := by decide +kernel
theorem dL_law_525 : decode cL_law 525 = .ok (.iload_n 3, 1) := by decide +kernel
theorem dL_law_526 : decode cL_law 526 = .ok (.iconst 2, 1) := by decide +kernel
theorem dL_law_527 : decode cL_law 527 = .ok (.iadd, 1) := by decide +kernel
theorem dL_law_528 : decode cL_law 528 = .ok (.iaload, 1) := by decide +kernel
theorem dL_law_529 : decode cL_law 529 = .ok (.aload_n 0, 1) := by decide +kernel
theorem dL_law_530 : decode cL_law 530 = .ok (.iload_n 3, 1) := by decide +kernel
theorem dL_law_531 : decode cL_law 531 = .ok (.iconst 3, 1) := by decide +kernel
theorem dL_law_532 : decode cL_law 532 = .ok (.iadd, 1) := by decide +kernel
theorem dL_law_533 : decode cL_law 533 = .ok (.iaload, 1) := by decide +kernel
theorem dL_law_534 : decode cL_law 534 = .ok (.invokevirtual 64, 3) := by decide +kernel
theorem dL_law_537 : decode cL_law 537 = .ok (.if_icmp .eq 551, 3) := by decide +kernel
theorem dL_law_540 : decode cL_law 540 = .ok (.iconst 0, 1) := by decide +kernel
theorem dL_law_541 : decode cL_law 541 = .ok (.ireturn, 1) := by decide +kernel
theorem dL_law_542 : decode cL_law 542 = .ok (.aload_n 1, 1) := by decide +kernel
theorem dL_law_543 : decode cL_law 543 = .ok (.aload_n 0, 1) := by decide +kernel
theorem dL_law_544 : decode cL_law 544 = .ok (.iload_n 3, 1) := by decide +kernel
theorem dL_law_545 : decode cL_law 545 = .ok (.iconst 1, 1) := by decide +kernel
theorem dL_law_546 : decode cL_law 546 = .ok (.iadd, 1) := by decide +kernel
theorem dL_law_547 : decode cL_law 547 = .ok (.iaload, 1) := by decide +kernel
theorem dL_law_548 : decode cL_law 548 = .ok (.aload_n 0, 1) := by decide +kernel
theorem dL_law_549 : decode cL_law 549 = .ok (.iload_n 3, 1) := by decide +kernel
theorem dL_law_550 : decode cL_law 550 = .ok (.iconst 2, 1) := by decide +kernel
theorem dL_law_551 : decode cL_law 551 = .ok (.iadd, 1) := by decide +kernel
theorem dL_law_552 : decode cL_law 552 = .ok (.iaload, 1) := by decide +kernel
theorem dL_law_553 : decode cL_law 553 = .ok (.invokevirtual 65, 3) := by decide +kernel
theorem dL_law_556 : decode cL_law 556 = .ok (.aload_n 2, 1) := by decide +kernel
theorem dL_law_557 : decode cL_law 557 = .ok (.aload_n 0, 1) := by decide +kernel
theorem dL_law_558 : decode cL_law 558 = .ok (.iload_n 3, 1) := by decide +kernel
theorem dL_law_559 : decode cL_law 559 = .ok (.iconst 1, 1) := by decide +kernel
theorem dL_law_560 : decode cL_law 560 = .ok (.iadd, 1) := by decide +kernel
theorem dL_law_561 : decode cL_law 561 = .ok (.iaload, 1) := by decide +kernel
theorem dL_law_562 : decode cL_law 562 = .ok (.aload_n 0, 1) := by decide +kernel
theorem dL_law_563 : decode cL_law 563 = .ok (.iload_n 3, 1) := by decide +kernel
theorem dL_law_564 : decode cL_law 564 = .ok (.iconst 2, 1) := by decide +kernel
theorem dL_law_565 : decode cL_law 565 = .ok (.iadd, 1) := by decide +kernel
theorem dL_law_566 : decode cL_law 566 = .ok (.iaload, 1) := by decide +kernel
theorem dL_law_567 : decode cL_law 567 = .ok (.invokevirtual 68, 3) := by decide +kernel
theorem dL_law_570 : decode cL_law 570 = .ok (.if_icmp .eq 518, 3) := by decide +kernel
theorem dL_law_573 : decode cL_law 573 = .ok (.iconst 0, 1) := by decide +kernel
theorem dL_law_574 : decode cL_law 574 = .ok (.ireturn, 1) := by decide +kernel
theorem dL_law_575 : decode cL_law 575 = .ok (.aload_n 1, 1) := by decide +kernel
theorem dL_law_576 : decode cL_law 576 = .ok (.aload_n 0, 1) := by decide +kernel
theorem dL_law_577 : decode cL_law 577 = .ok (.iload_n 3, 1) := by decide +kernel
theorem dL_law_578 : decode cL_law 578 = .ok (.iconst 1, 1) := by decide +kernel
theorem dL_law_579 : decode cL_law 579 = .ok (.iadd, 1) := by decide +kernel
theorem dL_law_580 : decode cL_law 580 = .ok (.iaload, 1) := by decide +kernel
theorem dL_law_581 : decode cL_law 581 = .ok (.aload_n 0, 1) := by decide +kernel
theorem dL_law_582 : decode cL_law 582 = .ok (.iload_n 3, 1) := by decide +kernel
theorem dL_law_583 : decode cL_law 583 = .ok (.iconst 2, 1) := by decide +kernel
theorem dL_law_584 : decode cL_law 584 = .ok (.iadd, 1) := by decide +kernel
theorem dL_law_585 : decode cL_law 585 = .ok (.iaload, 1) := by decide +kernel
theorem dL_law_586 : decode cL_law 586 = .ok (.invokevirtual 69, 3) := by decide +kernel
theorem dL_law_589 : decode cL_law 589 = .ok (.aload_n 2, 1) := by decide +kernel
theorem dL_law_590 : decode cL_law 590 = .ok (.aload_n 0, 1) := by decide +kernel
theorem dL_law_591 : decode cL_law 591 = .ok (.iload_n 3, 1) := by decide +kernel
theorem dL_law_592 : decode cL_law 592 = .ok (.iconst 1, 1) := by decide +kernel
theorem dL_law_593 : decode cL_law 593 = .ok (.iadd, 1) := by decide +kernel
theorem dL_law_594 : decode cL_law 594 = .ok (.iaload, 1) := by decide +kernel
theorem dL_law_595 : decode cL_law 595 = .ok (.aload_n 0, 1) := by decide +kernel
theorem dL_law_596 : decode cL_law 596 = .ok (.iload_n 3, 1) := by decide +kernel
theorem dL_law_597 : decode cL_law 597 = .ok (.iconst 2, 1) := by decide +kernel
theorem dL_law_598 : decode cL_law 598 = .ok (.iadd, 1) := by decide +kernel
theorem dL_law_599 : decode cL_law 599 = .ok (.iaload, 1) := by decide +kernel
theorem dL_law_600 : decode cL_law 600 = .ok (.invokevirtual 72, 3) := by decide +kernel
theorem dL_law_603 : decode cL_law 603 = .ok (.if_icmp .eq 485, 3) := by decide +kernel
theorem dL_law_606 : decode cL_law 606 = .ok (.iconst 0, 1) := by decide +kernel
theorem dL_law_607 : decode cL_law 607 = .ok (.ireturn, 1) := by decide +kernel
theorem dL_law_608 : decode cL_law 608 = .ok (.aload_n 1, 1) := by decide +kernel
theorem dL_law_609 : decode cL_law 609 = .ok (.aload_n 0, 1) := by decide +kernel
theorem dL_law_610 : decode cL_law 610 = .ok (.iload_n 3, 1) := by decide +kernel
theorem dL_law_611 : decode cL_law 611 = .ok (.iconst 1, 1) := by decide +kernel
theorem dL_law_612 : decode cL_law 612 = .ok (.iadd, 1) := by decide +kernel
theorem dL_law_613 : decode cL_law 613 = .ok (.iaload, 1) := by decide +kernel
theorem dL_law_614 : decode cL_law 614 = .ok (.aload_n 0, 1) := by decide +kernel
theorem dL_law_615 : decode cL_law 615 = .ok (.iload_n 3, 1) := by decide +kernel
theorem dL_law_616 : decode cL_law 616 = .ok (.iconst 2, 1) := by decide +kernel
theorem dL_law_617 : decode cL_law 617 = .ok (.iadd, 1) := by decide +kernel
theorem dL_law_618 : decode cL_law 618 = .ok (.iaload, 1) := by decide +kernel
theorem dL_law_619 : decode cL_law 619 = .ok (.invokevirtual 73, 3) := by decide +kernel
theorem dL_law_622 : decode cL_law 622 = .ok (.aload_n 2, 1) := by decide +kernel
theorem dL_law_623 : decode cL_law 623 = .ok (.aload_n 0, 1) := by decide +kernel
theorem dL_law_624 : decode cL_law 624 = .ok (.iload_n 3, 1) := by decide +kernel
theorem dL_law_625 : decode cL_law 625 = .ok (.iconst 1, 1) := by decide +kernel
theorem dL_law_626 : decode cL_law 626 = .ok (.iadd, 1) := by decide +kernel
theorem dL_law_627 : decode cL_law 627 = .ok (.iaload, 1) := by decide +kernel
theorem dL_law_628 : decode cL_law 628 = .ok (.aload_n 0, 1) := by decide +kernel
theorem dL_law_629 : decode cL_law 629 = .ok (.iload_n 3, 1) := by decide +kernel
theorem dL_law_630 : decode cL_law 630 = .ok (.iconst 2, 1) := by decide +kernel
theorem dL_law_631 : decode cL_law 631 = .ok (.iadd, 1) := by decide +kernel
theorem dL_law_632 : decode cL_law 632 = .ok (.iaload, 1) := by decide +kernel
theorem dL_law_633 : decode cL_law 633 = .ok (.invokevirtual 76, 3) := by decide +kernel
theorem dL_law_636 : decode cL_law 636 = .ok (.if_icmp .eq 452, 3) := by decide +kernel
theorem dL_law_639 : decode cL_law 639 = .ok (.iconst 0, 1) := by decide +kernel
theorem dL_law_640 : decode cL_law 640 = .ok (.ireturn, 1) := by decide +kernel
theorem dL_law_641 : decode cL_law 641 = .ok (.aload_n 1, 1) := by decide +kernel
theorem dL_law_642 : decode cL_law 642 = .ok (.aload_n 0, 1) := by decide +kernel
theorem dL_law_643 : decode cL_law 643 = .ok (.iload_n 3, 1) := by decide +kernel
theorem dL_law_644 : decode cL_law 644 = .ok (.iconst 1, 1) := by decide +kernel
theorem dL_law_645 : decode cL_law 645 = .ok (.iadd, 1) := by decide +kernel
theorem dL_law_646 : decode cL_law 646 = .ok (.iaload, 1) := by decide +kernel
theorem dL_law_647 : decode cL_law 647 = .ok (.aload_n 0, 1) := by decide +kernel
theorem dL_law_648 : decode cL_law 648 = .ok (.iload_n 3, 1) := by decide +kernel
theorem dL_law_649 : decode cL_law 649 = .ok (.iconst 2, 1) := by decide +kernel
theorem dL_law_650 : decode cL_law 650 = .ok (.iadd, 1) := by decide +kernel
theorem dL_law_651 : decode cL_law 651 = .ok (.iaload, 1) := by decide +kernel
theorem dL_law_652 : decode cL_law 652 = .ok (.aload_n 0, 1) := by decide +kernel
theorem dL_law_653 : decode cL_law 653 = .ok (.iload_n 3, 1) := by decide +kernel
theorem dL_law_654 : decode cL_law 654 = .ok (.iconst 3, 1) := by decide +kernel
theorem dL_law_655 : decode cL_law 655 = .ok (.iadd, 1) := by decide +kernel
theorem dL_law_656 : decode cL_law 656 = .ok (.iaload, 1) := by decide +kernel
theorem dL_law_657 : decode cL_law 657 = .ok (.invokevirtual 77, 3) := by decide +kernel
theorem dL_law_660 : decode cL_law 660 = .ok (.aload_n 2, 1) := by decide +kernel
theorem dL_law_661 : decode cL_law 661 = .ok (.aload_n 0, 1) := by decide +kernel
theorem dL_law_662 : decode cL_law 662 = .ok (.iload_n 3, 1) := by decide +kernel
theorem dL_law_663 : decode cL_law 663 = .ok (.iconst 1, 1) := by decide +kernel
theorem dL_law_664 : decode cL_law 664 = .ok (.iadd, 1) := by decide +kernel
theorem dL_law_665 : decode cL_law 665 = .ok (.iaload, 1) := by decide +kernel
theorem dL_law_666 : decode cL_law 666 = .ok (.aload_n 0, 1) := by decide +kernel
theorem dL_law_667 : decode cL_law 667 = .ok (.iload_n 3, 1) := by decide +kernel
theorem dL_law_668 : decode cL_law 668 = .ok (.iconst 2, 1) := by decide +kernel
theorem dL_law_669 : decode cL_law 669 = .ok (.iadd, 1) := by decide +kernel
theorem dL_law_670 : decode cL_law 670 = .ok (.iaload, 1) := by decide +kernel
theorem dL_law_671 : decode cL_law 671 = .ok (.aload_n 0, 1) := by decide +kernel
theorem dL_law_672 : decode cL_law 672 = .ok (.iload_n 3, 1) := by decide +kernel
theorem dL_law_673 : decode cL_law 673 = .ok (.iconst 3, 1) := by decide +kernel
theorem dL_law_674 : decode cL_law 674 = .ok (.iadd, 1) := by decide +kernel
theorem dL_law_675 : decode cL_law 675 = .ok (.iaload, 1) := by decide +kernel
theorem dL_law_676 : decode cL_law 676 = .ok (.invokevirtual 80, 3) := by decide +kernel
theorem dL_law_679 : decode cL_law 679 = .ok (.if_icmp .eq 409, 3) := by decide +kernel
theorem dL_law_682 : decode cL_law 682 = .ok (.iconst 0, 1) := by decide +kernel
theorem dL_law_683 : decode cL_law 683 = .ok (.ireturn, 1) := by decide +kernel
theorem dL_law_684 : decode cL_law 684 = .ok (.aload_n 1, 1) := by decide +kernel
theorem dL_law_685 : decode cL_law 685 = .ok (.aload_n 0, 1) := by decide +kernel
theorem dL_law_686 : decode cL_law 686 = .ok (.iload_n 3, 1) := by decide +kernel
theorem dL_law_687 : decode cL_law 687 = .ok (.iconst 1, 1) := by decide +kernel
theorem dL_law_688 : decode cL_law 688 = .ok (.iadd, 1) := by decide +kernel
theorem dL_law_689 : decode cL_law 689 = .ok (.iaload, 1) := by decide +kernel
theorem dL_law_690 : decode cL_law 690 = .ok (.aload_n 0, 1) := by decide +kernel
theorem dL_law_691 : decode cL_law 691 = .ok (.iload_n 3, 1) := by decide +kernel
theorem dL_law_692 : decode cL_law 692 = .ok (.iconst 2, 1) := by decide +kernel
theorem dL_law_693 : decode cL_law 693 = .ok (.iadd, 1) := by decide +kernel
theorem dL_law_694 : decode cL_law 694 = .ok (.iaload, 1) := by decide +kernel
theorem dL_law_695 : decode cL_law 695 = .ok (.aload_n 0, 1) := by decide +kernel
theorem dL_law_696 : decode cL_law 696 = .ok (.iload_n 3, 1) := by decide +kernel
theorem dL_law_697 : decode cL_law 697 = .ok (.iconst 3, 1) := by decide +kernel
theorem dL_law_698 : decode cL_law 698 = .ok (.iadd, 1) := by decide +kernel
theorem dL_law_699 : decode cL_law 699 = .ok (.iaload, 1) := by decide +kernel
theorem dL_law_700 : decode cL_law 700 = .ok (.invokevirtual 81, 3) := by decide +kernel
theorem dL_law_703 : decode cL_law 703 = .ok (.aload_n 2, 1) := by decide +kernel
theorem dL_law_704 : decode cL_law 704 = .ok (.aload_n 0, 1) := by decide +kernel
theorem dL_law_705 : decode cL_law 705 = .ok (.iload_n 3, 1) := by decide +kernel
theorem dL_law_706 : decode cL_law 706 = .ok (.iconst 1, 1) := by decide +kernel
theorem dL_law_707 : decode cL_law 707 = .ok (.iadd, 1) := by decide +kernel
theorem dL_law_708 : decode cL_law 708 = .ok (.iaload, 1) := by decide +kernel
theorem dL_law_709 : decode cL_law 709 = .ok (.aload_n 0, 1) := by decide +kernel
theorem dL_law_710 : decode cL_law 710 = .ok (.iload_n 3, 1) := by decide +kernel
theorem dL_law_711 : decode cL_law 711 = .ok (.iconst 2, 1) := by decide +kernel
theorem dL_law_712 : decode cL_law 712 = .ok (.iadd, 1) := by decide +kernel
theorem dL_law_713 : decode cL_law 713 = .ok (.iaload, 1) := by decide +kernel
theorem dL_law_714 : decode cL_law 714 = .ok (.aload_n 0, 1) := by decide +kernel
theorem dL_law_715 : decode cL_law 715 = .ok (.iload_n 3, 1) := by decide +kernel
theorem dL_law_716 : decode cL_law 716 = .ok (.iconst 3, 1) := by decide +kernel
theorem dL_law_717 : decode cL_law 717 = .ok (.iadd, 1) := by decide +kernel
theorem dL_law_718 : decode cL_law 718 = .ok (.iaload, 1) := by decide +kernel
theorem dL_law_719 : decode cL_law 719 = .ok (.invokevirtual 84, 3) := by decide +kernel
theorem dL_law_722 : decode cL_law 722 = .ok (.if_icmp .eq 366, 3) := by decide +kernel
theorem dL_law_725 : decode cL_law 725 = .ok (.iconst 0, 1) := by decide +kernel
theorem dL_law_726 : decode cL_law 726 = .ok (.ireturn, 1) := by decide +kernel
theorem dL_law_727 : decode cL_law 727 = .ok (.aload_n 1, 1) := by decide +kernel
theorem dL_law_728 : decode cL_law 728 = .ok (.aload_n 0, 1) := by decide +kernel
theorem dL_law_729 : decode cL_law 729 = .ok (.iload_n 3, 1) := by decide +kernel
theorem dL_law_730 : decode cL_law 730 = .ok (.iconst 1, 1) := by decide +kernel
theorem dL_law_731 : decode cL_law 731 = .ok (.iadd, 1) := by decide +kernel
theorem dL_law_732 : decode cL_law 732 = .ok (.iaload, 1) := by decide +kernel
theorem dL_law_733 : decode cL_law 733 = .ok (.aload_n 0, 1) := by decide +kernel
theorem dL_law_734 : decode cL_law 734 = .ok (.iload_n 3, 1) := by decide +kernel
theorem dL_law_735 : decode cL_law 735 = .ok (.iconst 2, 1) := by decide +kernel
theorem dL_law_736 : decode cL_law 736 = .ok (.iadd, 1) := by decide +kernel
theorem dL_law_737 : decode cL_law 737 = .ok (.iaload, 1) := by decide +kernel
theorem dL_law_738 : decode cL_law 738 = .ok (.invokevirtual 85, 3) := by decide +kernel
theorem dL_law_741 : decode cL_law 741 = .ok (.aload_n 2, 1) := by decide +kernel
theorem dL_law_742 : decode cL_law 742 = .ok (.aload_n 0, 1) := by decide +kernel
theorem dL_law_743 : decode cL_law 743 = .ok (.iload_n 3, 1) := by decide +kernel
theorem dL_law_744 : decode cL_law 744 = .ok (.iconst 1, 1) := by decide +kernel
theorem dL_law_745 : decode cL_law 745 = .ok (.iadd, 1) := by decide +kernel
theorem dL_law_746 : decode cL_law 746 = .ok (.iaload, 1) := by decide +kernel
theorem dL_law_747 : decode cL_law 747 = .ok (.aload_n 0, 1) := by decide +kernel
theorem dL_law_748 : decode cL_law 748 = .ok (.iload_n 3, 1) := by decide +kernel
theorem dL_law_749 : decode cL_law 749 = .ok (.iconst 2, 1) := by decide +kernel
theorem dL_law_750 : decode cL_law 750 = .ok (.iadd, 1) := by decide +kernel
theorem dL_law_751 : decode cL_law 751 = .ok (.iaload, 1) := by decide +kernel
theorem dL_law_752 : decode cL_law 752 = .ok (.invokevirtual 88, 3) := by decide +kernel
theorem dL_law_755 : decode cL_law 755 = .ok (.if_icmp .eq 333, 3) := by decide +kernel
theorem dL_law_758 : decode cL_law 758 = .ok (.iconst 0, 1) := by decide +kernel
theorem dL_law_759 : decode cL_law 759 = .ok (.ireturn, 1) := by decide +kernel
theorem dL_law_760 : decode cL_law 760 = .ok (.aload_n 1, 1) := by decide +kernel
theorem dL_law_761 : decode cL_law 761 = .ok (.aload_n 0, 1) := by decide +kernel
theorem dL_law_762 : decode cL_law 762 = .ok (.iload_n 3, 1) := by decide +kernel
theorem dL_law_763 : decode cL_law 763 = .ok (.iconst 1, 1) := by decide +kernel
theorem dL_law_764 : decode cL_law 764 = .ok (.iadd, 1) := by decide +kernel
theorem dL_law_765 : decode cL_law 765 = .ok (.iaload, 1) := by decide +kernel
theorem dL_law_766 : decode cL_law 766 = .ok (.aload_n 0, 1) := by decide +kernel
theorem dL_law_767 : decode cL_law 767 = .ok (.iload_n 3, 1) := by decide +kernel
theorem dL_law_768 : decode cL_law 768 = .ok (.iconst 2, 1) := by decide +kernel
theorem dL_law_769 : decode cL_law 769 = .ok (.iadd, 1) := by decide +kernel
theorem dL_law_770 : decode cL_law 770 = .ok (.iaload, 1) := by decide +kernel
theorem dL_law_771 : decode cL_law 771 = .ok (.aload_n 0, 1) := by decide +kernel
theorem dL_law_772 : decode cL_law 772 = .ok (.iload_n 3, 1) := by decide +kernel
theorem dL_law_773 : decode cL_law 773 = .ok (.iconst 3, 1) := by decide +kernel
theorem dL_law_774 : decode cL_law 774 = .ok (.iadd, 1) := by decide +kernel
theorem dL_law_775 : decode cL_law 775 = .ok (.iaload, 1) := by decide +kernel
theorem dL_law_776 : decode cL_law 776 = .ok (.invokevirtual 89, 3) := by decide +kernel
theorem dL_law_779 : decode cL_law 779 = .ok (.aload_n 2, 1) := by decide +kernel
theorem dL_law_780 : decode cL_law 780 = .ok (.aload_n 0, 1) := by decide +kernel
theorem dL_law_781 : decode cL_law 781 = .ok (.iload_n 3, 1) := by decide +kernel
theorem dL_law_782 : decode cL_law 782 = .ok (.iconst 1, 1) := by decide +kernel
theorem dL_law_783 : decode cL_law 783 = .ok (.iadd, 1) := by decide +kernel
theorem dL_law_784 : decode cL_law 784 = .ok (.iaload, 1) := by decide +kernel
theorem dL_law_785 : decode cL_law 785 = .ok (.aload_n 0, 1) := by decide +kernel
theorem dL_law_786 : decode cL_law 786 = .ok (.iload_n 3, 1) := by decide +kernel
theorem dL_law_787 : decode cL_law 787 = .ok (.iconst 2, 1) := by decide +kernel
theorem dL_law_788 : decode cL_law 788 = .ok (.iadd, 1) := by decide +kernel
theorem dL_law_789 : decode cL_law 789 = .ok (.iaload, 1) := by decide +kernel
theorem dL_law_790 : decode cL_law 790 = .ok (.aload_n 0, 1) := by decide +kernel
theorem dL_law_791 : decode cL_law 791 = .ok (.iload_n 3, 1) := by decide +kernel
theorem dL_law_792 : decode cL_law 792 = .ok (.iconst 3, 1) := by decide +kernel
theorem dL_law_793 : decode cL_law 793 = .ok (.iadd, 1) := by decide +kernel
theorem dL_law_794 : decode cL_law 794 = .ok (.iaload, 1) := by decide +kernel
theorem dL_law_795 : decode cL_law 795 = .ok (.invokevirtual 93, 3) := by decide +kernel
theorem dL_law_798 : decode cL_law 798 = .ok (.lcmp, 1) := by decide +kernel
theorem dL_law_799 : decode cL_law 799 = .ok (.ifCond .eq 289, 3) := by decide +kernel
theorem dL_law_802 : decode cL_law 802 = .ok (.iconst 0, 1) := by decide +kernel
theorem dL_law_803 : decode cL_law 803 = .ok (.ireturn, 1) := by decide +kernel
theorem dL_law_804 : decode cL_law 804 = .ok (.aload_n 1, 1) := by decide +kernel
theorem dL_law_805 : decode cL_law 805 = .ok (.invokevirtual 94, 3) := by decide +kernel
theorem dL_law_808 : decode cL_law 808 = .ok (.aload_n 2, 1) := by decide +kernel
theorem dL_law_809 : decode cL_law 809 = .ok (.invokevirtual 97, 3) := by decide +kernel
theorem dL_law_812 : decode cL_law 812 = .ok (.if_icmp .eq 276, 3) := by decide +kernel
theorem dL_law_815 : decode cL_law 815 = .ok (.iconst 0, 1) := by decide +kernel
theorem dL_law_816 : decode cL_law 816 = .ok (.ireturn, 1) := by decide +kernel
theorem dL_law_817 : decode cL_law 817 = .ok (.aload_n 1, 1) := by decide +kernel
theorem dL_law_818 : decode cL_law 818 = .ok (.invokevirtual 98, 3) := by decide +kernel
theorem dL_law_821 : decode cL_law 821 = .ok (.aload_n 2, 1) := by decide +kernel
theorem dL_law_822 : decode cL_law 822 = .ok (.invokevirtual 101, 3) := by decide +kernel
theorem dL_law_825 : decode cL_law 825 = .ok (.if_icmp .eq 263, 3) := by decide +kernel
theorem dL_law_828 : decode cL_law 828 = .ok (.iconst 0, 1) := by decide +kernel
theorem dL_law_829 : decode cL_law 829 = .ok (.ireturn, 1) := by decide +kernel
theorem dL_law_830 : decode cL_law 830 = .ok (.aload_n 1, 1) := by decide +kernel
theorem dL_law_831 : decode cL_law 831 = .ok (.aload_n 0, 1) := by decide +kernel
theorem dL_law_832 : decode cL_law 832 = .ok (.iload_n 3, 1) := by decide +kernel
theorem dL_law_833 : decode cL_law 833 = .ok (.iconst 1, 1) := by decide +kernel
theorem dL_law_834 : decode cL_law 834 = .ok (.iadd, 1) := by decide +kernel
theorem dL_law_835 : decode cL_law 835 = .ok (.iaload, 1) := by decide +kernel
theorem dL_law_836 : decode cL_law 836 = .ok (.invokevirtual 102, 3) := by decide +kernel
theorem dL_law_839 : decode cL_law 839 = .ok (.aload_n 2, 1) := by decide +kernel
theorem dL_law_840 : decode cL_law 840 = .ok (.aload_n 0, 1) := by decide +kernel
theorem dL_law_841 : decode cL_law 841 = .ok (.iload_n 3, 1) := by decide +kernel
theorem dL_law_842 : decode cL_law 842 = .ok (.iconst 1, 1) := by decide +kernel
theorem dL_law_843 : decode cL_law 843 = .ok (.iadd, 1) := by decide +kernel
theorem dL_law_844 : decode cL_law 844 = .ok (.iaload, 1) := by decide +kernel
theorem dL_law_845 : decode cL_law 845 = .ok (.invokevirtual 105, 3) := by decide +kernel
theorem dL_law_848 : decode cL_law 848 = .ok (.if_icmp .eq 240, 3) := by decide +kernel
theorem dL_law_851 : decode cL_law 851 = .ok (.iconst 0, 1) := by decide +kernel
theorem dL_law_852 : decode cL_law 852 = .ok (.ireturn, 1) := by decide +kernel
theorem dL_law_853 : decode cL_law 853 = .ok (.aload_n 1, 1) := by decide +kernel
theorem dL_law_854 : decode cL_law 854 = .ok (.aload_n 0, 1) := by decide +kernel
theorem dL_law_855 : decode cL_law 855 = .ok (.iload_n 3, 1) := by decide +kernel
theorem dL_law_856 : decode cL_law 856 = .ok (.iconst 1, 1) := by decide +kernel
theorem dL_law_857 : decode cL_law 857 = .ok (.iadd, 1) := by decide +kernel
theorem dL_law_858 : decode cL_law 858 = .ok (.iaload, 1) := by decide +kernel
theorem dL_law_859 : decode cL_law 859 = .ok (.aload_n 0, 1) := by decide +kernel
theorem dL_law_860 : decode cL_law 860 = .ok (.iload_n 3, 1) := by decide +kernel
theorem dL_law_861 : decode cL_law 861 = .ok (.iconst 2, 1) := by decide +kernel
theorem dL_law_862 : decode cL_law 862 = .ok (.iadd, 1) := by decide +kernel
theorem dL_law_863 : decode cL_law 863 = .ok (.iaload, 1) := by decide +kernel
theorem dL_law_864 : decode cL_law 864 = .ok (.aload_n 0, 1) := by decide +kernel
theorem dL_law_865 : decode cL_law 865 = .ok (.iload_n 3, 1) := by decide +kernel
theorem dL_law_866 : decode cL_law 866 = .ok (.iconst 3, 1) := by decide +kernel
theorem dL_law_867 : decode cL_law 867 = .ok (.iadd, 1) := by decide +kernel
theorem dL_law_868 : decode cL_law 868 = .ok (.iaload, 1) := by decide +kernel
theorem dL_law_869 : decode cL_law 869 = .ok (.invokevirtual 106, 3) := by decide +kernel
theorem dL_law_872 : decode cL_law 872 = .ok (.aload_n 2, 1) := by decide +kernel
theorem dL_law_873 : decode cL_law 873 = .ok (.aload_n 0, 1) := by decide +kernel
theorem dL_law_874 : decode cL_law 874 = .ok (.iload_n 3, 1) := by decide +kernel
theorem dL_law_875 : decode cL_law 875 = .ok (.iconst 1, 1) := by decide +kernel
theorem dL_law_876 : decode cL_law 876 = .ok (.iadd, 1) := by decide +kernel
theorem dL_law_877 : decode cL_law 877 = .ok (.iaload, 1) := by decide +kernel
theorem dL_law_878 : decode cL_law 878 = .ok (.aload_n 0, 1) := by decide +kernel
theorem dL_law_879 : decode cL_law 879 = .ok (.iload_n 3, 1) := by decide +kernel
theorem dL_law_880 : decode cL_law 880 = .ok (.iconst 2, 1) := by decide +kernel
theorem dL_law_881 : decode cL_law 881 = .ok (.iadd, 1) := by decide +kernel
theorem dL_law_882 : decode cL_law 882 = .ok (.iaload, 1) := by decide +kernel
theorem dL_law_883 : decode cL_law 883 = .ok (.aload_n 0, 1) := by decide +kernel
theorem dL_law_884 : decode cL_law 884 = .ok (.iload_n 3, 1) := by decide +kernel
theorem dL_law_885 : decode cL_law 885 = .ok (.iconst 3, 1) := by decide +kernel
theorem dL_law_886 : decode cL_law 886 = .ok (.iadd, 1) := by decide +kernel
theorem dL_law_887 : decode cL_law 887 = .ok (.iaload, 1) := by decide +kernel
theorem dL_law_888 : decode cL_law 888 = .ok (.invokevirtual 109, 3) := by decide +kernel
theorem dL_law_891 : decode cL_law 891 = .ok (.if_icmp .eq 197, 3) := by decide +kernel
theorem dL_law_894 : decode cL_law 894 = .ok (.iconst 0, 1) := by decide +kernel
theorem dL_law_895 : decode cL_law 895 = .ok (.ireturn, 1) := by decide +kernel
theorem dL_law_896 : decode cL_law 896 = .ok (.aload_n 1, 1) := by decide +kernel
theorem dL_law_897 : decode cL_law 897 = .ok (.aload_n 0, 1) := by decide +kernel
theorem dL_law_898 : decode cL_law 898 = .ok (.iload_n 3, 1) := by decide +kernel
theorem dL_law_899 : decode cL_law 899 = .ok (.iconst 1, 1) := by decide +kernel
theorem dL_law_900 : decode cL_law 900 = .ok (.iadd, 1) := by decide +kernel
theorem dL_law_901 : decode cL_law 901 = .ok (.iaload, 1) := by decide +kernel
theorem dL_law_902 : decode cL_law 902 = .ok (.aload_n 0, 1) := by decide +kernel
theorem dL_law_903 : decode cL_law 903 = .ok (.iload_n 3, 1) := by decide +kernel
theorem dL_law_904 : decode cL_law 904 = .ok (.iconst 2, 1) := by decide +kernel
theorem dL_law_905 : decode cL_law 905 = .ok (.iadd, 1) := by decide +kernel
theorem dL_law_906 : decode cL_law 906 = .ok (.iaload, 1) := by decide +kernel
theorem dL_law_907 : decode cL_law 907 = .ok (.aload_n 0, 1) := by decide +kernel
theorem dL_law_908 : decode cL_law 908 = .ok (.iload_n 3, 1) := by decide +kernel
theorem dL_law_909 : decode cL_law 909 = .ok (.iconst 3, 1) := by decide +kernel
theorem dL_law_910 : decode cL_law 910 = .ok (.iadd, 1) := by decide +kernel
theorem dL_law_911 : decode cL_law 911 = .ok (.iaload, 1) := by decide +kernel
theorem dL_law_912 : decode cL_law 912 = .ok (.invokevirtual 110, 3) := by decide +kernel
theorem dL_law_915 : decode cL_law 915 = .ok (.aload_n 2, 1) := by decide +kernel
theorem dL_law_916 : decode cL_law 916 = .ok (.aload_n 0, 1) := by decide +kernel
theorem dL_law_917 : decode cL_law 917 = .ok (.iload_n 3, 1) := by decide +kernel
theorem dL_law_918 : decode cL_law 918 = .ok (.iconst 1, 1) := by decide +kernel
theorem dL_law_919 : decode cL_law 919 = .ok (.iadd, 1) := by decide +kernel
theorem dL_law_920 : decode cL_law 920 = .ok (.iaload, 1) := by decide +kernel
theorem dL_law_921 : decode cL_law 921 = .ok (.aload_n 0, 1) := by decide +kernel
theorem dL_law_922 : decode cL_law 922 = .ok (.iload_n 3, 1) := by decide +kernel
theorem dL_law_923 : decode cL_law 923 = .ok (.iconst 2, 1) := by decide +kernel
theorem dL_law_924 : decode cL_law 924 = .ok (.iadd, 1) := by decide +kernel
theorem dL_law_925 : decode cL_law 925 = .ok (.iaload, 1) := by decide +kernel
theorem dL_law_926 : decode cL_law 926 = .ok (.aload_n 0, 1) := by decide +kernel
theorem dL_law_927 : decode cL_law 927 = .ok (.iload_n 3, 1) := by decide +kernel
theorem dL_law_928 : decode cL_law 928 = .ok (.iconst 3, 1) := by decide +kernel
theorem dL_law_929 : decode cL_law 929 = .ok (.iadd, 1) := by decide +kernel
theorem dL_law_930 : decode cL_law 930 = .ok (.iaload, 1) := by decide +kernel
theorem dL_law_931 : decode cL_law 931 = .ok (.invokevirtual 113, 3) := by decide +kernel
theorem dL_law_934 : decode cL_law 934 = .ok (.if_icmp .eq 154, 3) := by decide +kernel
theorem dL_law_937 : decode cL_law 937 = .ok (.iconst 0, 1) := by decide +kernel
theorem dL_law_938 : decode cL_law 938 = .ok (.ireturn, 1) := by decide +kernel
theorem dL_law_939 : decode cL_law 939 = .ok (.aload_n 1, 1) := by decide +kernel
theorem dL_law_940 : decode cL_law 940 = .ok (.aload_n 0, 1) := by decide +kernel
theorem dL_law_941 : decode cL_law 941 = .ok (.iload_n 3, 1) := by decide +kernel
theorem dL_law_942 : decode cL_law 942 = .ok (.iconst 1, 1) := by decide +kernel
theorem dL_law_943 : decode cL_law 943 = .ok (.iadd, 1) := by decide +kernel
theorem dL_law_944 : decode cL_law 944 = .ok (.iaload, 1) := by decide +kernel
theorem dL_law_945 : decode cL_law 945 = .ok (.aload_n 0, 1) := by decide +kernel
theorem dL_law_946 : decode cL_law 946 = .ok (.iload_n 3, 1) := by decide +kernel
theorem dL_law_947 : decode cL_law 947 = .ok (.iconst 2, 1) := by decide +kernel
theorem dL_law_948 : decode cL_law 948 = .ok (.iadd, 1) := by decide +kernel
theorem dL_law_949 : decode cL_law 949 = .ok (.iaload, 1) := by decide +kernel
theorem dL_law_950 : decode cL_law 950 = .ok (.aload_n 0, 1) := by decide +kernel
theorem dL_law_951 : decode cL_law 951 = .ok (.iload_n 3, 1) := by decide +kernel
theorem dL_law_952 : decode cL_law 952 = .ok (.iconst 3, 1) := by decide +kernel
theorem dL_law_953 : decode cL_law 953 = .ok (.iadd, 1) := by decide +kernel
theorem dL_law_954 : decode cL_law 954 = .ok (.iaload, 1) := by decide +kernel
theorem dL_law_955 : decode cL_law 955 = .ok (.aload_n 0, 1) := by decide +kernel
theorem dL_law_956 : decode cL_law 956 = .ok (.iload_n 3, 1) := by decide +kernel
theorem dL_law_957 : decode cL_law 957 = .ok (.iconst 4, 1) := by decide +kernel
theorem dL_law_958 : decode cL_law 958 = .ok (.iadd, 1) := by decide +kernel
theorem dL_law_959 : decode cL_law 959 = .ok (.iaload, 1) := by decide +kernel
theorem dL_law_960 : decode cL_law 960 = .ok (.aload_n 0, 1) := by decide +kernel
theorem dL_law_961 : decode cL_law 961 = .ok (.iload_n 3, 1) := by decide +kernel
theorem dL_law_962 : decode cL_law 962 = .ok (.iconst 5, 1) := by decide +kernel
theorem dL_law_963 : decode cL_law 963 = .ok (.iadd, 1) := by decide +kernel
theorem dL_law_964 : decode cL_law 964 = .ok (.iaload, 1) := by decide +kernel
theorem dL_law_965 : decode cL_law 965 = .ok (.invokevirtual 114, 3) := by decide +kernel
theorem dL_law_968 : decode cL_law 968 = .ok (.aload_n 2, 1) := by decide +kernel
theorem dL_law_969 : decode cL_law 969 = .ok (.aload_n 0, 1) := by decide +kernel
theorem dL_law_970 : decode cL_law 970 = .ok (.iload_n 3, 1) := by decide +kernel
theorem dL_law_971 : decode cL_law 971 = .ok (.iconst 1, 1) := by decide +kernel
theorem dL_law_972 : decode cL_law 972 = .ok (.iadd, 1) := by decide +kernel
theorem dL_law_973 : decode cL_law 973 = .ok (.iaload, 1) := by decide +kernel
theorem dL_law_974 : decode cL_law 974 = .ok (.aload_n 0, 1) := by decide +kernel
theorem dL_law_975 : decode cL_law 975 = .ok (.iload_n 3, 1) := by decide +kernel
theorem dL_law_976 : decode cL_law 976 = .ok (.iconst 2, 1) := by decide +kernel
theorem dL_law_977 : decode cL_law 977 = .ok (.iadd, 1) := by decide +kernel
theorem dL_law_978 : decode cL_law 978 = .ok (.iaload, 1) := by decide +kernel
theorem dL_law_979 : decode cL_law 979 = .ok (.aload_n 0, 1) := by decide +kernel
theorem dL_law_980 : decode cL_law 980 = .ok (.iload_n 3, 1) := by decide +kernel
theorem dL_law_981 : decode cL_law 981 = .ok (.iconst 3, 1) := by decide +kernel
theorem dL_law_982 : decode cL_law 982 = .ok (.iadd, 1) := by decide +kernel
theorem dL_law_983 : decode cL_law 983 = .ok (.iaload, 1) := by decide +kernel
theorem dL_law_984 : decode cL_law 984 = .ok (.aload_n 0, 1) := by decide +kernel
theorem dL_law_985 : decode cL_law 985 = .ok (.iload_n 3, 1) := by decide +kernel
theorem dL_law_986 : decode cL_law 986 = .ok (.iconst 4, 1) := by decide +kernel
theorem dL_law_987 : decode cL_law 987 = .ok (.iadd, 1) := by decide +kernel
theorem dL_law_988 : decode cL_law 988 = .ok (.iaload, 1) := by decide +kernel
theorem dL_law_989 : decode cL_law 989 = .ok (.aload_n 0, 1) := by decide +kernel
theorem dL_law_990 : decode cL_law 990 = .ok (.iload_n 3, 1) := by decide +kernel
theorem dL_law_991 : decode cL_law 991 = .ok (.iconst 5, 1) := by decide +kernel
theorem dL_law_992 : decode cL_law 992 = .ok (.iadd, 1) := by decide +kernel
theorem dL_law_993 : decode cL_law 993 = .ok (.iaload, 1) := by decide +kernel
theorem dL_law_994 : decode cL_law 994 = .ok (.invokevirtual 118, 3) := by decide +kernel
theorem dL_law_997 : decode cL_law 997 = .ok (.if_icmp .eq 91, 3) := by decide +kernel
theorem dL_law_1000 : decode cL_law 1000 = .ok (.iconst 0, 1) := by decide +kernel
theorem dL_law_1001 : decode cL_law 1001 = .ok (.ireturn, 1) := by decide +kernel
theorem dL_law_1002 : decode cL_law 1002 = .ok (.aload_n 1, 1) := by decide +kernel
theorem dL_law_1003 : decode cL_law 1003 = .ok (.aload_n 0, 1) := by decide +kernel
theorem dL_law_1004 : decode cL_law 1004 = .ok (.iload_n 3, 1) := by decide +kernel
theorem dL_law_1005 : decode cL_law 1005 = .ok (.iconst 1, 1) := by decide +kernel
theorem dL_law_1006 : decode cL_law 1006 = .ok (.iadd, 1) := by decide +kernel
theorem dL_law_1007 : decode cL_law 1007 = .ok (.iaload, 1) := by decide +kernel
theorem dL_law_1008 : decode cL_law 1008 = .ok (.aload_n 0, 1) := by decide +kernel
theorem dL_law_1009 : decode cL_law 1009 = .ok (.iload_n 3, 1) := by decide +kernel
theorem dL_law_1010 : decode cL_law 1010 = .ok (.iconst 2, 1) := by decide +kernel
theorem dL_law_1011 : decode cL_law 1011 = .ok (.iadd, 1) := by decide +kernel
theorem dL_law_1012 : decode cL_law 1012 = .ok (.iaload, 1) := by decide +kernel
theorem dL_law_1013 : decode cL_law 1013 = .ok (.aload_n 0, 1) := by decide +kernel
theorem dL_law_1014 : decode cL_law 1014 = .ok (.iload_n 3, 1) := by decide +kernel
theorem dL_law_1015 : decode cL_law 1015 = .ok (.iconst 3, 1) := by decide +kernel
theorem dL_law_1016 : decode cL_law 1016 = .ok (.iadd, 1) := by decide +kernel
theorem dL_law_1017 : decode cL_law 1017 = .ok (.iaload, 1) := by decide +kernel
theorem dL_law_1018 : decode cL_law 1018 = .ok (.aload_n 0, 1) := by decide +kernel
theorem dL_law_1019 : decode cL_law 1019 = .ok (.iload_n 3, 1) := by decide +kernel
theorem dL_law_1020 : decode cL_law 1020 = .ok (.iconst 4, 1) := by decide +kernel
theorem dL_law_1021 : decode cL_law 1021 = .ok (.iadd, 1) := by decide +kernel
theorem dL_law_1022 : decode cL_law 1022 = .ok (.iaload, 1) := by decide +kernel
theorem dL_law_1023 : decode cL_law 1023 = .ok (.invokevirtual 119, 3) := by decide +kernel
theorem dL_law_1026 : decode cL_law 1026 = .ok (.aload_n 2, 1) := by decide +kernel
theorem dL_law_1027 : decode cL_law 1027 = .ok (.aload_n 0, 1) := by decide +kernel
theorem dL_law_1028 : decode cL_law 1028 = .ok (.iload_n 3, 1) := by decide +kernel
theorem dL_law_1029 : decode cL_law 1029 = .ok (.iconst 1, 1) := by decide +kernel
theorem dL_law_1030 : decode cL_law 1030 = .ok (.iadd, 1) := by decide +kernel
theorem dL_law_1031 : decode cL_law 1031 = .ok (.iaload, 1) := by decide +kernel
theorem dL_law_1032 : decode cL_law 1032 = .ok (.aload_n 0, 1) := by decide +kernel
theorem dL_law_1033 : decode cL_law 1033 = .ok (.iload_n 3, 1) := by decide +kernel
theorem dL_law_1034 : decode cL_law 1034 = .ok (.iconst 2, 1) := by decide +kernel
theorem dL_law_1035 : decode cL_law 1035 = .ok (.iadd, 1) := by decide +kernel
theorem dL_law_1036 : decode cL_law 1036 = .ok (.iaload, 1) := by decide +kernel
theorem dL_law_1037 : decode cL_law 1037 = .ok (.aload_n 0, 1) := by decide +kernel
theorem dL_law_1038 : decode cL_law 1038 = .ok (.iload_n 3, 1) := by decide +kernel
theorem dL_law_1039 : decode cL_law 1039 = .ok (.iconst 3, 1) := by decide +kernel
theorem dL_law_1040 : decode cL_law 1040 = .ok (.iadd, 1) := by decide +kernel
theorem dL_law_1041 : decode cL_law 1041 = .ok (.iaload, 1) := by decide +kernel
theorem dL_law_1042 : decode cL_law 1042 = .ok (.aload_n 0, 1) := by decide +kernel
theorem dL_law_1043 : decode cL_law 1043 = .ok (.iload_n 3, 1) := by decide +kernel
theorem dL_law_1044 : decode cL_law 1044 = .ok (.iconst 4, 1) := by decide +kernel
theorem dL_law_1045 : decode cL_law 1045 = .ok (.iadd, 1) := by decide +kernel
theorem dL_law_1046 : decode cL_law 1046 = .ok (.iaload, 1) := by decide +kernel
theorem dL_law_1047 : decode cL_law 1047 = .ok (.invokevirtual 123, 3) := by decide +kernel
theorem dL_law_1050 : decode cL_law 1050 = .ok (.if_icmp .eq 38, 3) := by decide +kernel
theorem dL_law_1053 : decode cL_law 1053 = .ok (.iconst 0, 1) := by decide +kernel
theorem dL_law_1054 : decode cL_law 1054 = .ok (.ireturn, 1) := by decide +kernel
theorem dL_law_1055 : decode cL_law 1055 = .ok (.aload_n 1, 1) := by decide +kernel
theorem dL_law_1056 : decode cL_law 1056 = .ok (.aload_n 0, 1) := by decide +kernel
theorem dL_law_1057 : decode cL_law 1057 = .ok (.iload_n 3, 1) := by decide +kernel
theorem dL_law_1058 : decode cL_law 1058 = .ok (.iconst 1, 1) := by decide +kernel
theorem dL_law_1059 : decode cL_law 1059 = .ok (.iadd, 1) := by decide +kernel
theorem dL_law_1060 : decode cL_law 1060 = .ok (.iaload, 1) := by decide +kernel
theorem dL_law_1061 : decode cL_law 1061 = .ok (.aload_n 0, 1) := by decide +kernel
theorem dL_law_1062 : decode cL_law 1062 = .ok (.iload_n 3, 1) := by decide +kernel
theorem dL_law_1063 : decode cL_law 1063 = .ok (.iconst 2, 1) := by decide +kernel
theorem dL_law_1064 : decode cL_law 1064 = .ok (.iadd, 1) := by decide +kernel
theorem dL_law_1065 : decode cL_law 1065 = .ok (.iaload, 1) := by decide +kernel
theorem dL_law_1066 : decode cL_law 1066 = .ok (.invokevirtual 124, 3) := by decide +kernel
theorem dL_law_1069 : decode cL_law 1069 = .ok (.aload_n 2, 1) := by decide +kernel
theorem dL_law_1070 : decode cL_law 1070 = .ok (.aload_n 0, 1) := by decide +kernel
theorem dL_law_1071 : decode cL_law 1071 = .ok (.iload_n 3, 1) := by decide +kernel
theorem dL_law_1072 : decode cL_law 1072 = .ok (.iconst 1, 1) := by decide +kernel
theorem dL_law_1073 : decode cL_law 1073 = .ok (.iadd, 1) := by decide +kernel
theorem dL_law_1074 : decode cL_law 1074 = .ok (.iaload, 1) := by decide +kernel
theorem dL_law_1075 : decode cL_law 1075 = .ok (.aload_n 0, 1) := by decide +kernel
theorem dL_law_1076 : decode cL_law 1076 = .ok (.iload_n 3, 1) := by decide +kernel
theorem dL_law_1077 : decode cL_law 1077 = .ok (.iconst 2, 1) := by decide +kernel
theorem dL_law_1078 : decode cL_law 1078 = .ok (.iadd, 1) := by decide +kernel
theorem dL_law_1079 : decode cL_law 1079 = .ok (.iaload, 1) := by decide +kernel
theorem dL_law_1080 : decode cL_law 1080 = .ok (.invokevirtual 127, 3) := by decide +kernel
theorem dL_law_1083 : decode cL_law 1083 = .ok (.if_icmp .eq 5, 3) := by decide +kernel
theorem dL_law_1086 : decode cL_law 1086 = .ok (.iconst 0, 1) := by decide +kernel
theorem dL_law_1087 : decode cL_law 1087 = .ok (.ireturn, 1) := by decide +kernel
theorem dL_law_1088 : decode cL_law 1088 = .ok (.iinc 3 6, 3) := by decide +kernel
theorem dL_law_1091 : decode cL_law 1091 = .ok (.goto (-1073), 3) := by decide +kernel
theorem dL_law_1094 : decode cL_law 1094 = .ok (.iconst 1, 1) := by decide +kernel
theorem dL_law_1095 : decode cL_law 1095 = .ok (.ireturn, 1) := by decide +kernel

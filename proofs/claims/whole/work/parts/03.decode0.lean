theorem dX0_init_0 : decode cX0_init 0 = .ok (.aload_n 0, 1) := by decide +kernel
theorem dX0_init_1 : decode cX0_init 1 = .ok (.invokespecial 3, 3) := by decide +kernel
theorem dX0_init_4 : decode cX0_init 4 = .ok (.aload_n 0, 1) := by decide +kernel
theorem dX0_init_5 : decode cX0_init 5 = .ok (.iconst 0, 1) := by decide +kernel
theorem dX0_init_6 : decode cX0_init 6 = .ok (.putfield 9, 3) := by decide +kernel
theorem dX0_init_9 : decode cX0_init 9 = .ok (.aload_n 0, 1) := by decide +kernel
theorem dX0_init_10 : decode cX0_init 10 = .ok (.iconst 0, 1) := by decide +kernel
theorem dX0_init_11 : decode cX0_init 11 = .ok (.putfield 15, 3) := by decide +kernel
theorem dX0_init_14 : decode cX0_init 14 = .ok (.aload_n 0, 1) := by decide +kernel
theorem dX0_init_15 : decode cX0_init 15 = .ok (.iconst 0, 1) := by decide +kernel
theorem dX0_init_16 : decode cX0_init 16 = .ok (.putfield 19, 3) := by decide +kernel
theorem dX0_init_19 : decode cX0_init 19 = .ok (.aload_n 0, 1) := by decide +kernel
theorem dX0_init_20 : decode cX0_init 20 = .ok (.iconst 0, 1) := by decide +kernel
theorem dX0_init_21 : decode cX0_init 21 = .ok (.putfield 22, 3) := by decide +kernel
theorem dX0_init_24 : decode cX0_init 24 = .ok (.aload_n 0, 1) := by decide +kernel
theorem dX0_init_25 : decode cX0_init 25 = .ok (.bipush 8, 2) := by decide +kernel
theorem dX0_init_27 : decode cX0_init 27 = .ok (.newarray .int, 2) := by decide +kernel
theorem dX0_init_29 : decode cX0_init 29 = .ok (.putfield 25, 3) := by decide +kernel
theorem dX0_init_32 : decode cX0_init 32 = .ok (.aload_n 0, 1) := by decide +kernel
theorem dX0_init_33 : decode cX0_init 33 = .ok (.bipush 6, 2) := by decide +kernel
theorem dX0_init_35 : decode cX0_init 35 = .ok (.anewarray 29, 3) := by decide +kernel
theorem dX0_init_38 : decode cX0_init 38 = .ok (.putfield 31, 3) := by decide +kernel
theorem dX0_init_41 : decode cX0_init 41 = .ok (.iconst 0, 1) := by decide +kernel
theorem dX0_init_42 : decode cX0_init 42 = .ok (.istore_n 1, 1) := by decide +kernel
theorem dX0_init_43 : decode cX0_init 43 = .ok (.iload_n 1, 1) := by decide +kernel
theorem dX0_init_44 : decode cX0_init 44 = .ok (.bipush 6, 2) := by decide +kernel
theorem dX0_init_46 : decode cX0_init 46 = .ok (.if_icmp .ge 22, 3) := by decide +kernel
theorem dX0_init_49 : decode cX0_init 49 = .ok (.aload_n 0, 1) := by decide +kernel
theorem dX0_init_50 : decode cX0_init 50 = .ok (.getfield 31, 3) := by decide +kernel
theorem dX0_init_53 : decode cX0_init 53 = .ok (.iload_n 1, 1) := by decide +kernel
theorem dX0_init_54 : decode cX0_init 54 = .ok (.new 29, 3) := by decide +kernel
theorem dX0_init_57 : decode cX0_init 57 = .ok (.dup, 1) := by decide +kernel
theorem dX0_init_58 : decode cX0_init 58 = .ok (.invokespecial 35, 3) := by decide +kernel
theorem dX0_init_61 : decode cX0_init 61 = .ok (.aastore, 1) := by decide +kernel
theorem dX0_init_62 : decode cX0_init 62 = .ok (.iinc 1 1, 3) := by decide +kernel
theorem dX0_init_65 : decode cX0_init 65 = .ok (.goto (-22), 3) := by decide +kernel
theorem dX0_init_68 : decode cX0_init 68 = .ok (.return_, 1) := by decide +kernel
theorem dX1_init_0 : decode cX1_init 0 = .ok (.aload_n 0, 1) := by decide +kernel
theorem dX1_init_1 : decode cX1_init 1 = .ok (.invokespecial 3, 3) := by decide +kernel
theorem dX1_init_4 : decode cX1_init 4 = .ok (.aload_n 0, 1) := by decide +kernel
theorem dX1_init_5 : decode cX1_init 5 = .ok (.sipush 160, 3) := by decide +kernel
theorem dX1_init_8 : decode cX1_init 8 = .ok (.newarray .int, 2) := by decide +kernel
theorem dX1_init_10 : decode cX1_init 10 = .ok (.putfield 9, 3) := by decide +kernel
theorem dX1_init_13 : decode cX1_init 13 = .ok (.aload_n 0, 1) := by decide +kernel
theorem dX1_init_14 : decode cX1_init 14 = .ok (.iconst 0, 1) := by decide +kernel
theorem dX1_init_15 : decode cX1_init 15 = .ok (.putfield 15, 3) := by decide +kernel
theorem dX1_init_18 : decode cX1_init 18 = .ok (.return_, 1) := by decide +kernel
theorem dX1_append_0 : decode cX1_append 0 = .ok (.aload_n 0, 1) := by decide +kernel
theorem dX1_append_1 : decode cX1_append 1 = .ok (.getfield 15, 3) := by decide +kernel
theorem dX1_append_4 : decode cX1_append 4 = .ok (.aload_n 0, 1) := by decide +kernel
theorem dX1_append_5 : decode cX1_append 5 = .ok (.getfield 9, 3) := by decide +kernel
theorem dX1_append_8 : decode cX1_append 8 = .ok (.arraylength, 1) := by decide +kernel
theorem dX1_append_9 : decode cX1_append 9 = .ok (.if_icmp .ge 23, 3) := by decide +kernel
theorem dX1_append_12 : decode cX1_append 12 = .ok (.aload_n 0, 1) := by decide +kernel
theorem dX1_append_13 : decode cX1_append 13 = .ok (.getfield 9, 3) := by decide +kernel
theorem dX1_append_16 : decode cX1_append 16 = .ok (.aload_n 0, 1) := by decide +kernel
theorem dX1_append_17 : decode cX1_append 17 = .ok (.getfield 15, 3) := by decide +kernel
theorem dX1_append_20 : decode cX1_append 20 = .ok (.iload_n 1, 1) := by decide +kernel
theorem dX1_append_21 : decode cX1_append 21 = .ok (.iastore, 1) := by decide +kernel
theorem dX1_append_22 : decode cX1_append 22 = .ok (.aload_n 0, 1) := by decide +kernel
theorem dX1_append_23 : decode cX1_append 23 = .ok (.dup, 1) := by decide +kernel
theorem dX1_append_24 : decode cX1_append 24 = .ok (.getfield 15, 3) := by decide +kernel
theorem dX1_append_27 : decode cX1_append 27 = .ok (.iconst 1, 1) := by decide +kernel
theorem dX1_append_28 : decode cX1_append 28 = .ok (.iadd, 1) := by decide +kernel
theorem dX1_append_29 : decode cX1_append 29 = .ok (.putfield 15, 3) := by decide +kernel
theorem dX1_append_32 : decode cX1_append 32 = .ok (.return_, 1) := by decide +kernel
theorem dX1_readInto_0 : decode cX1_readInto 0 = .ok (.aload_n 0, 1) := by decide +kernel
theorem dX1_readInto_1 : decode cX1_readInto 1 = .ok (.aload_n 1, 1) := by decide +kernel
theorem dX1_readInto_2 : decode cX1_readInto 2 = .ok (.putfield 19, 3) := by decide +kernel
theorem dX1_readInto_5 : decode cX1_readInto 5 = .ok (.aload_n 0, 1) := by decide +kernel
theorem dX1_readInto_6 : decode cX1_readInto 6 = .ok (.getfield 19, 3) := by decide +kernel
theorem dX1_readInto_9 : decode cX1_readInto 9 = .ok (.invokevirtual 23, 3) := by decide +kernel
theorem dX1_readInto_12 : decode cX1_readInto 12 = .ok (.aload_n 0, 1) := by decide +kernel
theorem dX1_readInto_13 : decode cX1_readInto 13 = .ok (.iconst 0, 1) := by decide +kernel
theorem dX1_readInto_14 : decode cX1_readInto 14 = .ok (.putfield 28, 3) := by decide +kernel
theorem dX1_readInto_17 : decode cX1_readInto 17 = .ok (.aload_n 0, 1) := by decide +kernel
theorem dX1_readInto_18 : decode cX1_readInto 18 = .ok (.iconst 0, 1) := by decide +kernel
theorem dX1_readInto_19 : decode cX1_readInto 19 = .ok (.putfield 31, 3) := by decide +kernel
theorem dX1_readInto_22 : decode cX1_readInto 22 = .ok (.aload_n 0, 1) := by decide +kernel
theorem dX1_readInto_23 : decode cX1_readInto 23 = .ok (.iconst (-1), 1) := by decide +kernel
theorem dX1_readInto_24 : decode cX1_readInto 24 = .ok (.putfield 34, 3) := by decide +kernel
theorem dX1_readInto_27 : decode cX1_readInto 27 = .ok (.aload_n 0, 1) := by decide +kernel
theorem dX1_readInto_28 : decode cX1_readInto 28 = .ok (.invokevirtual 37, 3) := by decide +kernel
theorem dX1_readInto_31 : decode cX1_readInto 31 = .ok (.iconst 0, 1) := by decide +kernel
theorem dX1_readInto_32 : decode cX1_readInto 32 = .ok (.istore_n 2, 1) := by decide +kernel
theorem dX1_readInto_33 : decode cX1_readInto 33 = .ok (.iload_n 2, 1) := by decide +kernel
theorem dX1_readInto_34 : decode cX1_readInto 34 = .ok (.iconst 3, 1) := by decide +kernel
theorem dX1_readInto_35 : decode cX1_readInto 35 = .ok (.if_icmp .ge 34, 3) := by decide +kernel
theorem dX1_readInto_38 : decode cX1_readInto 38 = .ok (.aload_n 0, 1) := by decide +kernel
theorem dX1_readInto_39 : decode cX1_readInto 39 = .ok (.iconst 4, 1) := by decide +kernel
theorem dX1_readInto_40 : decode cX1_readInto 40 = .ok (.iload_n 2, 1) := by decide +kernel
theorem dX1_readInto_41 : decode cX1_readInto 41 = .ok (.iadd, 1) := by decide +kernel
theorem dX1_readInto_42 : decode cX1_readInto 42 = .ok (.invokevirtual 40, 3) := by decide +kernel
theorem dX1_readInto_45 : decode cX1_readInto 45 = .ok (.aload_n 0, 1) := by decide +kernel
theorem dX1_readInto_46 : decode cX1_readInto 46 = .ok (.invokevirtual 44, 3) := by decide +kernel
theorem dX1_readInto_49 : decode cX1_readInto 49 = .ok (.aload_n 0, 1) := by decide +kernel
theorem dX1_readInto_50 : decode cX1_readInto 50 = .ok (.getfield 19, 3) := by decide +kernel
theorem dX1_readInto_53 : decode cX1_readInto 53 = .ok (.iload_n 2, 1) := by decide +kernel
theorem dX1_readInto_54 : decode cX1_readInto 54 = .ok (.invokevirtual 47, 3) := by decide +kernel
theorem dX1_readInto_57 : decode cX1_readInto 57 = .ok (.aload_n 0, 1) := by decide +kernel
theorem dX1_readInto_58 : decode cX1_readInto 58 = .ok (.bipush 12, 2) := by decide +kernel
theorem dX1_readInto_60 : decode cX1_readInto 60 = .ok (.invokevirtual 40, 3) := by decide +kernel
theorem dX1_readInto_63 : decode cX1_readInto 63 = .ok (.iinc 2 1, 3) := by decide +kernel
theorem dX1_readInto_66 : decode cX1_readInto 66 = .ok (.goto (-33), 3) := by decide +kernel
theorem dX1_readInto_69 : decode cX1_readInto 69 = .ok (.aload_n 0, 1) := by decide +kernel
theorem dX1_readInto_70 : decode cX1_readInto 70 = .ok (.getfield 50, 3) := by decide +kernel
theorem dX1_readInto_73 : decode cX1_readInto 73 = .ok (.iconst 1, 1) := by decide +kernel
theorem dX1_readInto_74 : decode cX1_readInto 74 = .ok (.if_icmp .eq 7, 3) := by decide +kernel
theorem dX1_readInto_77 : decode cX1_readInto 77 = .ok (.aload_n 0, 1) := by decide +kernel
theorem dX1_readInto_78 : decode cX1_readInto 78 = .ok (.invokevirtual 53, 3) := by decide +kernel
theorem dX1_readInto_81 : decode cX1_readInto 81 = .ok (.aload_n 0, 1) := by decide +kernel
theorem dX1_readInto_82 : decode cX1_readInto 82 = .ok (.iconst 0, 1) := by decide +kernel
theorem dX1_readInto_83 : decode cX1_readInto 83 = .ok (.putfield 15, 3) := by decide +kernel
theorem dX1_readInto_86 : decode cX1_readInto 86 = .ok (.aload_n 0, 1) := by decide +kernel
theorem dX1_readInto_87 : decode cX1_readInto 87 = .ok (.getfield 34, 3) := by decide +kernel
theorem dX1_readInto_90 : decode cX1_readInto 90 = .ok (.ireturn, 1) := by decide +kernel
theorem dX1_fail_0 : decode cX1_fail 0 = .ok (.aload_n 0, 1) := by decide +kernel
theorem dX1_fail_1 : decode cX1_fail 1 = .ok (.getfield 34, 3) := by decide +kernel
theorem dX1_fail_4 : decode cX1_fail 4 = .ok (.iconst (-1), 1) := by decide +kernel
theorem dX1_fail_5 : decode cX1_fail 5 = .ok (.if_icmp .ne 11, 3) := by decide +kernel
theorem dX1_fail_8 : decode cX1_fail 8 = .ok (.aload_n 0, 1) := by decide +kernel
theorem dX1_fail_9 : decode cX1_fail 9 = .ok (.aload_n 0, 1) := by decide +kernel
theorem dX1_fail_10 : decode cX1_fail 10 = .ok (.getfield 56, 3) := by decide +kernel
theorem dX1_fail_13 : decode cX1_fail 13 = .ok (.putfield 34, 3) := by decide +kernel
theorem dX1_fail_16 : decode cX1_fail 16 = .ok (.aload_n 0, 1) := by decide +kernel
theorem dX1_fail_17 : decode cX1_fail 17 = .ok (.iconst 0, 1) := by decide +kernel
theorem dX1_fail_18 : decode cX1_fail 18 = .ok (.putfield 50, 3) := by decide +kernel
theorem dX1_fail_21 : decode cX1_fail 21 = .ok (.return_, 1) := by decide +kernel
theorem dX1_expect_0 : decode cX1_expect 0 = .ok (.aload_n 0, 1) := by decide +kernel
theorem dX1_expect_1 : decode cX1_expect 1 = .ok (.getfield 50, 3) := by decide +kernel
theorem dX1_expect_4 : decode cX1_expect 4 = .ok (.iload_n 1, 1) := by decide +kernel
theorem dX1_expect_5 : decode cX1_expect 5 = .ok (.if_icmp .ne 10, 3) := by decide +kernel
theorem dX1_expect_8 : decode cX1_expect 8 = .ok (.aload_n 0, 1) := by decide +kernel
theorem dX1_expect_9 : decode cX1_expect 9 = .ok (.invokevirtual 37, 3) := by decide +kernel
theorem dX1_expect_12 : decode cX1_expect 12 = .ok (.goto 7, 3) := by decide +kernel
theorem dX1_expect_15 : decode cX1_expect 15 = .ok (.aload_n 0, 1) := by decide +kernel
theorem dX1_expect_16 : decode cX1_expect 16 = .ok (.invokevirtual 53, 3) := by decide +kernel
theorem dX1_expect_19 : decode cX1_expect 19 = .ok (.return_, 1) := by decide +kernel
theorem dX1_takeOpening_0 : decode cX1_takeOpening 0 = .ok (.aload_n 0, 1) := by decide +kernel
theorem dX1_takeOpening_1 : decode cX1_takeOpening 1 = .ok (.getfield 31, 3) := by decide +kernel
theorem dX1_takeOpening_4 : decode cX1_takeOpening 4 = .ok (.iconst 5, 1) := by decide +kernel
theorem dX1_takeOpening_5 : decode cX1_takeOpening 5 = .ok (.if_icmp .lt 9, 3) := by decide +kernel
theorem dX1_takeOpening_8 : decode cX1_takeOpening 8 = .ok (.aload_n 0, 1) := by decide +kernel
theorem dX1_takeOpening_9 : decode cX1_takeOpening 9 = .ok (.invokevirtual 53, 3) := by decide +kernel
theorem dX1_takeOpening_12 : decode cX1_takeOpening 12 = .ok (.iconst 0, 1) := by decide +kernel
theorem dX1_takeOpening_13 : decode cX1_takeOpening 13 = .ok (.ireturn, 1) := by decide +kernel
theorem dX1_takeOpening_14 : decode cX1_takeOpening 14 = .ok (.aload_n 0, 1) := by decide +kernel
theorem dX1_takeOpening_15 : decode cX1_takeOpening 15 = .ok (.dup, 1) := by decide +kernel
theorem dX1_takeOpening_16 : decode cX1_takeOpening 16 = .ok (.getfield 31, 3) := by decide +kernel
theorem dX1_takeOpening_19 : decode cX1_takeOpening 19 = .ok (.iconst 1, 1) := by decide +kernel
theorem dX1_takeOpening_20 : decode cX1_takeOpening 20 = .ok (.iadd, 1) := by decide +kernel
theorem dX1_takeOpening_21 : decode cX1_takeOpening 21 = .ok (.putfield 31, 3) := by decide +kernel
theorem dX1_takeOpening_24 : decode cX1_takeOpening 24 = .ok (.aload_n 0, 1) := by decide +kernel
theorem dX1_takeOpening_25 : decode cX1_takeOpening 25 = .ok (.invokevirtual 37, 3) := by decide +kernel
theorem dX1_takeOpening_28 : decode cX1_takeOpening 28 = .ok (.iconst 1, 1) := by decide +kernel
theorem dX1_takeOpening_29 : decode cX1_takeOpening 29 = .ok (.ireturn, 1) := by decide +kernel
theorem dX1_readEither_0 : decode cX1_readEither 0 = .ok (.aload_n 0, 1) := by decide +kernel
theorem dX1_readEither_1 : decode cX1_readEither 1 = .ok (.invokevirtual 59, 3) := by decide +kernel
theorem dX1_readEither_4 : decode cX1_readEither 4 = .ok (.iconst 0, 1) := by decide +kernel
theorem dX1_readEither_5 : decode cX1_readEither 5 = .ok (.istore_n 1, 1) := by decide +kernel
theorem dX1_readEither_6 : decode cX1_readEither 6 = .ok (.iload_n 1, 1) := by decide +kernel
theorem dX1_readEither_7 : decode cX1_readEither 7 = .ok (.sipush 160, 3) := by decide +kernel
theorem dX1_readEither_10 : decode cX1_readEither 10 = .ok (.if_icmp .ge 35, 3) := by decide +kernel
theorem dX1_readEither_13 : decode cX1_readEither 13 = .ok (.aload_n 0, 1) := by decide +kernel
theorem dX1_readEither_14 : decode cX1_readEither 14 = .ok (.getfield 50, 3) := by decide +kernel
theorem dX1_readEither_17 : decode cX1_readEither 17 = .ok (.bipush 7, 2) := by decide +kernel
theorem dX1_readEither_19 : decode cX1_readEither 19 = .ok (.if_icmp .ne 26, 3) := by decide +kernel
theorem dX1_readEither_22 : decode cX1_readEither 22 = .ok (.aload_n 0, 1) := by decide +kernel
theorem dX1_readEither_23 : decode cX1_readEither 23 = .ok (.invokevirtual 37, 3) := by decide +kernel
theorem dX1_readEither_26 : decode cX1_readEither 26 = .ok (.aload_n 0, 1) := by decide +kernel
theorem dX1_readEither_27 : decode cX1_readEither 27 = .ok (.invokevirtual 59, 3) := by decide +kernel
theorem dX1_readEither_30 : decode cX1_readEither 30 = .ok (.aload_n 0, 1) := by decide +kernel
theorem dX1_readEither_31 : decode cX1_readEither 31 = .ok (.getfield 19, 3) := by decide +kernel
theorem dX1_readEither_34 : decode cX1_readEither 34 = .ok (.bipush 13, 2) := by decide +kernel
theorem dX1_readEither_36 : decode cX1_readEither 36 = .ok (.invokevirtual 62, 3) := by decide +kernel
theorem dX1_readEither_39 : decode cX1_readEither 39 = .ok (.iinc 1 1, 3) := by decide +kernel
theorem dX1_readEither_42 : decode cX1_readEither 42 = .ok (.goto (-36), 3) := by decide +kernel
theorem dX1_readEither_45 : decode cX1_readEither 45 = .ok (.return_, 1) := by decide +kernel
theorem dX1_readBoth_0 : decode cX1_readBoth 0 = .ok (.aload_n 0, 1) := by decide +kernel
theorem dX1_readBoth_1 : decode cX1_readBoth 1 = .ok (.invokevirtual 65, 3) := by decide +kernel
theorem dX1_readBoth_4 : decode cX1_readBoth 4 = .ok (.iconst 0, 1) := by decide +kernel
theorem dX1_readBoth_5 : decode cX1_readBoth 5 = .ok (.istore_n 1, 1) := by decide +kernel
theorem dX1_readBoth_6 : decode cX1_readBoth 6 = .ok (.iload_n 1, 1) := by decide +kernel
theorem dX1_readBoth_7 : decode cX1_readBoth 7 = .ok (.sipush 160, 3) := by decide +kernel
theorem dX1_readBoth_10 : decode cX1_readBoth 10 = .ok (.if_icmp .ge 35, 3) := by decide +kernel
theorem dX1_readBoth_13 : decode cX1_readBoth 13 = .ok (.aload_n 0, 1) := by decide +kernel
theorem dX1_readBoth_14 : decode cX1_readBoth 14 = .ok (.getfield 50, 3) := by decide +kernel
theorem dX1_readBoth_17 : decode cX1_readBoth 17 = .ok (.bipush 8, 2) := by decide +kernel
theorem dX1_readBoth_19 : decode cX1_readBoth 19 = .ok (.if_icmp .ne 26, 3) := by decide +kernel
theorem dX1_readBoth_22 : decode cX1_readBoth 22 = .ok (.aload_n 0, 1) := by decide +kernel
theorem dX1_readBoth_23 : decode cX1_readBoth 23 = .ok (.invokevirtual 37, 3) := by decide +kernel
theorem dX1_readBoth_26 : decode cX1_readBoth 26 = .ok (.aload_n 0, 1) := by decide +kernel
theorem dX1_readBoth_27 : decode cX1_readBoth 27 = .ok (.invokevirtual 65, 3) := by decide +kernel
theorem dX1_readBoth_30 : decode cX1_readBoth 30 = .ok (.aload_n 0, 1) := by decide +kernel
theorem dX1_readBoth_31 : decode cX1_readBoth 31 = .ok (.getfield 19, 3) := by decide +kernel
theorem dX1_readBoth_34 : decode cX1_readBoth 34 = .ok (.bipush 14, 2) := by decide +kernel
theorem dX1_readBoth_36 : decode cX1_readBoth 36 = .ok (.invokevirtual 62, 3) := by decide +kernel
theorem dX1_readBoth_39 : decode cX1_readBoth 39 = .ok (.iinc 1 1, 3) := by decide +kernel
theorem dX1_readBoth_42 : decode cX1_readBoth 42 = .ok (.goto (-36), 3) := by decide +kernel
theorem dX1_readBoth_45 : decode cX1_readBoth 45 = .ok (.return_, 1) := by decide +kernel
theorem dX1_readNot_0 : decode cX1_readNot 0 = .ok (.aload_n 0, 1) := by decide +kernel
theorem dX1_readNot_1 : decode cX1_readNot 1 = .ok (.getfield 50, 3) := by decide +kernel
theorem dX1_readNot_4 : decode cX1_readNot 4 = .ok (.bipush 9, 2) := by decide +kernel
theorem dX1_readNot_6 : decode cX1_readNot 6 = .ok (.if_icmp .ne 34, 3) := by decide +kernel
theorem dX1_readNot_9 : decode cX1_readNot 9 = .ok (.aload_n 0, 1) := by decide +kernel
theorem dX1_readNot_10 : decode cX1_readNot 10 = .ok (.invokevirtual 68, 3) := by decide +kernel
theorem dX1_readNot_13 : decode cX1_readNot 13 = .ok (.ifCond .eq 26, 3) := by decide +kernel
theorem dX1_readNot_16 : decode cX1_readNot 16 = .ok (.aload_n 0, 1) := by decide +kernel
theorem dX1_readNot_17 : decode cX1_readNot 17 = .ok (.invokevirtual 65, 3) := by decide +kernel
theorem dX1_readNot_20 : decode cX1_readNot 20 = .ok (.aload_n 0, 1) := by decide +kernel
theorem dX1_readNot_21 : decode cX1_readNot 21 = .ok (.getfield 19, 3) := by decide +kernel
theorem dX1_readNot_24 : decode cX1_readNot 24 = .ok (.bipush 6, 2) := by decide +kernel
theorem dX1_readNot_26 : decode cX1_readNot 26 = .ok (.invokevirtual 62, 3) := by decide +kernel
theorem dX1_readNot_29 : decode cX1_readNot 29 = .ok (.aload_n 0, 1) := by decide +kernel
theorem dX1_readNot_30 : decode cX1_readNot 30 = .ok (.dup, 1) := by decide +kernel
theorem dX1_readNot_31 : decode cX1_readNot 31 = .ok (.getfield 31, 3) := by decide +kernel
theorem dX1_readNot_34 : decode cX1_readNot 34 = .ok (.iconst 1, 1) := by decide +kernel
theorem dX1_readNot_35 : decode cX1_readNot 35 = .ok (.isub, 1) := by decide +kernel
theorem dX1_readNot_36 : decode cX1_readNot 36 = .ok (.putfield 31, 3) := by decide +kernel
theorem dX1_readNot_39 : decode cX1_readNot 39 = .ok (.return_, 1) := by decide +kernel
theorem dX1_readNot_40 : decode cX1_readNot 40 = .ok (.aload_n 0, 1) := by decide +kernel
theorem dX1_readNot_41 : decode cX1_readNot 41 = .ok (.invokevirtual 72, 3) := by decide +kernel
theorem dX1_readNot_44 : decode cX1_readNot 44 = .ok (.aload_n 0, 1) := by decide +kernel
theorem dX1_readNot_45 : decode cX1_readNot 45 = .ok (.getfield 50, 3) := by decide +kernel
theorem dX1_readNot_48 : decode cX1_readNot 48 = .ok (.bipush 16, 2) := by decide +kernel
theorem dX1_readNot_50 : decode cX1_readNot 50 = .ok (.if_icmp .eq 12, 3) := by decide +kernel
theorem dX1_readNot_53 : decode cX1_readNot 53 = .ok (.aload_n 0, 1) := by decide +kernel
theorem dX1_readNot_54 : decode cX1_readNot 54 = .ok (.getfield 50, 3) := by decide +kernel
theorem dX1_readNot_57 : decode cX1_readNot 57 = .ok (.bipush 17, 2) := by decide +kernel
theorem dX1_readNot_59 : decode cX1_readNot 59 = .ok (.if_icmp .ne 36, 3) := by decide +kernel
theorem dX1_readNot_62 : decode cX1_readNot 62 = .ok (.aload_n 0, 1) := by decide +kernel
theorem dX1_readNot_63 : decode cX1_readNot 63 = .ok (.getfield 50, 3) := by decide +kernel
theorem dX1_readNot_66 : decode cX1_readNot 66 = .ok (.bipush 16, 2) := by decide +kernel
theorem dX1_readNot_68 : decode cX1_readNot 68 = .ok (.if_icmp .ne 8, 3) := by decide +kernel
theorem dX1_readNot_71 : decode cX1_readNot 71 = .ok (.bipush 11, 2) := by decide +kernel
theorem dX1_readNot_73 : decode cX1_readNot 73 = .ok (.goto 5, 3) := by decide +kernel
theorem dX1_readNot_76 : decode cX1_readNot 76 = .ok (.bipush 12, 2) := by decide +kernel
theorem dX1_readNot_78 : decode cX1_readNot 78 = .ok (.istore_n 1, 1) := by decide +kernel
theorem dX1_readNot_79 : decode cX1_readNot 79 = .ok (.aload_n 0, 1) := by decide +kernel
theorem dX1_readNot_80 : decode cX1_readNot 80 = .ok (.invokevirtual 37, 3) := by decide +kernel
theorem dX1_readNot_83 : decode cX1_readNot 83 = .ok (.aload_n 0, 1) := by decide +kernel
theorem dX1_readNot_84 : decode cX1_readNot 84 = .ok (.invokevirtual 72, 3) := by decide +kernel
theorem dX1_readNot_87 : decode cX1_readNot 87 = .ok (.aload_n 0, 1) := by decide +kernel
theorem dX1_readNot_88 : decode cX1_readNot 88 = .ok (.getfield 19, 3) := by decide +kernel
theorem dX1_readNot_91 : decode cX1_readNot 91 = .ok (.iload_n 1, 1) := by decide +kernel
theorem dX1_readNot_92 : decode cX1_readNot 92 = .ok (.invokevirtual 62, 3) := by decide +kernel
theorem dX1_readNot_95 : decode cX1_readNot 95 = .ok (.return_, 1) := by decide +kernel
theorem dX1_readSum_0 : decode cX1_readSum 0 = .ok (.aload_n 0, 1) := by decide +kernel
theorem dX1_readSum_1 : decode cX1_readSum 1 = .ok (.invokevirtual 75, 3) := by decide +kernel
theorem dX1_readSum_4 : decode cX1_readSum 4 = .ok (.iconst 0, 1) := by decide +kernel
theorem dX1_readSum_5 : decode cX1_readSum 5 = .ok (.istore_n 1, 1) := by decide +kernel
theorem dX1_readSum_6 : decode cX1_readSum 6 = .ok (.iload_n 1, 1) := by decide +kernel
theorem dX1_readSum_7 : decode cX1_readSum 7 = .ok (.sipush 160, 3) := by decide +kernel
theorem dX1_readSum_10 : decode cX1_readSum 10 = .ok (.if_icmp .ge 60, 3) := by decide +kernel
theorem dX1_readSum_13 : decode cX1_readSum 13 = .ok (.aload_n 0, 1) := by decide +kernel
theorem dX1_readSum_14 : decode cX1_readSum 14 = .ok (.getfield 50, 3) := by decide +kernel
theorem dX1_readSum_17 : decode cX1_readSum 17 = .ok (.bipush 13, 2) := by decide +kernel
theorem dX1_readSum_19 : decode cX1_readSum 19 = .ok (.if_icmp .eq 12, 3) := by decide +kernel
theorem dX1_readSum_22 : decode cX1_readSum 22 = .ok (.aload_n 0, 1) := by decide +kernel
theorem dX1_readSum_23 : decode cX1_readSum 23 = .ok (.getfield 50, 3) := by decide +kernel
theorem dX1_readSum_26 : decode cX1_readSum 26 = .ok (.bipush 14, 2) := by decide +kernel
theorem dX1_readSum_28 : decode cX1_readSum 28 = .ok (.if_icmp .ne 42, 3) := by decide +kernel
theorem dX1_readSum_31 : decode cX1_readSum 31 = .ok (.aload_n 0, 1) := by decide +kernel
theorem dX1_readSum_32 : decode cX1_readSum 32 = .ok (.getfield 50, 3) := by decide +kernel
theorem dX1_readSum_35 : decode cX1_readSum 35 = .ok (.bipush 13, 2) := by decide +kernel
theorem dX1_readSum_37 : decode cX1_readSum 37 = .ok (.if_icmp .ne 8, 3) := by decide +kernel
theorem dX1_readSum_40 : decode cX1_readSum 40 = .ok (.bipush 8, 2) := by decide +kernel
theorem dX1_readSum_42 : decode cX1_readSum 42 = .ok (.goto 5, 3) := by decide +kernel
theorem dX1_readSum_45 : decode cX1_readSum 45 = .ok (.bipush 9, 2) := by decide +kernel
theorem dX1_readSum_47 : decode cX1_readSum 47 = .ok (.istore_n 2, 1) := by decide +kernel
theorem dX1_readSum_48 : decode cX1_readSum 48 = .ok (.aload_n 0, 1) := by decide +kernel
theorem dX1_readSum_49 : decode cX1_readSum 49 = .ok (.invokevirtual 37, 3) := by decide +kernel
theorem dX1_readSum_52 : decode cX1_readSum 52 = .ok (.aload_n 0, 1) := by decide +kernel
theorem dX1_readSum_53 : decode cX1_readSum 53 = .ok (.invokevirtual 75, 3) := by decide +kernel
theorem dX1_readSum_56 : decode cX1_readSum 56 = .ok (.aload_n 0, 1) := by decide +kernel
theorem dX1_readSum_57 : decode cX1_readSum 57 = .ok (.getfield 19, 3) := by decide +kernel
theorem dX1_readSum_60 : decode cX1_readSum 60 = .ok (.iload_n 2, 1) := by decide +kernel
theorem dX1_readSum_61 : decode cX1_readSum 61 = .ok (.invokevirtual 62, 3) := by decide +kernel
theorem dX1_readSum_64 : decode cX1_readSum 64 = .ok (.iinc 1 1, 3) := by decide +kernel
theorem dX1_readSum_67 : decode cX1_readSum 67 = .ok (.goto (-61), 3) := by decide +kernel
theorem dX1_readSum_70 : decode cX1_readSum 70 = .ok (.return_, 1) := by decide +kernel
theorem dX1_readTerm_0 : decode cX1_readTerm 0 = .ok (.aload_n 0, 1) := by decide +kernel
theorem dX1_readTerm_1 : decode cX1_readTerm 1 = .ok (.invokevirtual 78, 3) := by decide +kernel
theorem dX1_readTerm_4 : decode cX1_readTerm 4 = .ok (.iconst 0, 1) := by decide +kernel
theorem dX1_readTerm_5 : decode cX1_readTerm 5 = .ok (.istore_n 1, 1) := by decide +kernel
theorem dX1_readTerm_6 : decode cX1_readTerm 6 = .ok (.iload_n 1, 1) := by decide +kernel
theorem dX1_readTerm_7 : decode cX1_readTerm 7 = .ok (.sipush 160, 3) := by decide +kernel
theorem dX1_readTerm_10 : decode cX1_readTerm 10 = .ok (.if_icmp .ge 35, 3) := by decide +kernel
theorem dX1_readTerm_13 : decode cX1_readTerm 13 = .ok (.aload_n 0, 1) := by decide +kernel
theorem dX1_readTerm_14 : decode cX1_readTerm 14 = .ok (.getfield 50, 3) := by decide +kernel
theorem dX1_readTerm_17 : decode cX1_readTerm 17 = .ok (.bipush 15, 2) := by decide +kernel
theorem dX1_readTerm_19 : decode cX1_readTerm 19 = .ok (.if_icmp .ne 26, 3) := by decide +kernel
theorem dX1_readTerm_22 : decode cX1_readTerm 22 = .ok (.aload_n 0, 1) := by decide +kernel
theorem dX1_readTerm_23 : decode cX1_readTerm 23 = .ok (.invokevirtual 37, 3) := by decide +kernel
theorem dX1_readTerm_26 : decode cX1_readTerm 26 = .ok (.aload_n 0, 1) := by decide +kernel
theorem dX1_readTerm_27 : decode cX1_readTerm 27 = .ok (.invokevirtual 78, 3) := by decide +kernel
theorem dX1_readTerm_30 : decode cX1_readTerm 30 = .ok (.aload_n 0, 1) := by decide +kernel
theorem dX1_readTerm_31 : decode cX1_readTerm 31 = .ok (.getfield 19, 3) := by decide +kernel
theorem dX1_readTerm_34 : decode cX1_readTerm 34 = .ok (.bipush 10, 2) := by decide +kernel
theorem dX1_readTerm_36 : decode cX1_readTerm 36 = .ok (.invokevirtual 62, 3) := by decide +kernel
theorem dX1_readTerm_39 : decode cX1_readTerm 39 = .ok (.iinc 1 1, 3) := by decide +kernel
theorem dX1_readTerm_42 : decode cX1_readTerm 42 = .ok (.goto (-36), 3) := by decide +kernel
theorem dX1_readTerm_45 : decode cX1_readTerm 45 = .ok (.return_, 1) := by decide +kernel
theorem dX1_readOne_0 : decode cX1_readOne 0 = .ok (.aload_n 0, 1) := by decide +kernel
theorem dX1_readOne_1 : decode cX1_readOne 1 = .ok (.getfield 50, 3) := by decide +kernel
theorem dX1_readOne_4 : decode cX1_readOne 4 = .ok (.iconst 2, 1) := by decide +kernel
theorem dX1_readOne_5 : decode cX1_readOne 5 = .ok (.if_icmp .ne 24, 3) := by decide +kernel
theorem dX1_readOne_8 : decode cX1_readOne 8 = .ok (.aload_n 0, 1) := by decide +kernel
theorem dX1_readOne_9 : decode cX1_readOne 9 = .ok (.getfield 19, 3) := by decide +kernel
theorem dX1_readOne_12 : decode cX1_readOne 12 = .ok (.bipush 16, 2) := by decide +kernel
theorem dX1_readOne_14 : decode cX1_readOne 14 = .ok (.aload_n 0, 1) := by decide +kernel
theorem dX1_readOne_15 : decode cX1_readOne 15 = .ok (.getfield 81, 3) := by decide +kernel
theorem dX1_readOne_18 : decode cX1_readOne 18 = .ok (.iadd, 1) := by decide +kernel
theorem dX1_readOne_19 : decode cX1_readOne 19 = .ok (.invokevirtual 62, 3) := by decide +kernel
theorem dX1_readOne_22 : decode cX1_readOne 22 = .ok (.aload_n 0, 1) := by decide +kernel
theorem dX1_readOne_23 : decode cX1_readOne 23 = .ok (.invokevirtual 37, 3) := by decide +kernel
theorem dX1_readOne_26 : decode cX1_readOne 26 = .ok (.goto 114, 3) := by decide +kernel
theorem dX1_readOne_29 : decode cX1_readOne 29 = .ok (.aload_n 0, 1) := by decide +kernel
theorem dX1_readOne_30 : decode cX1_readOne 30 = .ok (.getfield 50, 3) := by decide +kernel
theorem dX1_readOne_33 : decode cX1_readOne 33 = .ok (.iconst 3, 1) := by decide +kernel
theorem dX1_readOne_34 : decode cX1_readOne 34 = .ok (.if_icmp .ne 21, 3) := by decide +kernel
theorem dX1_readOne_37 : decode cX1_readOne 37 = .ok (.aload_n 0, 1) := by decide +kernel
theorem dX1_readOne_38 : decode cX1_readOne 38 = .ok (.getfield 19, 3) := by decide +kernel
theorem dX1_readOne_41 : decode cX1_readOne 41 = .ok (.aload_n 0, 1) := by decide +kernel
theorem dX1_readOne_42 : decode cX1_readOne 42 = .ok (.getfield 81, 3) := by decide +kernel
theorem dX1_readOne_45 : decode cX1_readOne 45 = .ok (.invokevirtual 62, 3) := by decide +kernel
theorem dX1_readOne_48 : decode cX1_readOne 48 = .ok (.aload_n 0, 1) := by decide +kernel
theorem dX1_readOne_49 : decode cX1_readOne 49 = .ok (.invokevirtual 37, 3) := by decide +kernel
theorem dX1_readOne_52 : decode cX1_readOne 52 = .ok (.goto 88, 3) := by decide +kernel
theorem dX1_readOne_55 : decode cX1_readOne 55 = .ok (.aload_n 0, 1) := by decide +kernel
theorem dX1_readOne_56 : decode cX1_readOne 56 = .ok (.getfield 50, 3) := by decide +kernel
theorem dX1_readOne_59 : decode cX1_readOne 59 = .ok (.bipush 14, 2) := by decide +kernel
theorem dX1_readOne_61 : decode cX1_readOne 61 = .ok (.if_icmp .ne 36, 3) := by decide +kernel
theorem dX1_readOne_64 : decode cX1_readOne 64 = .ok (.aload_n 0, 1) := by decide +kernel
theorem dX1_readOne_65 : decode cX1_readOne 65 = .ok (.invokevirtual 68, 3) := by decide +kernel
theorem dX1_readOne_68 : decode cX1_readOne 68 = .ok (.ifCond .eq 72, 3) := by decide +kernel
theorem dX1_readOne_71 : decode cX1_readOne 71 = .ok (.aload_n 0, 1) := by decide +kernel
theorem dX1_readOne_72 : decode cX1_readOne 72 = .ok (.invokevirtual 78, 3) := by decide +kernel
theorem dX1_readOne_75 : decode cX1_readOne 75 = .ok (.aload_n 0, 1) := by decide +kernel
theorem dX1_readOne_76 : decode cX1_readOne 76 = .ok (.getfield 19, 3) := by decide +kernel
theorem dX1_readOne_79 : decode cX1_readOne 79 = .ok (.bipush 7, 2) := by decide +kernel
theorem dX1_readOne_81 : decode cX1_readOne 81 = .ok (.invokevirtual 62, 3) := by decide +kernel
theorem dX1_readOne_84 : decode cX1_readOne 84 = .ok (.aload_n 0, 1) := by decide +kernel
theorem dX1_readOne_85 : decode cX1_readOne 85 = .ok (.dup, 1) := by decide +kernel
theorem dX1_readOne_86 : decode cX1_readOne 86 = .ok (.getfield 31, 3) := by decide +kernel
theorem dX1_readOne_89 : decode cX1_readOne 89 = .ok (.iconst 1, 1) := by decide +kernel
theorem dX1_readOne_90 : decode cX1_readOne 90 = .ok (.isub, 1) := by decide +kernel
theorem dX1_readOne_91 : decode cX1_readOne 91 = .ok (.putfield 31, 3) := by decide +kernel
theorem dX1_readOne_94 : decode cX1_readOne 94 = .ok (.goto 46, 3) := by decide +kernel
theorem dX1_readOne_97 : decode cX1_readOne 97 = .ok (.aload_n 0, 1) := by decide +kernel
theorem dX1_readOne_98 : decode cX1_readOne 98 = .ok (.getfield 50, 3) := by decide +kernel
theorem dX1_readOne_101 : decode cX1_readOne 101 = .ok (.bipush 10, 2) := by decide +kernel
theorem dX1_readOne_103 : decode cX1_readOne 103 = .ok (.if_icmp .ne 33, 3) := by decide +kernel
theorem dX1_readOne_106 : decode cX1_readOne 106 = .ok (.aload_n 0, 1) := by decide +kernel
theorem dX1_readOne_107 : decode cX1_readOne 107 = .ok (.invokevirtual 68, 3) := by decide +kernel
theorem dX1_readOne_110 : decode cX1_readOne 110 = .ok (.ifCond .eq 30, 3) := by decide +kernel
theorem dX1_readOne_113 : decode cX1_readOne 113 = .ok (.aload_n 0, 1) := by decide +kernel
theorem dX1_readOne_114 : decode cX1_readOne 114 = .ok (.invokevirtual 44, 3) := by decide +kernel
theorem dX1_readOne_117 : decode cX1_readOne 117 = .ok (.aload_n 0, 1) := by decide +kernel
theorem dX1_readOne_118 : decode cX1_readOne 118 = .ok (.bipush 11, 2) := by decide +kernel
theorem dX1_readOne_120 : decode cX1_readOne 120 = .ok (.invokevirtual 40, 3) := by decide +kernel
theorem dX1_readOne_123 : decode cX1_readOne 123 = .ok (.aload_n 0, 1) := by decide +kernel
theorem dX1_readOne_124 : decode cX1_readOne 124 = .ok (.dup, 1) := by decide +kernel
theorem dX1_readOne_125 : decode cX1_readOne 125 = .ok (.getfield 31, 3) := by decide +kernel
theorem dX1_readOne_128 : decode cX1_readOne 128 = .ok (.iconst 1, 1) := by decide +kernel
theorem dX1_readOne_129 : decode cX1_readOne 129 = .ok (.isub, 1) := by decide +kernel
theorem dX1_readOne_130 : decode cX1_readOne 130 = .ok (.putfield 31, 3) := by decide +kernel
theorem dX1_readOne_133 : decode cX1_readOne 133 = .ok (.goto 7, 3) := by decide +kernel
theorem dX1_readOne_136 : decode cX1_readOne 136 = .ok (.aload_n 0, 1) := by decide +kernel
theorem dX1_readOne_137 : decode cX1_readOne 137 = .ok (.invokevirtual 53, 3) := by decide +kernel
theorem dX1_readOne_140 : decode cX1_readOne 140 = .ok (.return_, 1) := by decide +kernel
theorem dX1_take_0 : decode cX1_take 0 = .ok (.aload_n 0, 1) := by decide +kernel
theorem dX1_take_1 : decode cX1_take 1 = .ok (.getfield 28, 3) := by decide +kernel
theorem dX1_take_4 : decode cX1_take 4 = .ok (.aload_n 0, 1) := by decide +kernel
theorem dX1_take_5 : decode cX1_take 5 = .ok (.getfield 15, 3) := by decide +kernel
theorem dX1_take_8 : decode cX1_take 8 = .ok (.if_icmp .ge 31, 3) := by decide +kernel
theorem dX1_take_11 : decode cX1_take 11 = .ok (.aload_n 0, 1) := by decide +kernel
theorem dX1_take_12 : decode cX1_take 12 = .ok (.getfield 9, 3) := by decide +kernel
theorem dX1_take_15 : decode cX1_take 15 = .ok (.aload_n 0, 1) := by decide +kernel
theorem dX1_take_16 : decode cX1_take 16 = .ok (.getfield 28, 3) := by decide +kernel
theorem dX1_take_19 : decode cX1_take 19 = .ok (.iaload, 1) := by decide +kernel
theorem dX1_take_20 : decode cX1_take 20 = .ok (.invokestatic 84, 3) := by decide +kernel
theorem dX1_take_23 : decode cX1_take 23 = .ok (.ifCond .eq 16, 3) := by decide +kernel
theorem dX1_take_26 : decode cX1_take 26 = .ok (.aload_n 0, 1) := by decide +kernel
theorem dX1_take_27 : decode cX1_take 27 = .ok (.dup, 1) := by decide +kernel
theorem dX1_take_28 : decode cX1_take 28 = .ok (.getfield 28, 3) := by decide +kernel
theorem dX1_take_31 : decode cX1_take 31 = .ok (.iconst 1, 1) := by decide +kernel
theorem dX1_take_32 : decode cX1_take 32 = .ok (.iadd, 1) := by decide +kernel
theorem dX1_take_33 : decode cX1_take 33 = .ok (.putfield 28, 3) := by decide +kernel
theorem dX1_take_36 : decode cX1_take 36 = .ok (.goto (-36), 3) := by decide +kernel
theorem dX1_take_39 : decode cX1_take 39 = .ok (.aload_n 0, 1) := by decide +kernel
theorem dX1_take_40 : decode cX1_take 40 = .ok (.aload_n 0, 1) := by decide +kernel
theorem dX1_take_41 : decode cX1_take 41 = .ok (.getfield 28, 3) := by decide +kernel
theorem dX1_take_44 : decode cX1_take 44 = .ok (.putfield 56, 3) := by decide +kernel
theorem dX1_take_47 : decode cX1_take 47 = .ok (.aload_n 0, 1) := by decide +kernel
theorem dX1_take_48 : decode cX1_take 48 = .ok (.getfield 28, 3) := by decide +kernel
theorem dX1_take_51 : decode cX1_take 51 = .ok (.aload_n 0, 1) := by decide +kernel
theorem dX1_take_52 : decode cX1_take 52 = .ok (.getfield 15, 3) := by decide +kernel
theorem dX1_take_55 : decode cX1_take 55 = .ok (.if_icmp .lt 11, 3) := by decide +kernel
theorem dX1_take_58 : decode cX1_take 58 = .ok (.aload_n 0, 1) := by decide +kernel
theorem dX1_take_59 : decode cX1_take 59 = .ok (.iconst 1, 1) := by decide +kernel
theorem dX1_take_60 : decode cX1_take 60 = .ok (.putfield 50, 3) := by decide +kernel
theorem dX1_take_63 : decode cX1_take 63 = .ok (.goto 73, 3) := by decide +kernel
theorem dX1_take_66 : decode cX1_take 66 = .ok (.aload_n 0, 1) := by decide +kernel
theorem dX1_take_67 : decode cX1_take 67 = .ok (.getfield 9, 3) := by decide +kernel
theorem dX1_take_70 : decode cX1_take 70 = .ok (.aload_n 0, 1) := by decide +kernel
theorem dX1_take_71 : decode cX1_take 71 = .ok (.getfield 28, 3) := by decide +kernel
theorem dX1_take_74 : decode cX1_take 74 = .ok (.iaload, 1) := by decide +kernel
theorem dX1_take_75 : decode cX1_take 75 = .ok (.invokestatic 88, 3) := by decide +kernel
theorem dX1_take_78 : decode cX1_take 78 = .ok (.ifCond .eq 10, 3) := by decide +kernel
theorem dX1_take_81 : decode cX1_take 81 = .ok (.aload_n 0, 1) := by decide +kernel
theorem dX1_take_82 : decode cX1_take 82 = .ok (.invokevirtual 91, 3) := by decide +kernel
theorem dX1_take_85 : decode cX1_take 85 = .ok (.goto 51, 3) := by decide +kernel
theorem dX1_take_88 : decode cX1_take 88 = .ok (.aload_n 0, 1) := by decide +kernel
theorem dX1_take_89 : decode cX1_take 89 = .ok (.getfield 9, 3) := by decide +kernel
theorem dX1_take_92 : decode cX1_take 92 = .ok (.aload_n 0, 1) := by decide +kernel
theorem dX1_take_93 : decode cX1_take 93 = .ok (.getfield 28, 3) := by decide +kernel
theorem dX1_take_96 : decode cX1_take 96 = .ok (.iaload, 1) := by decide +kernel
theorem dX1_take_97 : decode cX1_take 97 = .ok (.invokestatic 94, 3) := by decide +kernel
theorem dX1_take_100 : decode cX1_take 100 = .ok (.ifCond .eq 10, 3) := by decide +kernel
theorem dX1_take_103 : decode cX1_take 103 = .ok (.aload_n 0, 1) := by decide +kernel
theorem dX1_take_104 : decode cX1_take 104 = .ok (.invokevirtual 97, 3) := by decide +kernel
theorem dX1_take_107 : decode cX1_take 107 = .ok (.goto 29, 3) := by decide +kernel
theorem dX1_take_110 : decode cX1_take 110 = .ok (.aload_n 0, 1) := by decide +kernel
theorem dX1_take_111 : decode cX1_take 111 = .ok (.aload_n 0, 1) := by decide +kernel
theorem dX1_take_112 : decode cX1_take 112 = .ok (.getfield 9, 3) := by decide +kernel
theorem dX1_take_115 : decode cX1_take 115 = .ok (.aload_n 0, 1) := by decide +kernel
theorem dX1_take_116 : decode cX1_take 116 = .ok (.getfield 28, 3) := by decide +kernel
theorem dX1_take_119 : decode cX1_take 119 = .ok (.iaload, 1) := by decide +kernel
theorem dX1_take_120 : decode cX1_take 120 = .ok (.invokestatic 100, 3) := by decide +kernel
theorem dX1_take_123 : decode cX1_take 123 = .ok (.putfield 50, 3) := by decide +kernel
theorem dX1_take_126 : decode cX1_take 126 = .ok (.aload_n 0, 1) := by decide +kernel
theorem dX1_take_127 : decode cX1_take 127 = .ok (.dup, 1) := by decide +kernel
theorem dX1_take_128 : decode cX1_take 128 = .ok (.getfield 28, 3) := by decide +kernel
theorem dX1_take_131 : decode cX1_take 131 = .ok (.iconst 1, 1) := by decide +kernel
theorem dX1_take_132 : decode cX1_take 132 = .ok (.iadd, 1) := by decide +kernel
theorem dX1_take_133 : decode cX1_take 133 = .ok (.putfield 28, 3) := by decide +kernel
theorem dX1_take_136 : decode cX1_take 136 = .ok (.return_, 1) := by decide +kernel
theorem dX1_takeAmount_0 : decode cX1_takeAmount 0 = .ok (.aload_n 0, 1) := by decide +kernel
theorem dX1_takeAmount_1 : decode cX1_takeAmount 1 = .ok (.iconst 0, 1) := by decide +kernel
theorem dX1_takeAmount_2 : decode cX1_takeAmount 2 = .ok (.putfield 81, 3) := by decide +kernel
theorem dX1_takeAmount_5 : decode cX1_takeAmount 5 = .ok (.aload_n 0, 1) := by decide +kernel
theorem dX1_takeAmount_6 : decode cX1_takeAmount 6 = .ok (.getfield 28, 3) := by decide +kernel
theorem dX1_takeAmount_9 : decode cX1_takeAmount 9 = .ok (.aload_n 0, 1) := by decide +kernel
theorem dX1_takeAmount_10 : decode cX1_takeAmount 10 = .ok (.getfield 15, 3) := by decide +kernel
theorem dX1_takeAmount_13 : decode cX1_takeAmount 13 = .ok (.if_icmp .ge 55, 3) := by decide +kernel
theorem dX1_takeAmount_16 : decode cX1_takeAmount 16 = .ok (.aload_n 0, 1) := by decide +kernel
theorem dX1_takeAmount_17 : decode cX1_takeAmount 17 = .ok (.getfield 9, 3) := by decide +kernel
theorem dX1_takeAmount_20 : decode cX1_takeAmount 20 = .ok (.aload_n 0, 1) := by decide +kernel
theorem dX1_takeAmount_21 : decode cX1_takeAmount 21 = .ok (.getfield 28, 3) := by decide +kernel
theorem dX1_takeAmount_24 : decode cX1_takeAmount 24 = .ok (.iaload, 1) := by decide +kernel
theorem dX1_takeAmount_25 : decode cX1_takeAmount 25 = .ok (.invokestatic 94, 3) := by decide +kernel
theorem dX1_takeAmount_28 : decode cX1_takeAmount 28 = .ok (.ifCond .eq 40, 3) := by decide +kernel
theorem dX1_takeAmount_31 : decode cX1_takeAmount 31 = .ok (.aload_n 0, 1) := by decide +kernel
theorem dX1_takeAmount_32 : decode cX1_takeAmount 32 = .ok (.aload_n 0, 1) := by decide +kernel
theorem dX1_takeAmount_33 : decode cX1_takeAmount 33 = .ok (.getfield 81, 3) := by decide +kernel
theorem dX1_takeAmount_36 : decode cX1_takeAmount 36 = .ok (.bipush 10, 2) := by decide +kernel
theorem dX1_takeAmount_38 : decode cX1_takeAmount 38 = .ok (.imul, 1) := by decide +kernel
theorem dX1_takeAmount_39 : decode cX1_takeAmount 39 = .ok (.aload_n 0, 1) := by decide +kernel
theorem dX1_takeAmount_40 : decode cX1_takeAmount 40 = .ok (.getfield 9, 3) := by decide +kernel
theorem dX1_takeAmount_43 : decode cX1_takeAmount 43 = .ok (.aload_n 0, 1) := by decide +kernel
theorem dX1_takeAmount_44 : decode cX1_takeAmount 44 = .ok (.getfield 28, 3) := by decide +kernel
theorem dX1_takeAmount_47 : decode cX1_takeAmount 47 = .ok (.iaload, 1) := by decide +kernel
theorem dX1_takeAmount_48 : decode cX1_takeAmount 48 = .ok (.iadd, 1) := by decide +kernel
theorem dX1_takeAmount_49 : decode cX1_takeAmount 49 = .ok (.bipush 48, 2) := by decide +kernel
theorem dX1_takeAmount_51 : decode cX1_takeAmount 51 = .ok (.isub, 1) := by decide +kernel
theorem dX1_takeAmount_52 : decode cX1_takeAmount 52 = .ok (.putfield 81, 3) := by decide +kernel
theorem dX1_takeAmount_55 : decode cX1_takeAmount 55 = .ok (.aload_n 0, 1) := by decide +kernel
theorem dX1_takeAmount_56 : decode cX1_takeAmount 56 = .ok (.dup, 1) := by decide +kernel
theorem dX1_takeAmount_57 : decode cX1_takeAmount 57 = .ok (.getfield 28, 3) := by decide +kernel
theorem dX1_takeAmount_60 : decode cX1_takeAmount 60 = .ok (.iconst 1, 1) := by decide +kernel
theorem dX1_takeAmount_61 : decode cX1_takeAmount 61 = .ok (.iadd, 1) := by decide +kernel
theorem dX1_takeAmount_62 : decode cX1_takeAmount 62 = .ok (.putfield 28, 3) := by decide +kernel
theorem dX1_takeAmount_65 : decode cX1_takeAmount 65 = .ok (.goto (-60), 3) := by decide +kernel
theorem dX1_takeAmount_68 : decode cX1_takeAmount 68 = .ok (.aload_n 0, 1) := by decide +kernel
theorem dX1_takeAmount_69 : decode cX1_takeAmount 69 = .ok (.aload_n 0, 1) := by decide +kernel
theorem dX1_takeAmount_70 : decode cX1_takeAmount 70 = .ok (.getfield 28, 3) := by decide +kernel
theorem dX1_takeAmount_73 : decode cX1_takeAmount 73 = .ok (.aload_n 0, 1) := by decide +kernel
theorem dX1_takeAmount_74 : decode cX1_takeAmount 74 = .ok (.getfield 56, 3) := by decide +kernel
theorem dX1_takeAmount_77 : decode cX1_takeAmount 77 = .ok (.isub, 1) := by decide +kernel
theorem dX1_takeAmount_78 : decode cX1_takeAmount 78 = .ok (.iconst 4, 1) := by decide +kernel
theorem dX1_takeAmount_79 : decode cX1_takeAmount 79 = .ok (.if_icmp .le 7, 3) := by decide +kernel
theorem dX1_takeAmount_82 : decode cX1_takeAmount 82 = .ok (.iconst 0, 1) := by decide +kernel
theorem dX1_takeAmount_83 : decode cX1_takeAmount 83 = .ok (.goto 4, 3) := by decide +kernel
theorem dX1_takeAmount_86 : decode cX1_takeAmount 86 = .ok (.iconst 2, 1) := by decide +kernel
theorem dX1_takeAmount_87 : decode cX1_takeAmount 87 = .ok (.putfield 50, 3) := by decide +kernel
theorem dX1_takeAmount_90 : decode cX1_takeAmount 90 = .ok (.return_, 1) := by decide +kernel
theorem dX1_takeWord_0 : decode cX1_takeWord 0 = .ok (.aload_n 0, 1) := by decide +kernel
theorem dX1_takeWord_1 : decode cX1_takeWord 1 = .ok (.getfield 28, 3) := by decide +kernel
theorem dX1_takeWord_4 : decode cX1_takeWord 4 = .ok (.aload_n 0, 1) := by decide +kernel
theorem dX1_takeWord_5 : decode cX1_takeWord 5 = .ok (.getfield 15, 3) := by decide +kernel
theorem dX1_takeWord_8 : decode cX1_takeWord 8 = .ok (.if_icmp .ge 31, 3) := by decide +kernel
theorem dX1_takeWord_11 : decode cX1_takeWord 11 = .ok (.aload_n 0, 1) := by decide +kernel
theorem dX1_takeWord_12 : decode cX1_takeWord 12 = .ok (.getfield 9, 3) := by decide +kernel
theorem dX1_takeWord_15 : decode cX1_takeWord 15 = .ok (.aload_n 0, 1) := by decide +kernel
theorem dX1_takeWord_16 : decode cX1_takeWord 16 = .ok (.getfield 28, 3) := by decide +kernel
theorem dX1_takeWord_19 : decode cX1_takeWord 19 = .ok (.iaload, 1) := by decide +kernel
theorem dX1_takeWord_20 : decode cX1_takeWord 20 = .ok (.invokestatic 88, 3) := by decide +kernel
theorem dX1_takeWord_23 : decode cX1_takeWord 23 = .ok (.ifCond .eq 16, 3) := by decide +kernel
theorem dX1_takeWord_26 : decode cX1_takeWord 26 = .ok (.aload_n 0, 1) := by decide +kernel
theorem dX1_takeWord_27 : decode cX1_takeWord 27 = .ok (.dup, 1) := by decide +kernel
theorem dX1_takeWord_28 : decode cX1_takeWord 28 = .ok (.getfield 28, 3) := by decide +kernel
theorem dX1_takeWord_31 : decode cX1_takeWord 31 = .ok (.iconst 1, 1) := by decide +kernel
theorem dX1_takeWord_32 : decode cX1_takeWord 32 = .ok (.iadd, 1) := by decide +kernel
theorem dX1_takeWord_33 : decode cX1_takeWord 33 = .ok (.putfield 28, 3) := by decide +kernel
theorem dX1_takeWord_36 : decode cX1_takeWord 36 = .ok (.goto (-36), 3) := by decide +kernel
theorem dX1_takeWord_39 : decode cX1_takeWord 39 = .ok (.aload_n 0, 1) := by decide +kernel
theorem dX1_takeWord_40 : decode cX1_takeWord 40 = .ok (.aload_n 0, 1) := by decide +kernel
theorem dX1_takeWord_41 : decode cX1_takeWord 41 = .ok (.ldc 104, 2) := by decide +kernel
theorem dX1_takeWord_43 : decode cX1_takeWord 43 = .ok (.invokevirtual 106, 3) := by decide +kernel
theorem dX1_takeWord_46 : decode cX1_takeWord 46 = .ok (.ifCond .eq 7, 3) := by decide +kernel
theorem dX1_takeWord_49 : decode cX1_takeWord 49 = .ok (.iconst 0, 1) := by decide +kernel
theorem dX1_takeWord_50 : decode cX1_takeWord 50 = .ok (.goto 69, 3) := by decide +kernel
theorem dX1_takeWord_53 : decode cX1_takeWord 53 = .ok (.aload_n 0, 1) := by decide +kernel
theorem dX1_takeWord_54 : decode cX1_takeWord 54 = .ok (.ldc 110, 2) := by decide +kernel
theorem dX1_takeWord_56 : decode cX1_takeWord 56 = .ok (.invokevirtual 106, 3) := by decide +kernel
theorem dX1_takeWord_59 : decode cX1_takeWord 59 = .ok (.ifCond .eq 7, 3) := by decide +kernel
theorem dX1_takeWord_62 : decode cX1_takeWord 62 = .ok (.iconst 1, 1) := by decide +kernel
theorem dX1_takeWord_63 : decode cX1_takeWord 63 = .ok (.goto 56, 3) := by decide +kernel
theorem dX1_takeWord_66 : decode cX1_takeWord 66 = .ok (.aload_n 0, 1) := by decide +kernel
theorem dX1_takeWord_67 : decode cX1_takeWord 67 = .ok (.ldc 112, 2) := by decide +kernel
theorem dX1_takeWord_69 : decode cX1_takeWord 69 = .ok (.invokevirtual 106, 3) := by decide +kernel
theorem dX1_takeWord_72 : decode cX1_takeWord 72 = .ok (.ifCond .eq 7, 3) := by decide +kernel
theorem dX1_takeWord_75 : decode cX1_takeWord 75 = .ok (.iconst 2, 1) := by decide +kernel
theorem dX1_takeWord_76 : decode cX1_takeWord 76 = .ok (.goto 43, 3) := by decide +kernel
theorem dX1_takeWord_79 : decode cX1_takeWord 79 = .ok (.aload_n 0, 1) := by decide +kernel
theorem dX1_takeWord_80 : decode cX1_takeWord 80 = .ok (.ldc 114, 2) := by decide +kernel
theorem dX1_takeWord_82 : decode cX1_takeWord 82 = .ok (.invokevirtual 106, 3) := by decide +kernel
theorem dX1_takeWord_85 : decode cX1_takeWord 85 = .ok (.ifCond .eq 7, 3) := by decide +kernel
theorem dX1_takeWord_88 : decode cX1_takeWord 88 = .ok (.iconst 3, 1) := by decide +kernel
theorem dX1_takeWord_89 : decode cX1_takeWord 89 = .ok (.goto 30, 3) := by decide +kernel
theorem dX1_takeWord_92 : decode cX1_takeWord 92 = .ok (.aload_n 0, 1) := by decide +kernel
theorem dX1_takeWord_93 : decode cX1_takeWord 93 = .ok (.ldc 116, 2) := by decide +kernel
theorem dX1_takeWord_95 : decode cX1_takeWord 95 = .ok (.invokevirtual 106, 3) := by decide +kernel
theorem dX1_takeWord_98 : decode cX1_takeWord 98 = .ok (.ifCond .eq 7, 3) := by decide +kernel
theorem dX1_takeWord_101 : decode cX1_takeWord 101 = .ok (.iconst 4, 1) := by decide +kernel
theorem dX1_takeWord_102 : decode cX1_takeWord 102 = .ok (.goto 17, 3) := by decide +kernel
theorem dX1_takeWord_105 : decode cX1_takeWord 105 = .ok (.aload_n 0, 1) := by decide +kernel
theorem dX1_takeWord_106 : decode cX1_takeWord 106 = .ok (.ldc 118, 2) := by decide +kernel
theorem dX1_takeWord_108 : decode cX1_takeWord 108 = .ok (.invokevirtual 106, 3) := by decide +kernel
theorem dX1_takeWord_111 : decode cX1_takeWord 111 = .ok (.ifCond .eq 7, 3) := by decide +kernel
theorem dX1_takeWord_114 : decode cX1_takeWord 114 = .ok (.iconst 5, 1) := by decide +kernel
theorem dX1_takeWord_115 : decode cX1_takeWord 115 = .ok (.goto 4, 3) := by decide +kernel
theorem dX1_takeWord_118 : decode cX1_takeWord 118 = .ok (.iconst (-1), 1) := by decide +kernel
theorem dX1_takeWord_119 : decode cX1_takeWord 119 = .ok (.putfield 81, 3) := by decide +kernel
theorem dX1_takeWord_122 : decode cX1_takeWord 122 = .ok (.aload_n 0, 1) := by decide +kernel
theorem dX1_takeWord_123 : decode cX1_takeWord 123 = .ok (.aload_n 0, 1) := by decide +kernel
theorem dX1_takeWord_124 : decode cX1_takeWord 124 = .ok (.getfield 81, 3) := by decide +kernel
theorem dX1_takeWord_127 : decode cX1_takeWord 127 = .ok (.iconst (-1), 1) := by decide +kernel
theorem dX1_takeWord_128 : decode cX1_takeWord 128 = .ok (.if_icmp .eq 7, 3) := by decide +kernel
theorem dX1_takeWord_131 : decode cX1_takeWord 131 = .ok (.iconst 3, 1) := by decide +kernel
theorem dX1_takeWord_132 : decode cX1_takeWord 132 = .ok (.goto 86, 3) := by decide +kernel
theorem dX1_takeWord_135 : decode cX1_takeWord 135 = .ok (.aload_n 0, 1) := by decide +kernel
theorem dX1_takeWord_136 : decode cX1_takeWord 136 = .ok (.ldc 120, 2) := by decide +kernel
theorem dX1_takeWord_138 : decode cX1_takeWord 138 = .ok (.invokevirtual 106, 3) := by decide +kernel
theorem dX1_takeWord_141 : decode cX1_takeWord 141 = .ok (.ifCond .eq 7, 3) := by decide +kernel
theorem dX1_takeWord_144 : decode cX1_takeWord 144 = .ok (.iconst 4, 1) := by decide +kernel
theorem dX1_takeWord_145 : decode cX1_takeWord 145 = .ok (.goto 73, 3) := by decide +kernel
theorem dX1_takeWord_148 : decode cX1_takeWord 148 = .ok (.aload_n 0, 1) := by decide +kernel
theorem dX1_takeWord_149 : decode cX1_takeWord 149 = .ok (.ldc 122, 2) := by decide +kernel
theorem dX1_takeWord_151 : decode cX1_takeWord 151 = .ok (.invokevirtual 106, 3) := by decide +kernel
theorem dX1_takeWord_154 : decode cX1_takeWord 154 = .ok (.ifCond .eq 7, 3) := by decide +kernel
theorem dX1_takeWord_157 : decode cX1_takeWord 157 = .ok (.iconst 5, 1) := by decide +kernel
theorem dX1_takeWord_158 : decode cX1_takeWord 158 = .ok (.goto 60, 3) := by decide +kernel
theorem dX1_takeWord_161 : decode cX1_takeWord 161 = .ok (.aload_n 0, 1) := by decide +kernel
theorem dX1_takeWord_162 : decode cX1_takeWord 162 = .ok (.ldc 124, 2) := by decide +kernel
theorem dX1_takeWord_164 : decode cX1_takeWord 164 = .ok (.invokevirtual 106, 3) := by decide +kernel
theorem dX1_takeWord_167 : decode cX1_takeWord 167 = .ok (.ifCond .eq 8, 3) := by decide +kernel
theorem dX1_takeWord_170 : decode cX1_takeWord 170 = .ok (.bipush 6, 2) := by decide +kernel
theorem dX1_takeWord_172 : decode cX1_takeWord 172 = .ok (.goto 46, 3) := by decide +kernel
theorem dX1_takeWord_175 : decode cX1_takeWord 175 = .ok (.aload_n 0, 1) := by decide +kernel
theorem dX1_takeWord_176 : decode cX1_takeWord 176 = .ok (.ldc 126, 2) := by decide +kernel
theorem dX1_takeWord_178 : decode cX1_takeWord 178 = .ok (.invokevirtual 106, 3) := by decide +kernel
theorem dX1_takeWord_181 : decode cX1_takeWord 181 = .ok (.ifCond .eq 8, 3) := by decide +kernel
theorem dX1_takeWord_184 : decode cX1_takeWord 184 = .ok (.bipush 7, 2) := by decide +kernel
theorem dX1_takeWord_186 : decode cX1_takeWord 186 = .ok (.goto 32, 3) := by decide +kernel
theorem dX1_takeWord_189 : decode cX1_takeWord 189 = .ok (.aload_n 0, 1) := by decide +kernel
theorem dX1_takeWord_190 : decode cX1_takeWord 190 = .ok (.ldc 128, 2) := by decide +kernel
theorem dX1_takeWord_192 : decode cX1_takeWord 192 = .ok (.invokevirtual 106, 3) := by decide +kernel
theorem dX1_takeWord_195 : decode cX1_takeWord 195 = .ok (.ifCond .eq 8, 3) := by decide +kernel
theorem dX1_takeWord_198 : decode cX1_takeWord 198 = .ok (.bipush 8, 2) := by decide +kernel
theorem dX1_takeWord_200 : decode cX1_takeWord 200 = .ok (.goto 18, 3) := by decide +kernel
theorem dX1_takeWord_203 : decode cX1_takeWord 203 = .ok (.aload_n 0, 1) := by decide +kernel
theorem dX1_takeWord_204 : decode cX1_takeWord 204 = .ok (.ldc 130, 2) := by decide +kernel
theorem dX1_takeWord_206 : decode cX1_takeWord 206 = .ok (.invokevirtual 106, 3) := by decide +kernel
theorem dX1_takeWord_209 : decode cX1_takeWord 209 = .ok (.ifCond .eq 8, 3) := by decide +kernel
theorem dX1_takeWord_212 : decode cX1_takeWord 212 = .ok (.bipush 9, 2) := by decide +kernel
theorem dX1_takeWord_214 : decode cX1_takeWord 214 = .ok (.goto 4, 3) := by decide +kernel
theorem dX1_takeWord_217 : decode cX1_takeWord 217 = .ok (.iconst 0, 1) := by decide +kernel
theorem dX1_takeWord_218 : decode cX1_takeWord 218 = .ok (.putfield 50, 3) := by decide +kernel
theorem dX1_takeWord_221 : decode cX1_takeWord 221 = .ok (.return_, 1) := by decide +kernel
theorem dX1_spells_0 : decode cX1_spells 0 = .ok (.aload_n 0, 1) := by decide +kernel
theorem dX1_spells_1 : decode cX1_spells 1 = .ok (.getfield 28, 3) := by decide +kernel
theorem dX1_spells_4 : decode cX1_spells 4 = .ok (.aload_n 0, 1) := by decide +kernel
theorem dX1_spells_5 : decode cX1_spells 5 = .ok (.getfield 56, 3) := by decide +kernel
theorem dX1_spells_8 : decode cX1_spells 8 = .ok (.isub, 1) := by decide +kernel
theorem dX1_spells_9 : decode cX1_spells 9 = .ok (.aload_n 1, 1) := by decide +kernel
theorem dX1_spells_10 : decode cX1_spells 10 = .ok (.invokevirtual 132, 3) := by decide +kernel
theorem dX1_spells_13 : decode cX1_spells 13 = .ok (.if_icmp .eq 5, 3) := by decide +kernel
theorem dX1_spells_16 : decode cX1_spells 16 = .ok (.iconst 0, 1) := by decide +kernel
theorem dX1_spells_17 : decode cX1_spells 17 = .ok (.ireturn, 1) := by decide +kernel
theorem dX1_spells_18 : decode cX1_spells 18 = .ok (.iconst 0, 1) := by decide +kernel
theorem dX1_spells_19 : decode cX1_spells 19 = .ok (.istore_n 2, 1) := by decide +kernel
theorem dX1_spells_20 : decode cX1_spells 20 = .ok (.iload_n 2, 1) := by decide +kernel
theorem dX1_spells_21 : decode cX1_spells 21 = .ok (.aload_n 1, 1) := by decide +kernel
theorem dX1_spells_22 : decode cX1_spells 22 = .ok (.invokevirtual 132, 3) := by decide +kernel
theorem dX1_spells_25 : decode cX1_spells 25 = .ok (.if_icmp .ge 43, 3) := by decide +kernel
theorem dX1_spells_28 : decode cX1_spells 28 = .ok (.aload_n 0, 1) := by decide +kernel
theorem dX1_spells_29 : decode cX1_spells 29 = .ok (.getfield 56, 3) := by decide +kernel
theorem dX1_spells_32 : decode cX1_spells 32 = .ok (.iload_n 2, 1) := by decide +kernel
theorem dX1_spells_33 : decode cX1_spells 33 = .ok (.iadd, 1) := by decide +kernel
theorem dX1_spells_34 : decode cX1_spells 34 = .ok (.aload_n 0, 1) := by decide +kernel
theorem dX1_spells_35 : decode cX1_spells 35 = .ok (.getfield 15, 3) := by decide +kernel
theorem dX1_spells_38 : decode cX1_spells 38 = .ok (.if_icmp .ge 30, 3) := by decide +kernel
theorem dX1_spells_41 : decode cX1_spells 41 = .ok (.aload_n 0, 1) := by decide +kernel
theorem dX1_spells_42 : decode cX1_spells 42 = .ok (.getfield 9, 3) := by decide +kernel
theorem dX1_spells_45 : decode cX1_spells 45 = .ok (.aload_n 0, 1) := by decide +kernel
theorem dX1_spells_46 : decode cX1_spells 46 = .ok (.getfield 56, 3) := by decide +kernel
theorem dX1_spells_49 : decode cX1_spells 49 = .ok (.iload_n 2, 1) := by decide +kernel
theorem dX1_spells_50 : decode cX1_spells 50 = .ok (.iadd, 1) := by decide +kernel
theorem dX1_spells_51 : decode cX1_spells 51 = .ok (.iaload, 1) := by decide +kernel
theorem dX1_spells_52 : decode cX1_spells 52 = .ok (.aload_n 1, 1) := by decide +kernel
theorem dX1_spells_53 : decode cX1_spells 53 = .ok (.iload_n 2, 1) := by decide +kernel
theorem dX1_spells_54 : decode cX1_spells 54 = .ok (.invokevirtual 138, 3) := by decide +kernel
theorem dX1_spells_57 : decode cX1_spells 57 = .ok (.if_icmp .eq 5, 3) := by decide +kernel
theorem dX1_spells_60 : decode cX1_spells 60 = .ok (.iconst 0, 1) := by decide +kernel
theorem dX1_spells_61 : decode cX1_spells 61 = .ok (.ireturn, 1) := by decide +kernel
theorem dX1_spells_62 : decode cX1_spells 62 = .ok (.iinc 2 1, 3) := by decide +kernel
theorem dX1_spells_65 : decode cX1_spells 65 = .ok (.goto (-45), 3) := by decide +kernel
theorem dX1_spells_68 : decode cX1_spells 68 = .ok (.iconst 1, 1) := by decide +kernel
theorem dX1_spells_69 : decode cX1_spells 69 = .ok (.ireturn, 1) := by decide +kernel
theorem dX1_isBlank_0 : decode cX1_isBlank 0 = .ok (.iload_n 0, 1) := by decide +kernel
theorem dX1_isBlank_1 : decode cX1_isBlank 1 = .ok (.bipush 32, 2) := by decide +kernel
theorem dX1_isBlank_3 : decode cX1_isBlank 3 = .ok (.if_icmp .eq 9, 3) := by decide +kernel
theorem dX1_isBlank_6 : decode cX1_isBlank 6 = .ok (.iload_n 0, 1) := by decide +kernel
theorem dX1_isBlank_7 : decode cX1_isBlank 7 = .ok (.bipush 10, 2) := by decide +kernel
theorem dX1_isBlank_9 : decode cX1_isBlank 9 = .ok (.if_icmp .ne 7, 3) := by decide +kernel
theorem dX1_isBlank_12 : decode cX1_isBlank 12 = .ok (.iconst 1, 1) := by decide +kernel
theorem dX1_isBlank_13 : decode cX1_isBlank 13 = .ok (.goto 4, 3) := by decide +kernel
theorem dX1_isBlank_16 : decode cX1_isBlank 16 = .ok (.iconst 0, 1) := by decide +kernel
theorem dX1_isBlank_17 : decode cX1_isBlank 17 = .ok (.ireturn, 1) := by decide +kernel
theorem dX1_isLetter_0 : decode cX1_isLetter 0 = .ok (.iload_n 0, 1) := by decide +kernel
theorem dX1_isLetter_1 : decode cX1_isLetter 1 = .ok (.bipush 97, 2) := by decide +kernel
theorem dX1_isLetter_3 : decode cX1_isLetter 3 = .ok (.if_icmp .lt 13, 3) := by decide +kernel
theorem dX1_isLetter_6 : decode cX1_isLetter 6 = .ok (.iload_n 0, 1) := by decide +kernel
theorem dX1_isLetter_7 : decode cX1_isLetter 7 = .ok (.bipush 122, 2) := by decide +kernel
theorem dX1_isLetter_9 : decode cX1_isLetter 9 = .ok (.if_icmp .gt 7, 3) := by decide +kernel
theorem dX1_isLetter_12 : decode cX1_isLetter 12 = .ok (.iconst 1, 1) := by decide +kernel
theorem dX1_isLetter_13 : decode cX1_isLetter 13 = .ok (.goto 4, 3) := by decide +kernel
theorem dX1_isLetter_16 : decode cX1_isLetter 16 = .ok (.iconst 0, 1) := by decide +kernel
theorem dX1_isLetter_17 : decode cX1_isLetter 17 = .ok (.ireturn, 1) := by decide +kernel
theorem dX1_isDigit_0 : decode cX1_isDigit 0 = .ok (.iload_n 0, 1) := by decide +kernel
theorem dX1_isDigit_1 : decode cX1_isDigit 1 = .ok (.bipush 48, 2) := by decide +kernel
theorem dX1_isDigit_3 : decode cX1_isDigit 3 = .ok (.if_icmp .lt 13, 3) := by decide +kernel
theorem dX1_isDigit_6 : decode cX1_isDigit 6 = .ok (.iload_n 0, 1) := by decide +kernel
theorem dX1_isDigit_7 : decode cX1_isDigit 7 = .ok (.bipush 57, 2) := by decide +kernel
theorem dX1_isDigit_9 : decode cX1_isDigit 9 = .ok (.if_icmp .gt 7, 3) := by decide +kernel
theorem dX1_isDigit_12 : decode cX1_isDigit 12 = .ok (.iconst 1, 1) := by decide +kernel
theorem dX1_isDigit_13 : decode cX1_isDigit 13 = .ok (.goto 4, 3) := by decide +kernel
theorem dX1_isDigit_16 : decode cX1_isDigit 16 = .ok (.iconst 0, 1) := by decide +kernel
theorem dX1_isDigit_17 : decode cX1_isDigit 17 = .ok (.ireturn, 1) := by decide +kernel
theorem dX1_signOf_0 : decode cX1_signOf 0 = .ok (.iload_n 0, 1) := by decide +kernel
theorem dX1_signOf_1 : decode cX1_signOf 1 = .ok (.tableswitch 127 40 61 #[103, 106, 118, 112, 127, 115, 127, 127, 127, 127, 127, 127, 127, 127, 127, 127, 127, 127, 127, 109, 121, 124], 103) := by decide +kernel
theorem dX1_signOf_104 : decode cX1_signOf 104 = .ok (.bipush 10, 2) := by decide +kernel
theorem dX1_signOf_106 : decode cX1_signOf 106 = .ok (.ireturn, 1) := by decide +kernel
theorem dX1_signOf_107 : decode cX1_signOf 107 = .ok (.bipush 11, 2) := by decide +kernel
theorem dX1_signOf_109 : decode cX1_signOf 109 = .ok (.ireturn, 1) := by decide +kernel
theorem dX1_signOf_110 : decode cX1_signOf 110 = .ok (.bipush 12, 2) := by decide +kernel
theorem dX1_signOf_112 : decode cX1_signOf 112 = .ok (.ireturn, 1) := by decide +kernel
theorem dX1_signOf_113 : decode cX1_signOf 113 = .ok (.bipush 13, 2) := by decide +kernel
theorem dX1_signOf_115 : decode cX1_signOf 115 = .ok (.ireturn, 1) := by decide +kernel
theorem dX1_signOf_116 : decode cX1_signOf 116 = .ok (.bipush 14, 2) := by decide +kernel
theorem dX1_signOf_118 : decode cX1_signOf 118 = .ok (.ireturn, 1) := by decide +kernel
theorem dX1_signOf_119 : decode cX1_signOf 119 = .ok (.bipush 15, 2) := by decide +kernel
theorem dX1_signOf_121 : decode cX1_signOf 121 = .ok (.ireturn, 1) := by decide +kernel
theorem dX1_signOf_122 : decode cX1_signOf 122 = .ok (.bipush 16, 2) := by decide +kernel
theorem dX1_signOf_124 : decode cX1_signOf 124 = .ok (.ireturn, 1) := by decide +kernel
theorem dX1_signOf_125 : decode cX1_signOf 125 = .ok (.bipush 17, 2) := by decide +kernel
theorem dX1_signOf_127 : decode cX1_signOf 127 = .ok (.ireturn, 1) := by decide +kernel
theorem dX1_signOf_128 : decode cX1_signOf 128 = .ok (.iconst 0, 1) := by decide +kernel
theorem dX1_signOf_129 : decode cX1_signOf 129 = .ok (.ireturn, 1) := by decide +kernel
theorem dX2_init_0 : decode cX2_init 0 = .ok (.aload_n 0, 1) := by decide +kernel
theorem dX2_init_1 : decode cX2_init 1 = .ok (.invokespecial 3, 3) := by decide +kernel
theorem dX2_init_4 : decode cX2_init 4 = .ok (.aload_n 0, 1) := by decide +kernel
theorem dX2_init_5 : decode cX2_init 5 = .ok (.bipush 40, 2) := by decide +kernel
theorem dX2_init_7 : decode cX2_init 7 = .ok (.newarray .int, 2) := by decide +kernel
theorem dX2_init_9 : decode cX2_init 9 = .ok (.putfield 9, 3) := by decide +kernel
theorem dX2_init_12 : decode cX2_init 12 = .ok (.aload_n 0, 1) := by decide +kernel
theorem dX2_init_13 : decode cX2_init 13 = .ok (.iconst (-1), 1) := by decide +kernel
theorem dX2_init_14 : decode cX2_init 14 = .ok (.putfield 15, 3) := by decide +kernel
theorem dX2_init_17 : decode cX2_init 17 = .ok (.aload_n 0, 1) := by decide +kernel
theorem dX2_init_18 : decode cX2_init 18 = .ok (.iconst 0, 1) := by decide +kernel
theorem dX2_init_19 : decode cX2_init 19 = .ok (.putfield 19, 3) := by decide +kernel
theorem dX2_init_22 : decode cX2_init 22 = .ok (.return_, 1) := by decide +kernel
theorem dX2_isMissing_0 : decode cX2_isMissing 0 = .ok (.aload_n 0, 1) := by decide +kernel
theorem dX2_isMissing_1 : decode cX2_isMissing 1 = .ok (.getfield 15, 3) := by decide +kernel
theorem dX2_isMissing_4 : decode cX2_isMissing 4 = .ok (.iconst (-1), 1) := by decide +kernel
theorem dX2_isMissing_5 : decode cX2_isMissing 5 = .ok (.if_icmp .ne 7, 3) := by decide +kernel
theorem dX2_isMissing_8 : decode cX2_isMissing 8 = .ok (.iconst 1, 1) := by decide +kernel
theorem dX2_isMissing_9 : decode cX2_isMissing 9 = .ok (.goto 4, 3) := by decide +kernel
theorem dX2_isMissing_12 : decode cX2_isMissing 12 = .ok (.iconst 0, 1) := by decide +kernel
theorem dX2_isMissing_13 : decode cX2_isMissing 13 = .ok (.ireturn, 1) := by decide +kernel
theorem dX2_becomeRow_0 : decode cX2_becomeRow 0 = .ok (.aload_n 0, 1) := by decide +kernel
theorem dX2_becomeRow_1 : decode cX2_becomeRow 1 = .ok (.iload_n 1, 1) := by decide +kernel
theorem dX2_becomeRow_2 : decode cX2_becomeRow 2 = .ok (.putfield 15, 3) := by decide +kernel
theorem dX2_becomeRow_5 : decode cX2_becomeRow 5 = .ok (.aload_n 0, 1) := by decide +kernel
theorem dX2_becomeRow_6 : decode cX2_becomeRow 6 = .ok (.iload_n 2, 1) := by decide +kernel
theorem dX2_becomeRow_7 : decode cX2_becomeRow 7 = .ok (.bipush 40, 2) := by decide +kernel
theorem dX2_becomeRow_9 : decode cX2_becomeRow 9 = .ok (.invokestatic 22, 3) := by decide +kernel
theorem dX2_becomeRow_12 : decode cX2_becomeRow 12 = .ok (.putfield 19, 3) := by decide +kernel
theorem dX2_becomeRow_15 : decode cX2_becomeRow 15 = .ok (.aload_n 0, 1) := by decide +kernel
theorem dX2_becomeRow_16 : decode cX2_becomeRow 16 = .ok (.getfield 9, 3) := by decide +kernel
theorem dX2_becomeRow_19 : decode cX2_becomeRow 19 = .ok (.iconst 0, 1) := by decide +kernel
theorem dX2_becomeRow_20 : decode cX2_becomeRow 20 = .ok (.invokestatic 26, 3) := by decide +kernel
theorem dX2_becomeRow_23 : decode cX2_becomeRow 23 = .ok (.return_, 1) := by decide +kernel
theorem dX2_holds_0 : decode cX2_holds 0 = .ok (.iload_n 1, 1) := by decide +kernel
theorem dX2_holds_1 : decode cX2_holds 1 = .ok (.ifCond .lt 29, 3) := by decide +kernel
theorem dX2_holds_4 : decode cX2_holds 4 = .ok (.iload_n 2, 1) := by decide +kernel
theorem dX2_holds_5 : decode cX2_holds 5 = .ok (.ifCond .lt 25, 3) := by decide +kernel
theorem dX2_holds_8 : decode cX2_holds 8 = .ok (.iload_n 2, 1) := by decide +kernel
theorem dX2_holds_9 : decode cX2_holds 9 = .ok (.aload_n 0, 1) := by decide +kernel
theorem dX2_holds_10 : decode cX2_holds 10 = .ok (.getfield 19, 3) := by decide +kernel
theorem dX2_holds_13 : decode cX2_holds 13 = .ok (.if_icmp .gt 17, 3) := by decide +kernel
theorem dX2_holds_16 : decode cX2_holds 16 = .ok (.iload_n 1, 1) := by decide +kernel
theorem dX2_holds_17 : decode cX2_holds 17 = .ok (.aload_n 0, 1) := by decide +kernel
theorem dX2_holds_18 : decode cX2_holds 18 = .ok (.getfield 19, 3) := by decide +kernel
theorem dX2_holds_21 : decode cX2_holds 21 = .ok (.iload_n 2, 1) := by decide +kernel
theorem dX2_holds_22 : decode cX2_holds 22 = .ok (.isub, 1) := by decide +kernel
theorem dX2_holds_23 : decode cX2_holds 23 = .ok (.if_icmp .gt 7, 3) := by decide +kernel
theorem dX2_holds_26 : decode cX2_holds 26 = .ok (.iconst 1, 1) := by decide +kernel
theorem dX2_holds_27 : decode cX2_holds 27 = .ok (.goto 4, 3) := by decide +kernel
theorem dX2_holds_30 : decode cX2_holds 30 = .ok (.iconst 0, 1) := by decide +kernel
theorem dX2_holds_31 : decode cX2_holds 31 = .ok (.ireturn, 1) := by decide +kernel
theorem dX2_put_0 : decode cX2_put 0 = .ok (.iload_n 1, 1) := by decide +kernel
theorem dX2_put_1 : decode cX2_put 1 = .ok (.ifCond .lt 43, 3) := by decide +kernel
theorem dX2_put_4 : decode cX2_put 4 = .ok (.iload_n 1, 1) := by decide +kernel
theorem dX2_put_5 : decode cX2_put 5 = .ok (.aload_n 0, 1) := by decide +kernel
theorem dX2_put_6 : decode cX2_put 6 = .ok (.getfield 19, 3) := by decide +kernel
theorem dX2_put_9 : decode cX2_put 9 = .ok (.if_icmp .ge 35, 3) := by decide +kernel
theorem dX2_put_12 : decode cX2_put 12 = .ok (.aload_n 0, 1) := by decide +kernel
theorem dX2_put_13 : decode cX2_put 13 = .ok (.getfield 9, 3) := by decide +kernel
theorem dX2_put_16 : decode cX2_put 16 = .ok (.iload_n 1, 1) := by decide +kernel
theorem dX2_put_17 : decode cX2_put 17 = .ok (.aload_n 0, 1) := by decide +kernel
theorem dX2_put_18 : decode cX2_put 18 = .ok (.getfield 15, 3) := by decide +kernel
theorem dX2_put_21 : decode cX2_put 21 = .ok (.ifCond .ne 8, 3) := by decide +kernel
theorem dX2_put_24 : decode cX2_put 24 = .ok (.iload_n 2, 1) := by decide +kernel
theorem dX2_put_25 : decode cX2_put 25 = .ok (.i2b, 1) := by decide +kernel
theorem dX2_put_26 : decode cX2_put 26 = .ok (.goto 17, 3) := by decide +kernel
theorem dX2_put_29 : decode cX2_put 29 = .ok (.aload_n 0, 1) := by decide +kernel
theorem dX2_put_30 : decode cX2_put 30 = .ok (.getfield 15, 3) := by decide +kernel
theorem dX2_put_33 : decode cX2_put 33 = .ok (.iconst 1, 1) := by decide +kernel
theorem dX2_put_34 : decode cX2_put 34 = .ok (.if_icmp .ne 8, 3) := by decide +kernel
theorem dX2_put_37 : decode cX2_put 37 = .ok (.iload_n 2, 1) := by decide +kernel
theorem dX2_put_38 : decode cX2_put 38 = .ok (.i2s, 1) := by decide +kernel
theorem dX2_put_39 : decode cX2_put 39 = .ok (.goto 4, 3) := by decide +kernel
theorem dX2_put_42 : decode cX2_put 42 = .ok (.iload_n 2, 1) := by decide +kernel
theorem dX2_put_43 : decode cX2_put 43 = .ok (.iastore, 1) := by decide +kernel
theorem dX2_put_44 : decode cX2_put 44 = .ok (.return_, 1) := by decide +kernel
theorem dX3_init_0 : decode cX3_init 0 = .ok (.aload_n 0, 1) := by decide +kernel
theorem dX3_init_1 : decode cX3_init 1 = .ok (.invokespecial 3, 3) := by decide +kernel
theorem dX3_init_4 : decode cX3_init 4 = .ok (.aload_n 0, 1) := by decide +kernel
theorem dX3_init_5 : decode cX3_init 5 = .ok (.sipush 160, 3) := by decide +kernel
theorem dX3_init_8 : decode cX3_init 8 = .ok (.newarray .int, 2) := by decide +kernel
theorem dX3_init_10 : decode cX3_init 10 = .ok (.putfield 9, 3) := by decide +kernel
theorem dX3_init_13 : decode cX3_init 13 = .ok (.aload_n 0, 1) := by decide +kernel
theorem dX3_init_14 : decode cX3_init 14 = .ok (.iconst 3, 1) := by decide +kernel
theorem dX3_init_15 : decode cX3_init 15 = .ok (.newarray .int, 2) := by decide +kernel
theorem dX3_init_17 : decode cX3_init 17 = .ok (.putfield 15, 3) := by decide +kernel
theorem dX3_init_20 : decode cX3_init 20 = .ok (.aload_n 0, 1) := by decide +kernel
theorem dX3_init_21 : decode cX3_init 21 = .ok (.iconst 0, 1) := by decide +kernel
theorem dX3_init_22 : decode cX3_init 22 = .ok (.putfield 18, 3) := by decide +kernel
theorem dX3_init_25 : decode cX3_init 25 = .ok (.aload_n 0, 1) := by decide +kernel
theorem dX3_init_26 : decode cX3_init 26 = .ok (.iconst 0, 1) := by decide +kernel
theorem dX3_init_27 : decode cX3_init 27 = .ok (.putfield 22, 3) := by decide +kernel
theorem dX3_init_30 : decode cX3_init 30 = .ok (.return_, 1) := by decide +kernel
theorem dX3_clear_0 : decode cX3_clear 0 = .ok (.aload_n 0, 1) := by decide +kernel
theorem dX3_clear_1 : decode cX3_clear 1 = .ok (.iconst 0, 1) := by decide +kernel
theorem dX3_clear_2 : decode cX3_clear 2 = .ok (.putfield 18, 3) := by decide +kernel
theorem dX3_clear_5 : decode cX3_clear 5 = .ok (.aload_n 0, 1) := by decide +kernel
theorem dX3_clear_6 : decode cX3_clear 6 = .ok (.iconst 0, 1) := by decide +kernel
theorem dX3_clear_7 : decode cX3_clear 7 = .ok (.putfield 22, 3) := by decide +kernel
theorem dX3_clear_10 : decode cX3_clear 10 = .ok (.return_, 1) := by decide +kernel
theorem dX3_append_0 : decode cX3_append 0 = .ok (.aload_n 0, 1) := by decide +kernel
theorem dX3_append_1 : decode cX3_append 1 = .ok (.getfield 18, 3) := by decide +kernel
theorem dX3_append_4 : decode cX3_append 4 = .ok (.aload_n 0, 1) := by decide +kernel
theorem dX3_append_5 : decode cX3_append 5 = .ok (.getfield 9, 3) := by decide +kernel
theorem dX3_append_8 : decode cX3_append 8 = .ok (.arraylength, 1) := by decide +kernel
theorem dX3_append_9 : decode cX3_append 9 = .ok (.if_icmp .ge 44, 3) := by decide +kernel
theorem dX3_append_12 : decode cX3_append 12 = .ok (.aload_n 0, 1) := by decide +kernel
theorem dX3_append_13 : decode cX3_append 13 = .ok (.getfield 9, 3) := by decide +kernel
theorem dX3_append_16 : decode cX3_append 16 = .ok (.aload_n 0, 1) := by decide +kernel
theorem dX3_append_17 : decode cX3_append 17 = .ok (.getfield 18, 3) := by decide +kernel
theorem dX3_append_20 : decode cX3_append 20 = .ok (.iload_n 1, 1) := by decide +kernel
theorem dX3_append_21 : decode cX3_append 21 = .ok (.iastore, 1) := by decide +kernel
theorem dX3_append_22 : decode cX3_append 22 = .ok (.aload_n 0, 1) := by decide +kernel
theorem dX3_append_23 : decode cX3_append 23 = .ok (.dup, 1) := by decide +kernel
theorem dX3_append_24 : decode cX3_append 24 = .ok (.getfield 18, 3) := by decide +kernel
theorem dX3_append_27 : decode cX3_append 27 = .ok (.iconst 1, 1) := by decide +kernel
theorem dX3_append_28 : decode cX3_append 28 = .ok (.iadd, 1) := by decide +kernel
theorem dX3_append_29 : decode cX3_append 29 = .ok (.putfield 18, 3) := by decide +kernel
theorem dX3_append_32 : decode cX3_append 32 = .ok (.aload_n 0, 1) := by decide +kernel
theorem dX3_append_33 : decode cX3_append 33 = .ok (.aload_n 0, 1) := by decide +kernel
theorem dX3_append_34 : decode cX3_append 34 = .ok (.getfield 22, 3) := by decide +kernel
theorem dX3_append_37 : decode cX3_append 37 = .ok (.ifCond .ne 8, 3) := by decide +kernel
theorem dX3_append_40 : decode cX3_append 40 = .ok (.iload_n 1, 1) := by decide +kernel
theorem dX3_append_41 : decode cX3_append 41 = .ok (.iconst 4, 1) := by decide +kernel
theorem dX3_append_42 : decode cX3_append 42 = .ok (.if_icmp .ne 7, 3) := by decide +kernel
theorem dX3_append_45 : decode cX3_append 45 = .ok (.iconst 1, 1) := by decide +kernel
theorem dX3_append_46 : decode cX3_append 46 = .ok (.goto 4, 3) := by decide +kernel
theorem dX3_append_49 : decode cX3_append 49 = .ok (.iconst 0, 1) := by decide +kernel
theorem dX3_append_50 : decode cX3_append 50 = .ok (.putfield 22, 3) := by decide +kernel
theorem dX3_append_53 : decode cX3_append 53 = .ok (.return_, 1) := by decide +kernel
theorem dX3_endPart_0 : decode cX3_endPart 0 = .ok (.iload_n 1, 1) := by decide +kernel
theorem dX3_endPart_1 : decode cX3_endPart 1 = .ok (.ifCond .lt 22, 3) := by decide +kernel
theorem dX3_endPart_4 : decode cX3_endPart 4 = .ok (.iload_n 1, 1) := by decide +kernel
theorem dX3_endPart_5 : decode cX3_endPart 5 = .ok (.aload_n 0, 1) := by decide +kernel
theorem dX3_endPart_6 : decode cX3_endPart 6 = .ok (.getfield 15, 3) := by decide +kernel
theorem dX3_endPart_9 : decode cX3_endPart 9 = .ok (.arraylength, 1) := by decide +kernel
theorem dX3_endPart_10 : decode cX3_endPart 10 = .ok (.if_icmp .ge 13, 3) := by decide +kernel
theorem dX3_endPart_13 : decode cX3_endPart 13 = .ok (.aload_n 0, 1) := by decide +kernel
theorem dX3_endPart_14 : decode cX3_endPart 14 = .ok (.getfield 15, 3) := by decide +kernel
theorem dX3_endPart_17 : decode cX3_endPart 17 = .ok (.iload_n 1, 1) := by decide +kernel
theorem dX3_endPart_18 : decode cX3_endPart 18 = .ok (.aload_n 0, 1) := by decide +kernel
theorem dX3_endPart_19 : decode cX3_endPart 19 = .ok (.getfield 18, 3) := by decide +kernel
theorem dX3_endPart_22 : decode cX3_endPart 22 = .ok (.iastore, 1) := by decide +kernel
theorem dX3_endPart_23 : decode cX3_endPart 23 = .ok (.return_, 1) := by decide +kernel
theorem dX3_startOf_0 : decode cX3_startOf 0 = .ok (.iload_n 1, 1) := by decide +kernel
theorem dX3_startOf_1 : decode cX3_startOf 1 = .ok (.ifCond .le 23, 3) := by decide +kernel
theorem dX3_startOf_4 : decode cX3_startOf 4 = .ok (.iload_n 1, 1) := by decide +kernel
theorem dX3_startOf_5 : decode cX3_startOf 5 = .ok (.aload_n 0, 1) := by decide +kernel
theorem dX3_startOf_6 : decode cX3_startOf 6 = .ok (.getfield 15, 3) := by decide +kernel
theorem dX3_startOf_9 : decode cX3_startOf 9 = .ok (.arraylength, 1) := by decide +kernel
theorem dX3_startOf_10 : decode cX3_startOf 10 = .ok (.if_icmp .gt 14, 3) := by decide +kernel
theorem dX3_startOf_13 : decode cX3_startOf 13 = .ok (.aload_n 0, 1) := by decide +kernel
theorem dX3_startOf_14 : decode cX3_startOf 14 = .ok (.getfield 15, 3) := by decide +kernel
theorem dX3_startOf_17 : decode cX3_startOf 17 = .ok (.iload_n 1, 1) := by decide +kernel
theorem dX3_startOf_18 : decode cX3_startOf 18 = .ok (.iconst 1, 1) := by decide +kernel
theorem dX3_startOf_19 : decode cX3_startOf 19 = .ok (.isub, 1) := by decide +kernel
theorem dX3_startOf_20 : decode cX3_startOf 20 = .ok (.iaload, 1) := by decide +kernel
theorem dX3_startOf_21 : decode cX3_startOf 21 = .ok (.goto 4, 3) := by decide +kernel
theorem dX3_startOf_24 : decode cX3_startOf 24 = .ok (.iconst 0, 1) := by decide +kernel
theorem dX3_startOf_25 : decode cX3_startOf 25 = .ok (.ireturn, 1) := by decide +kernel
theorem dX3_endOf_0 : decode cX3_endOf 0 = .ok (.iload_n 1, 1) := by decide +kernel
theorem dX3_endOf_1 : decode cX3_endOf 1 = .ok (.ifCond .lt 21, 3) := by decide +kernel
theorem dX3_endOf_4 : decode cX3_endOf 4 = .ok (.iload_n 1, 1) := by decide +kernel
theorem dX3_endOf_5 : decode cX3_endOf 5 = .ok (.aload_n 0, 1) := by decide +kernel
theorem dX3_endOf_6 : decode cX3_endOf 6 = .ok (.getfield 15, 3) := by decide +kernel
theorem dX3_endOf_9 : decode cX3_endOf 9 = .ok (.arraylength, 1) := by decide +kernel
theorem dX3_endOf_10 : decode cX3_endOf 10 = .ok (.if_icmp .ge 12, 3) := by decide +kernel
theorem dX3_endOf_13 : decode cX3_endOf 13 = .ok (.aload_n 0, 1) := by decide +kernel
theorem dX3_endOf_14 : decode cX3_endOf 14 = .ok (.getfield 15, 3) := by decide +kernel
theorem dX3_endOf_17 : decode cX3_endOf 17 = .ok (.iload_n 1, 1) := by decide +kernel
theorem dX3_endOf_18 : decode cX3_endOf 18 = .ok (.iaload, 1) := by decide +kernel
theorem dX3_endOf_19 : decode cX3_endOf 19 = .ok (.goto 4, 3) := by decide +kernel
theorem dX3_endOf_22 : decode cX3_endOf 22 = .ok (.iconst 0, 1) := by decide +kernel
theorem dX3_endOf_23 : decode cX3_endOf 23 = .ok (.ireturn, 1) := by decide +kernel
theorem dX4_init_0 : decode cX4_init 0 = .ok (.aload_n 0, 1) := by decide +kernel
theorem dX4_init_1 : decode cX4_init 1 = .ok (.invokespecial 3, 3) := by decide +kernel
theorem dX4_init_4 : decode cX4_init 4 = .ok (.aload_n 0, 1) := by decide +kernel
theorem dX4_init_5 : decode cX4_init 5 = .ok (.bipush 31, 2) := by decide +kernel
theorem dX4_init_7 : decode cX4_init 7 = .ok (.newarray .int, 2) := by decide +kernel
theorem dX4_init_9 : decode cX4_init 9 = .ok (.putfield 11, 3) := by decide +kernel
theorem dX4_init_12 : decode cX4_init 12 = .ok (.aload_n 0, 1) := by decide +kernel
theorem dX4_init_13 : decode cX4_init 13 = .ok (.aload_n 1, 1) := by decide +kernel
theorem dX4_init_14 : decode cX4_init 14 = .ok (.putfield 15, 3) := by decide +kernel
theorem dX4_init_17 : decode cX4_init 17 = .ok (.return_, 1) := by decide +kernel
theorem dX4_startAs_0 : decode cX4_startAs 0 = .ok (.aload_n 0, 1) := by decide +kernel
theorem dX4_startAs_1 : decode cX4_startAs 1 = .ok (.aload_n 1, 1) := by decide +kernel
theorem dX4_startAs_2 : decode cX4_startAs 2 = .ok (.getfield 19, 3) := by decide +kernel
theorem dX4_startAs_5 : decode cX4_startAs 5 = .ok (.putfield 25, 3) := by decide +kernel
theorem dX4_startAs_8 : decode cX4_startAs 8 = .ok (.aload_n 0, 1) := by decide +kernel
theorem dX4_startAs_9 : decode cX4_startAs 9 = .ok (.aload_n 1, 1) := by decide +kernel
theorem dX4_startAs_10 : decode cX4_startAs 10 = .ok (.getfield 26, 3) := by decide +kernel
theorem dX4_startAs_13 : decode cX4_startAs 13 = .ok (.putfield 29, 3) := by decide +kernel
theorem dX4_startAs_16 : decode cX4_startAs 16 = .ok (.aload_n 0, 1) := by decide +kernel
theorem dX4_startAs_17 : decode cX4_startAs 17 = .ok (.aload_n 1, 1) := by decide +kernel
theorem dX4_startAs_18 : decode cX4_startAs 18 = .ok (.getfield 30, 3) := by decide +kernel
theorem dX4_startAs_21 : decode cX4_startAs 21 = .ok (.putfield 33, 3) := by decide +kernel
theorem dX4_startAs_24 : decode cX4_startAs 24 = .ok (.aload_n 0, 1) := by decide +kernel
theorem dX4_startAs_25 : decode cX4_startAs 25 = .ok (.aload_n 1, 1) := by decide +kernel
theorem dX4_startAs_26 : decode cX4_startAs 26 = .ok (.getfield 34, 3) := by decide +kernel
theorem dX4_startAs_29 : decode cX4_startAs 29 = .ok (.putfield 37, 3) := by decide +kernel
theorem dX4_startAs_32 : decode cX4_startAs 32 = .ok (.aload_n 0, 1) := by decide +kernel
theorem dX4_startAs_33 : decode cX4_startAs 33 = .ok (.iload_n 3, 1) := by decide +kernel
theorem dX4_startAs_34 : decode cX4_startAs 34 = .ok (.putfield 38, 3) := by decide +kernel
theorem dX4_startAs_37 : decode cX4_startAs 37 = .ok (.aload_n 0, 1) := by decide +kernel
theorem dX4_startAs_38 : decode cX4_startAs 38 = .ok (.aload_n 2, 1) := by decide +kernel
theorem dX4_startAs_39 : decode cX4_startAs 39 = .ok (.putfield 15, 3) := by decide +kernel
theorem dX4_startAs_42 : decode cX4_startAs 42 = .ok (.return_, 1) := by decide +kernel
theorem dX4_weigh_0 : decode cX4_weigh 0 = .ok (.aload_n 0, 1) := by decide +kernel
theorem dX4_weigh_1 : decode cX4_weigh 1 = .ok (.iconst 0, 1) := by decide +kernel
theorem dX4_weigh_2 : decode cX4_weigh 2 = .ok (.putfield 41, 3) := by decide +kernel
theorem dX4_weigh_5 : decode cX4_weigh 5 = .ok (.aload_n 0, 1) := by decide +kernel
theorem dX4_weigh_6 : decode cX4_weigh 6 = .ok (.iconst 0, 1) := by decide +kernel
theorem dX4_weigh_7 : decode cX4_weigh 7 = .ok (.putfield 44, 3) := by decide +kernel
theorem dX4_weigh_10 : decode cX4_weigh 10 = .ok (.iconst 0, 1) := by decide +kernel
theorem dX4_weigh_11 : decode cX4_weigh 11 = .ok (.istore 4, 2) := by decide +kernel
theorem dX4_weigh_13 : decode cX4_weigh 13 = .ok (.iload 4, 2) := by decide +kernel
theorem dX4_weigh_15 : decode cX4_weigh 15 = .ok (.aload_n 3, 1) := by decide +kernel
theorem dX4_weigh_16 : decode cX4_weigh 16 = .ok (.arraylength, 1) := by decide +kernel
theorem dX4_weigh_17 : decode cX4_weigh 17 = .ok (.if_icmp .ge 58, 3) := by decide +kernel
theorem dX4_weigh_20 : decode cX4_weigh 20 = .ok (.iload_n 1, 1) := by decide +kernel
theorem dX4_weigh_21 : decode cX4_weigh 21 = .ok (.iload_n 2, 1) := by decide +kernel
theorem dX4_weigh_22 : decode cX4_weigh 22 = .ok (.iand, 1) := by decide +kernel
theorem dX4_weigh_23 : decode cX4_weigh 23 = .ok (.iload 4, 2) := by decide +kernel
theorem dX4_weigh_25 : decode cX4_weigh 25 = .ok (.invokestatic 47, 3) := by decide +kernel
theorem dX4_weigh_28 : decode cX4_weigh 28 = .ok (.ifCond .eq 19, 3) := by decide +kernel
theorem dX4_weigh_31 : decode cX4_weigh 31 = .ok (.aload_n 0, 1) := by decide +kernel
theorem dX4_weigh_32 : decode cX4_weigh 32 = .ok (.dup, 1) := by decide +kernel
theorem dX4_weigh_33 : decode cX4_weigh 33 = .ok (.getfield 41, 3) := by decide +kernel
theorem dX4_weigh_36 : decode cX4_weigh 36 = .ok (.aload_n 3, 1) := by decide +kernel
theorem dX4_weigh_37 : decode cX4_weigh 37 = .ok (.iload 4, 2) := by decide +kernel
theorem dX4_weigh_39 : decode cX4_weigh 39 = .ok (.iaload, 1) := by decide +kernel
theorem dX4_weigh_40 : decode cX4_weigh 40 = .ok (.iadd, 1) := by decide +kernel
theorem dX4_weigh_41 : decode cX4_weigh 41 = .ok (.putfield 41, 3) := by decide +kernel
theorem dX4_weigh_44 : decode cX4_weigh 44 = .ok (.goto 25, 3) := by decide +kernel
theorem dX4_weigh_47 : decode cX4_weigh 47 = .ok (.iload_n 1, 1) := by decide +kernel
theorem dX4_weigh_48 : decode cX4_weigh 48 = .ok (.iload 4, 2) := by decide +kernel
theorem dX4_weigh_50 : decode cX4_weigh 50 = .ok (.invokestatic 47, 3) := by decide +kernel
theorem dX4_weigh_53 : decode cX4_weigh 53 = .ok (.ifCond .eq 16, 3) := by decide +kernel
theorem dX4_weigh_56 : decode cX4_weigh 56 = .ok (.aload_n 0, 1) := by decide +kernel
theorem dX4_weigh_57 : decode cX4_weigh 57 = .ok (.dup, 1) := by decide +kernel
theorem dX4_weigh_58 : decode cX4_weigh 58 = .ok (.getfield 44, 3) := by decide +kernel
theorem dX4_weigh_61 : decode cX4_weigh 61 = .ok (.aload_n 3, 1) := by decide +kernel
theorem dX4_weigh_62 : decode cX4_weigh 62 = .ok (.iload 4, 2) := by decide +kernel
theorem dX4_weigh_64 : decode cX4_weigh 64 = .ok (.iaload, 1) := by decide +kernel
theorem dX4_weigh_65 : decode cX4_weigh 65 = .ok (.iadd, 1) := by decide +kernel
theorem dX4_weigh_66 : decode cX4_weigh 66 = .ok (.putfield 44, 3) := by decide +kernel
theorem dX4_weigh_69 : decode cX4_weigh 69 = .ok (.iinc 4 1, 3) := by decide +kernel
theorem dX4_weigh_72 : decode cX4_weigh 72 = .ok (.goto (-59), 3) := by decide +kernel
theorem dX4_weigh_75 : decode cX4_weigh 75 = .ok (.return_, 1) := by decide +kernel
theorem dX4_lasts_0 : decode cX4_lasts 0 = .ok (.aload_n 0, 1) := by decide +kernel
theorem dX4_lasts_1 : decode cX4_lasts 1 = .ok (.aload_n 0, 1) := by decide +kernel
theorem dX4_lasts_2 : decode cX4_lasts 2 = .ok (.iconst 0, 1) := by decide +kernel
theorem dX4_lasts_3 : decode cX4_lasts 3 = .ok (.invokevirtual 51, 3) := by decide +kernel
theorem dX4_lasts_6 : decode cX4_lasts 6 = .ok (.sipush 999, 3) := by decide +kernel
theorem dX4_lasts_9 : decode cX4_lasts 9 = .ok (.invokestatic 55, 3) := by decide +kernel
theorem dX4_lasts_12 : decode cX4_lasts 12 = .ok (.invokevirtual 59, 3) := by decide +kernel
theorem dX4_lasts_15 : decode cX4_lasts 15 = .ok (.sipush 9999, 3) := by decide +kernel
theorem dX4_lasts_18 : decode cX4_lasts 18 = .ok (.invokestatic 55, 3) := by decide +kernel
theorem dX4_lasts_21 : decode cX4_lasts 21 = .ok (.ireturn, 1) := by decide +kernel
theorem dX4_lastsByKind_0 : decode cX4_lastsByKind 0 = .ok (.aload_n 0, 1) := by decide +kernel
theorem dX4_lastsByKind_1 : decode cX4_lastsByKind 1 = .ok (.getfield 25, 3) := by decide +kernel
theorem dX4_lastsByKind_4 : decode cX4_lastsByKind 4 = .ok (.tableswitch 80 1 5 #[36, 43, 47, 67, 76], 36) := by decide +kernel
theorem dX4_lastsByKind_40 : decode cX4_lastsByKind 40 = .ok (.iload_n 1, 1) := by decide +kernel
theorem dX4_lastsByKind_41 : decode cX4_lastsByKind 41 = .ok (.aload_n 0, 1) := by decide +kernel
theorem dX4_lastsByKind_42 : decode cX4_lastsByKind 42 = .ok (.getfield 29, 3) := by decide +kernel
theorem dX4_lastsByKind_45 : decode cX4_lastsByKind 45 = .ok (.iadd, 1) := by decide +kernel
theorem dX4_lastsByKind_46 : decode cX4_lastsByKind 46 = .ok (.ireturn, 1) := by decide +kernel
theorem dX4_lastsByKind_47 : decode cX4_lastsByKind 47 = .ok (.iload_n 1, 1) := by decide +kernel
theorem dX4_lastsByKind_48 : decode cX4_lastsByKind 48 = .ok (.iconst 2, 1) := by decide +kernel
theorem dX4_lastsByKind_49 : decode cX4_lastsByKind 49 = .ok (.idiv, 1) := by decide +kernel
theorem dX4_lastsByKind_50 : decode cX4_lastsByKind 50 = .ok (.ireturn, 1) := by decide +kernel
theorem dX4_lastsByKind_51 : decode cX4_lastsByKind 51 = .ok (.aload_n 0, 1) := by decide +kernel
theorem dX4_lastsByKind_52 : decode cX4_lastsByKind 52 = .ok (.getfield 41, 3) := by decide +kernel
theorem dX4_lastsByKind_55 : decode cX4_lastsByKind 55 = .ok (.bipush 10, 2) := by decide +kernel
theorem dX4_lastsByKind_57 : decode cX4_lastsByKind 57 = .ok (.if_icmp .ge 7, 3) := by decide +kernel
theorem dX4_lastsByKind_60 : decode cX4_lastsByKind 60 = .ok (.iconst 0, 1) := by decide +kernel
theorem dX4_lastsByKind_61 : decode cX4_lastsByKind 61 = .ok (.goto 9, 3) := by decide +kernel
theorem dX4_lastsByKind_64 : decode cX4_lastsByKind 64 = .ok (.iload_n 1, 1) := by decide +kernel
theorem dX4_lastsByKind_65 : decode cX4_lastsByKind 65 = .ok (.aload_n 0, 1) := by decide +kernel
theorem dX4_lastsByKind_66 : decode cX4_lastsByKind 66 = .ok (.getfield 29, 3) := by decide +kernel
theorem dX4_lastsByKind_69 : decode cX4_lastsByKind 69 = .ok (.iadd, 1) := by decide +kernel
theorem dX4_lastsByKind_70 : decode cX4_lastsByKind 70 = .ok (.ireturn, 1) := by decide +kernel
theorem dX4_lastsByKind_71 : decode cX4_lastsByKind 71 = .ok (.iload_n 1, 1) := by decide +kernel
theorem dX4_lastsByKind_72 : decode cX4_lastsByKind 72 = .ok (.iconst 2, 1) := by decide +kernel
theorem dX4_lastsByKind_73 : decode cX4_lastsByKind 73 = .ok (.idiv, 1) := by decide +kernel
theorem dX4_lastsByKind_74 : decode cX4_lastsByKind 74 = .ok (.aload_n 0, 1) := by decide +kernel
theorem dX4_lastsByKind_75 : decode cX4_lastsByKind 75 = .ok (.getfield 41, 3) := by decide +kernel
theorem dX4_lastsByKind_78 : decode cX4_lastsByKind 78 = .ok (.iadd, 1) := by decide +kernel
theorem dX4_lastsByKind_79 : decode cX4_lastsByKind 79 = .ok (.ireturn, 1) := by decide +kernel
theorem dX4_lastsByKind_80 : decode cX4_lastsByKind 80 = .ok (.sipush 999, 3) := by decide +kernel
theorem dX4_lastsByKind_83 : decode cX4_lastsByKind 83 = .ok (.ireturn, 1) := by decide +kernel
theorem dX4_lastsByKind_84 : decode cX4_lastsByKind 84 = .ok (.iload_n 1, 1) := by decide +kernel
theorem dX4_lastsByKind_85 : decode cX4_lastsByKind 85 = .ok (.ireturn, 1) := by decide +kernel
theorem dX4_pace_0 : decode cX4_pace 0 = .ok (.aload_n 0, 1) := by decide +kernel
theorem dX4_pace_1 : decode cX4_pace 1 = .ok (.aload_n 0, 1) := by decide +kernel
theorem dX4_pace_2 : decode cX4_pace 2 = .ok (.iconst 1, 1) := by decide +kernel
theorem dX4_pace_3 : decode cX4_pace 3 = .ok (.invokevirtual 51, 3) := by decide +kernel
theorem dX4_pace_6 : decode cX4_pace 6 = .ok (.bipush 99, 2) := by decide +kernel
theorem dX4_pace_8 : decode cX4_pace 8 = .ok (.invokestatic 55, 3) := by decide +kernel
theorem dX4_pace_11 : decode cX4_pace 11 = .ok (.invokevirtual 62, 3) := by decide +kernel
theorem dX4_pace_14 : decode cX4_pace 14 = .ok (.bipush 99, 2) := by decide +kernel
theorem dX4_pace_16 : decode cX4_pace 16 = .ok (.invokestatic 55, 3) := by decide +kernel
theorem dX4_pace_19 : decode cX4_pace 19 = .ok (.ireturn, 1) := by decide +kernel
theorem dX4_paceByKind_0 : decode cX4_paceByKind 0 = .ok (.aload_n 0, 1) := by decide +kernel
theorem dX4_paceByKind_1 : decode cX4_paceByKind 1 = .ok (.getfield 44, 3) := by decide +kernel
theorem dX4_paceByKind_4 : decode cX4_paceByKind 4 = .ok (.ifCond .ne 9, 3) := by decide +kernel
theorem dX4_paceByKind_7 : decode cX4_paceByKind 7 = .ok (.iconst 2, 1) := by decide +kernel
theorem dX4_paceByKind_8 : decode cX4_paceByKind 8 = .ok (.iload_n 1, 1) := by decide +kernel
theorem dX4_paceByKind_9 : decode cX4_paceByKind 9 = .ok (.imul, 1) := by decide +kernel
theorem dX4_paceByKind_10 : decode cX4_paceByKind 10 = .ok (.goto 4, 3) := by decide +kernel
theorem dX4_paceByKind_13 : decode cX4_paceByKind 13 = .ok (.iload_n 1, 1) := by decide +kernel
theorem dX4_paceByKind_14 : decode cX4_paceByKind 14 = .ok (.istore_n 2, 1) := by decide +kernel
theorem dX4_paceByKind_15 : decode cX4_paceByKind 15 = .ok (.aload_n 0, 1) := by decide +kernel
theorem dX4_paceByKind_16 : decode cX4_paceByKind 16 = .ok (.getfield 25, 3) := by decide +kernel
theorem dX4_paceByKind_19 : decode cX4_paceByKind 19 = .ok (.tableswitch 50 1 5 #[33, 35, 39, 43, 45], 33) := by decide +kernel
theorem dX4_paceByKind_52 : decode cX4_paceByKind 52 = .ok (.iload_n 2, 1) := by decide +kernel
theorem dX4_paceByKind_53 : decode cX4_paceByKind 53 = .ok (.ireturn, 1) := by decide +kernel
theorem dX4_paceByKind_54 : decode cX4_paceByKind 54 = .ok (.iload_n 1, 1) := by decide +kernel
theorem dX4_paceByKind_55 : decode cX4_paceByKind 55 = .ok (.iconst 2, 1) := by decide +kernel
theorem dX4_paceByKind_56 : decode cX4_paceByKind 56 = .ok (.iadd, 1) := by decide +kernel
theorem dX4_paceByKind_57 : decode cX4_paceByKind 57 = .ok (.ireturn, 1) := by decide +kernel
theorem dX4_paceByKind_58 : decode cX4_paceByKind 58 = .ok (.iload_n 2, 1) := by decide +kernel
theorem dX4_paceByKind_59 : decode cX4_paceByKind 59 = .ok (.iconst 3, 1) := by decide +kernel
theorem dX4_paceByKind_60 : decode cX4_paceByKind 60 = .ok (.iadd, 1) := by decide +kernel
theorem dX4_paceByKind_61 : decode cX4_paceByKind 61 = .ok (.ireturn, 1) := by decide +kernel
theorem dX4_paceByKind_62 : decode cX4_paceByKind 62 = .ok (.iconst 1, 1) := by decide +kernel
theorem dX4_paceByKind_63 : decode cX4_paceByKind 63 = .ok (.ireturn, 1) := by decide +kernel
theorem dX4_paceByKind_64 : decode cX4_paceByKind 64 = .ok (.aload_n 0, 1) := by decide +kernel
theorem dX4_paceByKind_65 : decode cX4_paceByKind 65 = .ok (.getfield 29, 3) := by decide +kernel
theorem dX4_paceByKind_68 : decode cX4_paceByKind 68 = .ok (.ireturn, 1) := by decide +kernel
theorem dX4_paceByKind_69 : decode cX4_paceByKind 69 = .ok (.iload_n 1, 1) := by decide +kernel
theorem dX4_paceByKind_70 : decode cX4_paceByKind 70 = .ok (.ireturn, 1) := by decide +kernel
theorem dX4_isStopped_0 : decode cX4_isStopped 0 = .ok (.aload_n 0, 1) := by decide +kernel
theorem dX4_isStopped_1 : decode cX4_isStopped 1 = .ok (.iconst 2, 1) := by decide +kernel
theorem dX4_isStopped_2 : decode cX4_isStopped 2 = .ok (.invokevirtual 51, 3) := by decide +kernel
theorem dX4_isStopped_5 : decode cX4_isStopped 5 = .ok (.ifCond .eq 7, 3) := by decide +kernel
theorem dX4_isStopped_8 : decode cX4_isStopped 8 = .ok (.iconst 1, 1) := by decide +kernel
theorem dX4_isStopped_9 : decode cX4_isStopped 9 = .ok (.goto 4, 3) := by decide +kernel
theorem dX4_isStopped_12 : decode cX4_isStopped 12 = .ok (.iconst 0, 1) := by decide +kernel
theorem dX4_isStopped_13 : decode cX4_isStopped 13 = .ok (.istore_n 1, 1) := by decide +kernel
theorem dX4_isStopped_14 : decode cX4_isStopped 14 = .ok (.aload_n 0, 1) := by decide +kernel
theorem dX4_isStopped_15 : decode cX4_isStopped 15 = .ok (.getfield 25, 3) := by decide +kernel
theorem dX4_isStopped_18 : decode cX4_isStopped 18 = .ok (.tableswitch 105 1 5 #[34, 52, 71, 73, 92], 34) := by decide +kernel
theorem dX4_isStopped_52 : decode cX4_isStopped 52 = .ok (.iload_n 1, 1) := by decide +kernel
theorem dX4_isStopped_53 : decode cX4_isStopped 53 = .ok (.ifCond .eq 15, 3) := by decide +kernel
theorem dX4_isStopped_56 : decode cX4_isStopped 56 = .ok (.aload_n 0, 1) := by decide +kernel
theorem dX4_isStopped_57 : decode cX4_isStopped 57 = .ok (.getfield 44, 3) := by decide +kernel
theorem dX4_isStopped_60 : decode cX4_isStopped 60 = .ok (.iconst 5, 1) := by decide +kernel
theorem dX4_isStopped_61 : decode cX4_isStopped 61 = .ok (.if_icmp .le 7, 3) := by decide +kernel
theorem dX4_isStopped_64 : decode cX4_isStopped 64 = .ok (.iconst 1, 1) := by decide +kernel
theorem dX4_isStopped_65 : decode cX4_isStopped 65 = .ok (.goto 4, 3) := by decide +kernel
theorem dX4_isStopped_68 : decode cX4_isStopped 68 = .ok (.iconst 0, 1) := by decide +kernel
theorem dX4_isStopped_69 : decode cX4_isStopped 69 = .ok (.ireturn, 1) := by decide +kernel
theorem dX4_isStopped_70 : decode cX4_isStopped 70 = .ok (.iload_n 1, 1) := by decide +kernel
theorem dX4_isStopped_71 : decode cX4_isStopped 71 = .ok (.ifCond .ne 12, 3) := by decide +kernel
theorem dX4_isStopped_74 : decode cX4_isStopped 74 = .ok (.aload_n 0, 1) := by decide +kernel
theorem dX4_isStopped_75 : decode cX4_isStopped 75 = .ok (.getfield 44, 3) := by decide +kernel
theorem dX4_isStopped_78 : decode cX4_isStopped 78 = .ok (.bipush 30, 2) := by decide +kernel
theorem dX4_isStopped_80 : decode cX4_isStopped 80 = .ok (.if_icmp .le 7, 3) := by decide +kernel
theorem dX4_isStopped_83 : decode cX4_isStopped 83 = .ok (.iconst 1, 1) := by decide +kernel
theorem dX4_isStopped_84 : decode cX4_isStopped 84 = .ok (.goto 4, 3) := by decide +kernel
theorem dX4_isStopped_87 : decode cX4_isStopped 87 = .ok (.iconst 0, 1) := by decide +kernel
theorem dX4_isStopped_88 : decode cX4_isStopped 88 = .ok (.ireturn, 1) := by decide +kernel
theorem dX4_isStopped_89 : decode cX4_isStopped 89 = .ok (.iconst 0, 1) := by decide +kernel
theorem dX4_isStopped_90 : decode cX4_isStopped 90 = .ok (.ireturn, 1) := by decide +kernel
theorem dX4_isStopped_91 : decode cX4_isStopped 91 = .ok (.iload_n 1, 1) := by decide +kernel
theorem dX4_isStopped_92 : decode cX4_isStopped 92 = .ok (.ifCond .ne 12, 3) := by decide +kernel
theorem dX4_isStopped_95 : decode cX4_isStopped 95 = .ok (.aload_n 0, 1) := by decide +kernel
theorem dX4_isStopped_96 : decode cX4_isStopped 96 = .ok (.getfield 44, 3) := by decide +kernel
theorem dX4_isStopped_99 : decode cX4_isStopped 99 = .ok (.bipush 30, 2) := by decide +kernel
theorem dX4_isStopped_101 : decode cX4_isStopped 101 = .ok (.if_icmp .le 7, 3) := by decide +kernel
theorem dX4_isStopped_104 : decode cX4_isStopped 104 = .ok (.iconst 1, 1) := by decide +kernel
theorem dX4_isStopped_105 : decode cX4_isStopped 105 = .ok (.goto 4, 3) := by decide +kernel
theorem dX4_isStopped_108 : decode cX4_isStopped 108 = .ok (.iconst 0, 1) := by decide +kernel
theorem dX4_isStopped_109 : decode cX4_isStopped 109 = .ok (.ireturn, 1) := by decide +kernel
theorem dX4_isStopped_110 : decode cX4_isStopped 110 = .ok (.aload_n 0, 1) := by decide +kernel
theorem dX4_isStopped_111 : decode cX4_isStopped 111 = .ok (.getfield 44, 3) := by decide +kernel
theorem dX4_isStopped_114 : decode cX4_isStopped 114 = .ok (.ifCond .le 7, 3) := by decide +kernel
theorem dX4_isStopped_117 : decode cX4_isStopped 117 = .ok (.iconst 1, 1) := by decide +kernel
theorem dX4_isStopped_118 : decode cX4_isStopped 118 = .ok (.goto 4, 3) := by decide +kernel
theorem dX4_isStopped_121 : decode cX4_isStopped 121 = .ok (.iconst 0, 1) := by decide +kernel
theorem dX4_isStopped_122 : decode cX4_isStopped 122 = .ok (.ireturn, 1) := by decide +kernel
theorem dX4_isStopped_123 : decode cX4_isStopped 123 = .ok (.iload_n 1, 1) := by decide +kernel
theorem dX4_isStopped_124 : decode cX4_isStopped 124 = .ok (.ireturn, 1) := by decide +kernel
theorem dX4_isInSocks_0 : decode cX4_isInSocks 0 = .ok (.aload_n 0, 1) := by decide +kernel
theorem dX4_isInSocks_1 : decode cX4_isInSocks 1 = .ok (.getfield 37, 3) := by decide +kernel
theorem dX4_isInSocks_4 : decode cX4_isInSocks 4 = .ok (.aload_n 0, 1) := by decide +kernel
theorem dX4_isInSocks_5 : decode cX4_isInSocks 5 = .ok (.invokevirtual 65, 3) := by decide +kernel
theorem dX4_isInSocks_8 : decode cX4_isInSocks 8 = .ok (.if_icmp .lt 7, 3) := by decide +kernel
theorem dX4_isInSocks_11 : decode cX4_isInSocks 11 = .ok (.iconst 1, 1) := by decide +kernel
theorem dX4_isInSocks_12 : decode cX4_isInSocks 12 = .ok (.goto 4, 3) := by decide +kernel
theorem dX4_isInSocks_15 : decode cX4_isInSocks 15 = .ok (.iconst 0, 1) := by decide +kernel
theorem dX4_isInSocks_16 : decode cX4_isInSocks 16 = .ok (.ireturn, 1) := by decide +kernel
theorem dX4_passDay_0 : decode cX4_passDay 0 = .ok (.aload_n 0, 1) := by decide +kernel
theorem dX4_passDay_1 : decode cX4_passDay 1 = .ok (.invokevirtual 65, 3) := by decide +kernel
theorem dX4_passDay_4 : decode cX4_passDay 4 = .ok (.istore_n 1, 1) := by decide +kernel
theorem dX4_passDay_5 : decode cX4_passDay 5 = .ok (.aload_n 0, 1) := by decide +kernel
theorem dX4_passDay_6 : decode cX4_passDay 6 = .ok (.getfield 37, 3) := by decide +kernel
theorem dX4_passDay_9 : decode cX4_passDay 9 = .ok (.iload_n 1, 1) := by decide +kernel
theorem dX4_passDay_10 : decode cX4_passDay 10 = .ok (.if_icmp .ge 14, 3) := by decide +kernel
theorem dX4_passDay_13 : decode cX4_passDay 13 = .ok (.aload_n 0, 1) := by decide +kernel
theorem dX4_passDay_14 : decode cX4_passDay 14 = .ok (.invokevirtual 69, 3) := by decide +kernel
theorem dX4_passDay_17 : decode cX4_passDay 17 = .ok (.ifCond .ne 7, 3) := by decide +kernel
theorem dX4_passDay_20 : decode cX4_passDay 20 = .ok (.iconst 1, 1) := by decide +kernel
theorem dX4_passDay_21 : decode cX4_passDay 21 = .ok (.goto 4, 3) := by decide +kernel
theorem dX4_passDay_24 : decode cX4_passDay 24 = .ok (.iconst 0, 1) := by decide +kernel
theorem dX4_passDay_25 : decode cX4_passDay 25 = .ok (.istore_n 2, 1) := by decide +kernel
theorem dX4_passDay_26 : decode cX4_passDay 26 = .ok (.iload_n 2, 1) := by decide +kernel
theorem dX4_passDay_27 : decode cX4_passDay 27 = .ok (.ifCond .eq 49, 3) := by decide +kernel
theorem dX4_passDay_30 : decode cX4_passDay 30 = .ok (.aload_n 0, 1) := by decide +kernel
theorem dX4_passDay_31 : decode cX4_passDay 31 = .ok (.invokevirtual 73, 3) := by decide +kernel
theorem dX4_passDay_34 : decode cX4_passDay 34 = .ok (.iload_n 1, 1) := by decide +kernel
theorem dX4_passDay_35 : decode cX4_passDay 35 = .ok (.aload_n 0, 1) := by decide +kernel
theorem dX4_passDay_36 : decode cX4_passDay 36 = .ok (.getfield 37, 3) := by decide +kernel
theorem dX4_passDay_39 : decode cX4_passDay 39 = .ok (.isub, 1) := by decide +kernel
theorem dX4_passDay_40 : decode cX4_passDay 40 = .ok (.invokestatic 76, 3) := by decide +kernel
theorem dX4_passDay_43 : decode cX4_passDay 43 = .ok (.istore_n 3, 1) := by decide +kernel
theorem dX4_passDay_44 : decode cX4_passDay 44 = .ok (.aload_n 0, 1) := by decide +kernel
theorem dX4_passDay_45 : decode cX4_passDay 45 = .ok (.sipush 999, 3) := by decide +kernel
theorem dX4_passDay_48 : decode cX4_passDay 48 = .ok (.aload_n 0, 1) := by decide +kernel
theorem dX4_passDay_49 : decode cX4_passDay 49 = .ok (.getfield 33, 3) := by decide +kernel
theorem dX4_passDay_52 : decode cX4_passDay 52 = .ok (.iload_n 3, 1) := by decide +kernel
theorem dX4_passDay_53 : decode cX4_passDay 53 = .ok (.iadd, 1) := by decide +kernel
theorem dX4_passDay_54 : decode cX4_passDay 54 = .ok (.invokestatic 76, 3) := by decide +kernel
theorem dX4_passDay_57 : decode cX4_passDay 57 = .ok (.putfield 33, 3) := by decide +kernel
theorem dX4_passDay_60 : decode cX4_passDay 60 = .ok (.aload_n 0, 1) := by decide +kernel
theorem dX4_passDay_61 : decode cX4_passDay 61 = .ok (.sipush 9999, 3) := by decide +kernel
theorem dX4_passDay_64 : decode cX4_passDay 64 = .ok (.aload_n 0, 1) := by decide +kernel
theorem dX4_passDay_65 : decode cX4_passDay 65 = .ok (.getfield 37, 3) := by decide +kernel
theorem dX4_passDay_68 : decode cX4_passDay 68 = .ok (.iload_n 3, 1) := by decide +kernel
theorem dX4_passDay_69 : decode cX4_passDay 69 = .ok (.iadd, 1) := by decide +kernel
theorem dX4_passDay_70 : decode cX4_passDay 70 = .ok (.invokestatic 76, 3) := by decide +kernel
theorem dX4_passDay_73 : decode cX4_passDay 73 = .ok (.putfield 37, 3) := by decide +kernel
theorem dX4_passDay_76 : decode cX4_passDay 76 = .ok (.aload_n 0, 1) := by decide +kernel
theorem dX4_passDay_77 : decode cX4_passDay 77 = .ok (.dup, 1) := by decide +kernel
theorem dX4_passDay_78 : decode cX4_passDay 78 = .ok (.getfield 38, 3) := by decide +kernel
theorem dX4_passDay_81 : decode cX4_passDay 81 = .ok (.iconst 1, 1) := by decide +kernel
theorem dX4_passDay_82 : decode cX4_passDay 82 = .ok (.iadd, 1) := by decide +kernel
theorem dX4_passDay_83 : decode cX4_passDay 83 = .ok (.putfield 38, 3) := by decide +kernel
theorem dX4_passDay_86 : decode cX4_passDay 86 = .ok (.iload_n 2, 1) := by decide +kernel
theorem dX4_passDay_87 : decode cX4_passDay 87 = .ok (.ireturn, 1) := by decide +kernel
theorem dX4_stepBehind_0 : decode cX4_stepBehind 0 = .ok (.iconst 0, 1) := by decide +kernel
theorem dX4_stepBehind_1 : decode cX4_stepBehind 1 = .ok (.istore_n 2, 1) := by decide +kernel
theorem dX4_stepBehind_2 : decode cX4_stepBehind 2 = .ok (.iload_n 2, 1) := by decide +kernel
theorem dX4_stepBehind_3 : decode cX4_stepBehind 3 = .ok (.iload_n 1, 1) := by decide +kernel
theorem dX4_stepBehind_4 : decode cX4_stepBehind 4 = .ok (.if_icmp .ge 31, 3) := by decide +kernel
theorem dX4_stepBehind_7 : decode cX4_stepBehind 7 = .ok (.aload_n 0, 1) := by decide +kernel
theorem dX4_stepBehind_8 : decode cX4_stepBehind 8 = .ok (.invokevirtual 81, 3) := by decide +kernel
theorem dX4_stepBehind_11 : decode cX4_stepBehind 11 = .ok (.ifCond .ne 18, 3) := by decide +kernel
theorem dX4_stepBehind_14 : decode cX4_stepBehind 14 = .ok (.aload_n 0, 1) := by decide +kernel
theorem dX4_stepBehind_15 : decode cX4_stepBehind 15 = .ok (.getfield 15, 3) := by decide +kernel
theorem dX4_stepBehind_18 : decode cX4_stepBehind 18 = .ok (.getfield 84, 3) := by decide +kernel
theorem dX4_stepBehind_21 : decode cX4_stepBehind 21 = .ok (.ifCond .ne 8, 3) := by decide +kernel
theorem dX4_stepBehind_24 : decode cX4_stepBehind 24 = .ok (.aload_n 0, 1) := by decide +kernel
theorem dX4_stepBehind_25 : decode cX4_stepBehind 25 = .ok (.getfield 33, 3) := by decide +kernel
theorem dX4_stepBehind_28 : decode cX4_stepBehind 28 = .ok (.ireturn, 1) := by decide +kernel
theorem dX4_stepBehind_29 : decode cX4_stepBehind 29 = .ok (.iinc 2 1, 3) := by decide +kernel
theorem dX4_stepBehind_32 : decode cX4_stepBehind 32 = .ok (.goto (-30), 3) := by decide +kernel
theorem dX4_stepBehind_35 : decode cX4_stepBehind 35 = .ok (.aload_n 0, 1) := by decide +kernel
theorem dX4_stepBehind_36 : decode cX4_stepBehind 36 = .ok (.getfield 33, 3) := by decide +kernel
theorem dX4_stepBehind_39 : decode cX4_stepBehind 39 = .ok (.ireturn, 1) := by decide +kernel
theorem dX4_wornBehind_0 : decode cX4_wornBehind 0 = .ok (.iconst 0, 1) := by decide +kernel
theorem dX4_wornBehind_1 : decode cX4_wornBehind 1 = .ok (.istore_n 2, 1) := by decide +kernel
theorem dX4_wornBehind_2 : decode cX4_wornBehind 2 = .ok (.iload_n 2, 1) := by decide +kernel
theorem dX4_wornBehind_3 : decode cX4_wornBehind 3 = .ok (.iload_n 1, 1) := by decide +kernel
theorem dX4_wornBehind_4 : decode cX4_wornBehind 4 = .ok (.if_icmp .ge 14, 3) := by decide +kernel
theorem dX4_wornBehind_7 : decode cX4_wornBehind 7 = .ok (.aload_n 0, 1) := by decide +kernel
theorem dX4_wornBehind_8 : decode cX4_wornBehind 8 = .ok (.invokevirtual 81, 3) := by decide +kernel
theorem dX4_wornBehind_11 : decode cX4_wornBehind 11 = .ok (.pop, 1) := by decide +kernel
theorem dX4_wornBehind_12 : decode cX4_wornBehind 12 = .ok (.iinc 2 1, 3) := by decide +kernel
theorem dX4_wornBehind_15 : decode cX4_wornBehind 15 = .ok (.goto (-13), 3) := by decide +kernel
theorem dX4_wornBehind_18 : decode cX4_wornBehind 18 = .ok (.aload_n 0, 1) := by decide +kernel
theorem dX4_wornBehind_19 : decode cX4_wornBehind 19 = .ok (.getfield 37, 3) := by decide +kernel
theorem dX4_wornBehind_22 : decode cX4_wornBehind 22 = .ok (.ireturn, 1) := by decide +kernel
theorem dX4_firstInSocks_0 : decode cX4_firstInSocks 0 = .ok (.iconst 0, 1) := by decide +kernel
theorem dX4_firstInSocks_1 : decode cX4_firstInSocks 1 = .ok (.istore_n 2, 1) := by decide +kernel
theorem dX4_firstInSocks_2 : decode cX4_firstInSocks 2 = .ok (.iload_n 2, 1) := by decide +kernel
theorem dX4_firstInSocks_3 : decode cX4_firstInSocks 3 = .ok (.iload_n 1, 1) := by decide +kernel
theorem dX4_firstInSocks_4 : decode cX4_firstInSocks 4 = .ok (.if_icmp .ge 23, 3) := by decide +kernel
theorem dX4_firstInSocks_7 : decode cX4_firstInSocks 7 = .ok (.aload_n 0, 1) := by decide +kernel
theorem dX4_firstInSocks_8 : decode cX4_firstInSocks 8 = .ok (.invokevirtual 81, 3) := by decide +kernel
theorem dX4_firstInSocks_11 : decode cX4_firstInSocks 11 = .ok (.pop, 1) := by decide +kernel
theorem dX4_firstInSocks_12 : decode cX4_firstInSocks 12 = .ok (.aload_n 0, 1) := by decide +kernel
theorem dX4_firstInSocks_13 : decode cX4_firstInSocks 13 = .ok (.invokevirtual 90, 3) := by decide +kernel
theorem dX4_firstInSocks_16 : decode cX4_firstInSocks 16 = .ok (.ifCond .eq 5, 3) := by decide +kernel
theorem dX4_firstInSocks_19 : decode cX4_firstInSocks 19 = .ok (.iload_n 2, 1) := by decide +kernel
theorem dX4_firstInSocks_20 : decode cX4_firstInSocks 20 = .ok (.ireturn, 1) := by decide +kernel
theorem dX4_firstInSocks_21 : decode cX4_firstInSocks 21 = .ok (.iinc 2 1, 3) := by decide +kernel
theorem dX4_firstInSocks_24 : decode cX4_firstInSocks 24 = .ok (.goto (-22), 3) := by decide +kernel
theorem dX4_firstInSocks_27 : decode cX4_firstInSocks 27 = .ok (.iconst (-1), 1) := by decide +kernel
theorem dX4_firstInSocks_28 : decode cX4_firstInSocks 28 = .ok (.ireturn, 1) := by decide +kernel
theorem dX4_firstStay_0 : decode cX4_firstStay 0 = .ok (.iconst 0, 1) := by decide +kernel
theorem dX4_firstStay_1 : decode cX4_firstStay 1 = .ok (.istore_n 2, 1) := by decide +kernel
theorem dX4_firstStay_2 : decode cX4_firstStay 2 = .ok (.iload_n 2, 1) := by decide +kernel
theorem dX4_firstStay_3 : decode cX4_firstStay 3 = .ok (.iload_n 1, 1) := by decide +kernel
theorem dX4_firstStay_4 : decode cX4_firstStay 4 = .ok (.if_icmp .ge 18, 3) := by decide +kernel
theorem dX4_firstStay_7 : decode cX4_firstStay 7 = .ok (.aload_n 0, 1) := by decide +kernel
theorem dX4_firstStay_8 : decode cX4_firstStay 8 = .ok (.invokevirtual 81, 3) := by decide +kernel
theorem dX4_firstStay_11 : decode cX4_firstStay 11 = .ok (.ifCond .ne 5, 3) := by decide +kernel
theorem dX4_firstStay_14 : decode cX4_firstStay 14 = .ok (.iload_n 2, 1) := by decide +kernel
theorem dX4_firstStay_15 : decode cX4_firstStay 15 = .ok (.ireturn, 1) := by decide +kernel
theorem dX4_firstStay_16 : decode cX4_firstStay 16 = .ok (.iinc 2 1, 3) := by decide +kernel
theorem dX4_firstStay_19 : decode cX4_firstStay 19 = .ok (.goto (-17), 3) := by decide +kernel
theorem dX4_firstStay_22 : decode cX4_firstStay 22 = .ok (.iconst (-1), 1) := by decide +kernel
theorem dX4_firstStay_23 : decode cX4_firstStay 23 = .ok (.ireturn, 1) := by decide +kernel
theorem dX4_isHeldUp_0 : decode cX4_isHeldUp 0 = .ok (.iconst 0, 1) := by decide +kernel
theorem dX4_isHeldUp_1 : decode cX4_isHeldUp 1 = .ok (.istore_n 2, 1) := by decide +kernel
theorem dX4_isHeldUp_2 : decode cX4_isHeldUp 2 = .ok (.iload_n 2, 1) := by decide +kernel
theorem dX4_isHeldUp_3 : decode cX4_isHeldUp 3 = .ok (.iload_n 1, 1) := by decide +kernel
theorem dX4_isHeldUp_4 : decode cX4_isHeldUp 4 = .ok (.if_icmp .ge 25, 3) := by decide +kernel
theorem dX4_isHeldUp_7 : decode cX4_isHeldUp 7 = .ok (.aload_n 0, 1) := by decide +kernel
theorem dX4_isHeldUp_8 : decode cX4_isHeldUp 8 = .ok (.invokevirtual 81, 3) := by decide +kernel
theorem dX4_isHeldUp_11 : decode cX4_isHeldUp 11 = .ok (.ifCond .eq 10, 3) := by decide +kernel
theorem dX4_isHeldUp_14 : decode cX4_isHeldUp 14 = .ok (.aload_n 0, 1) := by decide +kernel
theorem dX4_isHeldUp_15 : decode cX4_isHeldUp 15 = .ok (.invokevirtual 90, 3) := by decide +kernel
theorem dX4_isHeldUp_18 : decode cX4_isHeldUp 18 = .ok (.ifCond .eq 5, 3) := by decide +kernel
theorem dX4_isHeldUp_21 : decode cX4_isHeldUp 21 = .ok (.iconst 1, 1) := by decide +kernel
theorem dX4_isHeldUp_22 : decode cX4_isHeldUp 22 = .ok (.ireturn, 1) := by decide +kernel
theorem dX4_isHeldUp_23 : decode cX4_isHeldUp 23 = .ok (.iinc 2 1, 3) := by decide +kernel
theorem dX4_isHeldUp_26 : decode cX4_isHeldUp 26 = .ok (.goto (-24), 3) := by decide +kernel
theorem dX4_isHeldUp_29 : decode cX4_isHeldUp 29 = .ok (.iconst 0, 1) := by decide +kernel
theorem dX4_isHeldUp_30 : decode cX4_isHeldUp 30 = .ok (.ireturn, 1) := by decide +kernel
theorem dX4_daysTill_0 : decode cX4_daysTill 0 = .ok (.iconst 0, 1) := by decide +kernel
theorem dX4_daysTill_1 : decode cX4_daysTill 1 = .ok (.istore_n 2, 1) := by decide +kernel
theorem dX4_daysTill_2 : decode cX4_daysTill 2 = .ok (.iload_n 2, 1) := by decide +kernel
theorem dX4_daysTill_3 : decode cX4_daysTill 3 = .ok (.bipush 40, 2) := by decide +kernel
theorem dX4_daysTill_5 : decode cX4_daysTill 5 = .ok (.if_icmp .gt 24, 3) := by decide +kernel
theorem dX4_daysTill_8 : decode cX4_daysTill 8 = .ok (.aload_n 0, 1) := by decide +kernel
theorem dX4_daysTill_9 : decode cX4_daysTill 9 = .ok (.getfield 33, 3) := by decide +kernel
theorem dX4_daysTill_12 : decode cX4_daysTill 12 = .ok (.iload_n 1, 1) := by decide +kernel
theorem dX4_daysTill_13 : decode cX4_daysTill 13 = .ok (.if_icmp .lt 5, 3) := by decide +kernel
theorem dX4_daysTill_16 : decode cX4_daysTill 16 = .ok (.iload_n 2, 1) := by decide +kernel
theorem dX4_daysTill_17 : decode cX4_daysTill 17 = .ok (.ireturn, 1) := by decide +kernel
theorem dX4_daysTill_18 : decode cX4_daysTill 18 = .ok (.aload_n 0, 1) := by decide +kernel
theorem dX4_daysTill_19 : decode cX4_daysTill 19 = .ok (.invokevirtual 81, 3) := by decide +kernel
theorem dX4_daysTill_22 : decode cX4_daysTill 22 = .ok (.pop, 1) := by decide +kernel
theorem dX4_daysTill_23 : decode cX4_daysTill 23 = .ok (.iinc 2 1, 3) := by decide +kernel
theorem dX4_daysTill_26 : decode cX4_daysTill 26 = .ok (.goto (-24), 3) := by decide +kernel
theorem dX4_daysTill_29 : decode cX4_daysTill 29 = .ok (.iconst (-1), 1) := by decide +kernel
theorem dX4_daysTill_30 : decode cX4_daysTill 30 = .ok (.ireturn, 1) := by decide +kernel
theorem dX4_firstOtherwise_0 : decode cX4_firstOtherwise 0 = .ok (.aload_n 1, 1) := by decide +kernel
theorem dX4_firstOtherwise_1 : decode cX4_firstOtherwise 1 = .ok (.getfield 93, 3) := by decide +kernel
theorem dX4_firstOtherwise_4 : decode cX4_firstOtherwise 4 = .ok (.aload_n 1, 1) := by decide +kernel
theorem dX4_firstOtherwise_5 : decode cX4_firstOtherwise 5 = .ok (.getfield 98, 3) := by decide +kernel
theorem dX4_firstOtherwise_8 : decode cX4_firstOtherwise 8 = .ok (.arraylength, 1) := by decide +kernel
theorem dX4_firstOtherwise_9 : decode cX4_firstOtherwise 9 = .ok (.invokestatic 76, 3) := by decide +kernel
theorem dX4_firstOtherwise_12 : decode cX4_firstOtherwise 12 = .ok (.istore_n 2, 1) := by decide +kernel
theorem dX4_firstOtherwise_13 : decode cX4_firstOtherwise 13 = .ok (.iconst 0, 1) := by decide +kernel
theorem dX4_firstOtherwise_14 : decode cX4_firstOtherwise 14 = .ok (.istore_n 3, 1) := by decide +kernel
theorem dX4_firstOtherwise_15 : decode cX4_firstOtherwise 15 = .ok (.iload_n 3, 1) := by decide +kernel
theorem dX4_firstOtherwise_16 : decode cX4_firstOtherwise 16 = .ok (.iload_n 2, 1) := by decide +kernel
theorem dX4_firstOtherwise_17 : decode cX4_firstOtherwise 17 = .ok (.if_icmp .ge 29, 3) := by decide +kernel
theorem dX4_firstOtherwise_20 : decode cX4_firstOtherwise 20 = .ok (.aload_n 0, 1) := by decide +kernel
theorem dX4_firstOtherwise_21 : decode cX4_firstOtherwise 21 = .ok (.invokevirtual 81, 3) := by decide +kernel
theorem dX4_firstOtherwise_24 : decode cX4_firstOtherwise 24 = .ok (.pop, 1) := by decide +kernel
theorem dX4_firstOtherwise_25 : decode cX4_firstOtherwise 25 = .ok (.aload_n 0, 1) := by decide +kernel
theorem dX4_firstOtherwise_26 : decode cX4_firstOtherwise 26 = .ok (.getfield 33, 3) := by decide +kernel
theorem dX4_firstOtherwise_29 : decode cX4_firstOtherwise 29 = .ok (.aload_n 1, 1) := by decide +kernel
theorem dX4_firstOtherwise_30 : decode cX4_firstOtherwise 30 = .ok (.getfield 98, 3) := by decide +kernel
theorem dX4_firstOtherwise_33 : decode cX4_firstOtherwise 33 = .ok (.iload_n 3, 1) := by decide +kernel
theorem dX4_firstOtherwise_34 : decode cX4_firstOtherwise 34 = .ok (.iaload, 1) := by decide +kernel
theorem dX4_firstOtherwise_35 : decode cX4_firstOtherwise 35 = .ok (.if_icmp .eq 5, 3) := by decide +kernel
theorem dX4_firstOtherwise_38 : decode cX4_firstOtherwise 38 = .ok (.iload_n 3, 1) := by decide +kernel
theorem dX4_firstOtherwise_39 : decode cX4_firstOtherwise 39 = .ok (.ireturn, 1) := by decide +kernel
theorem dX4_firstOtherwise_40 : decode cX4_firstOtherwise 40 = .ok (.iinc 3 1, 3) := by decide +kernel
theorem dX4_firstOtherwise_43 : decode cX4_firstOtherwise 43 = .ok (.goto (-28), 3) := by decide +kernel
theorem dX4_firstOtherwise_46 : decode cX4_firstOtherwise 46 = .ok (.iconst (-1), 1) := by decide +kernel
theorem dX4_firstOtherwise_47 : decode cX4_firstOtherwise 47 = .ok (.ireturn, 1) := by decide +kernel
theorem dX4_valueOfPart_0 : decode cX4_valueOfPart 0 = .ok (.aload_n 0, 1) := by decide +kernel
theorem dX4_valueOfPart_1 : decode cX4_valueOfPart 1 = .ok (.getfield 15, 3) := by decide +kernel
theorem dX4_valueOfPart_4 : decode cX4_valueOfPart 4 = .ok (.getfield 101, 3) := by decide +kernel
theorem dX4_valueOfPart_7 : decode cX4_valueOfPart 7 = .ok (.astore_n 2, 1) := by decide +kernel
theorem dX4_valueOfPart_8 : decode cX4_valueOfPart 8 = .ok (.aload_n 0, 1) := by decide +kernel
theorem dX4_valueOfPart_9 : decode cX4_valueOfPart 9 = .ok (.getfield 15, 3) := by decide +kernel
theorem dX4_valueOfPart_12 : decode cX4_valueOfPart 12 = .ok (.iload_n 1, 1) := by decide +kernel
theorem dX4_valueOfPart_13 : decode cX4_valueOfPart 13 = .ok (.invokevirtual 104, 3) := by decide +kernel
theorem dX4_valueOfPart_16 : decode cX4_valueOfPart 16 = .ok (.aload_n 2, 1) := by decide +kernel
theorem dX4_valueOfPart_17 : decode cX4_valueOfPart 17 = .ok (.arraylength, 1) := by decide +kernel
theorem dX4_valueOfPart_18 : decode cX4_valueOfPart 18 = .ok (.invokestatic 76, 3) := by decide +kernel
theorem dX4_valueOfPart_21 : decode cX4_valueOfPart 21 = .ok (.istore_n 3, 1) := by decide +kernel
theorem dX4_valueOfPart_22 : decode cX4_valueOfPart 22 = .ok (.iconst 0, 1) := by decide +kernel
theorem dX4_valueOfPart_23 : decode cX4_valueOfPart 23 = .ok (.istore 4, 2) := by decide +kernel
theorem dX4_valueOfPart_25 : decode cX4_valueOfPart 25 = .ok (.aload_n 0, 1) := by decide +kernel
theorem dX4_valueOfPart_26 : decode cX4_valueOfPart 26 = .ok (.getfield 15, 3) := by decide +kernel
theorem dX4_valueOfPart_29 : decode cX4_valueOfPart 29 = .ok (.iload_n 1, 1) := by decide +kernel
theorem dX4_valueOfPart_30 : decode cX4_valueOfPart 30 = .ok (.invokevirtual 107, 3) := by decide +kernel
theorem dX4_valueOfPart_33 : decode cX4_valueOfPart 33 = .ok (.istore 5, 2) := by decide +kernel
theorem dX4_valueOfPart_35 : decode cX4_valueOfPart 35 = .ok (.iload 5, 2) := by decide +kernel
theorem dX4_valueOfPart_37 : decode cX4_valueOfPart 37 = .ok (.iload_n 3, 1) := by decide +kernel
theorem dX4_valueOfPart_38 : decode cX4_valueOfPart 38 = .ok (.if_icmp .ge 165, 3) := by decide +kernel
theorem dX4_valueOfPart_41 : decode cX4_valueOfPart 41 = .ok (.aload_n 2, 1) := by decide +kernel
theorem dX4_valueOfPart_42 : decode cX4_valueOfPart 42 = .ok (.iload 5, 2) := by decide +kernel
theorem dX4_valueOfPart_44 : decode cX4_valueOfPart 44 = .ok (.iaload, 1) := by decide +kernel
theorem dX4_valueOfPart_45 : decode cX4_valueOfPart 45 = .ok (.istore 6, 2) := by decide +kernel
theorem dX4_valueOfPart_47 : decode cX4_valueOfPart 47 = .ok (.iload 6, 2) := by decide +kernel
theorem dX4_valueOfPart_49 : decode cX4_valueOfPart 49 = .ok (.bipush 8, 2) := by decide +kernel
theorem dX4_valueOfPart_51 : decode cX4_valueOfPart 51 = .ok (.if_icmp .lt 52, 3) := by decide +kernel
theorem dX4_valueOfPart_54 : decode cX4_valueOfPart 54 = .ok (.iload 6, 2) := by decide +kernel
theorem dX4_valueOfPart_56 : decode cX4_valueOfPart 56 = .ok (.bipush 16, 2) := by decide +kernel
theorem dX4_valueOfPart_58 : decode cX4_valueOfPart 58 = .ok (.if_icmp .ge 45, 3) := by decide +kernel
theorem dX4_valueOfPart_61 : decode cX4_valueOfPart 61 = .ok (.iload 4, 2) := by decide +kernel
theorem dX4_valueOfPart_63 : decode cX4_valueOfPart 63 = .ok (.iconst 1, 1) := by decide +kernel
theorem dX4_valueOfPart_64 : decode cX4_valueOfPart 64 = .ok (.if_icmp .le 133, 3) := by decide +kernel
theorem dX4_valueOfPart_67 : decode cX4_valueOfPart 67 = .ok (.iinc 4 (-1), 3) := by decide +kernel
theorem dX4_valueOfPart_70 : decode cX4_valueOfPart 70 = .ok (.aload_n 0, 1) := by decide +kernel
theorem dX4_valueOfPart_71 : decode cX4_valueOfPart 71 = .ok (.getfield 11, 3) := by decide +kernel
theorem dX4_valueOfPart_74 : decode cX4_valueOfPart 74 = .ok (.iload 4, 2) := by decide +kernel
theorem dX4_valueOfPart_76 : decode cX4_valueOfPart 76 = .ok (.iconst 1, 1) := by decide +kernel
theorem dX4_valueOfPart_77 : decode cX4_valueOfPart 77 = .ok (.isub, 1) := by decide +kernel
theorem dX4_valueOfPart_78 : decode cX4_valueOfPart 78 = .ok (.iload 6, 2) := by decide +kernel
theorem dX4_valueOfPart_80 : decode cX4_valueOfPart 80 = .ok (.aload_n 0, 1) := by decide +kernel
theorem dX4_valueOfPart_81 : decode cX4_valueOfPart 81 = .ok (.getfield 11, 3) := by decide +kernel
theorem dX4_valueOfPart_84 : decode cX4_valueOfPart 84 = .ok (.iload 4, 2) := by decide +kernel
theorem dX4_valueOfPart_86 : decode cX4_valueOfPart 86 = .ok (.iconst 1, 1) := by decide +kernel
theorem dX4_valueOfPart_87 : decode cX4_valueOfPart 87 = .ok (.isub, 1) := by decide +kernel
theorem dX4_valueOfPart_88 : decode cX4_valueOfPart 88 = .ok (.iaload, 1) := by decide +kernel
theorem dX4_valueOfPart_89 : decode cX4_valueOfPart 89 = .ok (.aload_n 0, 1) := by decide +kernel
theorem dX4_valueOfPart_90 : decode cX4_valueOfPart 90 = .ok (.getfield 11, 3) := by decide +kernel
theorem dX4_valueOfPart_93 : decode cX4_valueOfPart 93 = .ok (.iload 4, 2) := by decide +kernel
theorem dX4_valueOfPart_95 : decode cX4_valueOfPart 95 = .ok (.iaload, 1) := by decide +kernel
theorem dX4_valueOfPart_96 : decode cX4_valueOfPart 96 = .ok (.invokestatic 110, 3) := by decide +kernel
theorem dX4_valueOfPart_99 : decode cX4_valueOfPart 99 = .ok (.iastore, 1) := by decide +kernel
theorem dX4_valueOfPart_100 : decode cX4_valueOfPart 100 = .ok (.goto 97, 3) := by decide +kernel
theorem dX4_valueOfPart_103 : decode cX4_valueOfPart 103 = .ok (.iload 6, 2) := by decide +kernel
theorem dX4_valueOfPart_105 : decode cX4_valueOfPart 105 = .ok (.bipush 6, 2) := by decide +kernel
theorem dX4_valueOfPart_107 : decode cX4_valueOfPart 107 = .ok (.if_icmp .eq 10, 3) := by decide +kernel
theorem dX4_valueOfPart_110 : decode cX4_valueOfPart 110 = .ok (.iload 6, 2) := by decide +kernel
theorem dX4_valueOfPart_112 : decode cX4_valueOfPart 112 = .ok (.bipush 7, 2) := by decide +kernel
theorem dX4_valueOfPart_114 : decode cX4_valueOfPart 114 = .ok (.if_icmp .ne 60, 3) := by decide +kernel
theorem dX4_valueOfPart_117 : decode cX4_valueOfPart 117 = .ok (.iload 4, 2) := by decide +kernel
theorem dX4_valueOfPart_119 : decode cX4_valueOfPart 119 = .ok (.ifCond .le 78, 3) := by decide +kernel
theorem dX4_valueOfPart_122 : decode cX4_valueOfPart 122 = .ok (.aload_n 0, 1) := by decide +kernel
theorem dX4_valueOfPart_123 : decode cX4_valueOfPart 123 = .ok (.getfield 11, 3) := by decide +kernel
theorem dX4_valueOfPart_126 : decode cX4_valueOfPart 126 = .ok (.iload 4, 2) := by decide +kernel
theorem dX4_valueOfPart_128 : decode cX4_valueOfPart 128 = .ok (.iconst 1, 1) := by decide +kernel
theorem dX4_valueOfPart_129 : decode cX4_valueOfPart 129 = .ok (.isub, 1) := by decide +kernel
theorem dX4_valueOfPart_130 : decode cX4_valueOfPart 130 = .ok (.iload 6, 2) := by decide +kernel
theorem dX4_valueOfPart_132 : decode cX4_valueOfPart 132 = .ok (.bipush 6, 2) := by decide +kernel
theorem dX4_valueOfPart_134 : decode cX4_valueOfPart 134 = .ok (.if_icmp .ne 26, 3) := by decide +kernel
theorem dX4_valueOfPart_137 : decode cX4_valueOfPart 137 = .ok (.aload_n 0, 1) := by decide +kernel
theorem dX4_valueOfPart_138 : decode cX4_valueOfPart 138 = .ok (.getfield 11, 3) := by decide +kernel
theorem dX4_valueOfPart_141 : decode cX4_valueOfPart 141 = .ok (.iload 4, 2) := by decide +kernel
theorem dX4_valueOfPart_143 : decode cX4_valueOfPart 143 = .ok (.iconst 1, 1) := by decide +kernel
theorem dX4_valueOfPart_144 : decode cX4_valueOfPart 144 = .ok (.isub, 1) := by decide +kernel
theorem dX4_valueOfPart_145 : decode cX4_valueOfPart 145 = .ok (.iaload, 1) := by decide +kernel
theorem dX4_valueOfPart_146 : decode cX4_valueOfPart 146 = .ok (.ifCond .ne 7, 3) := by decide +kernel
theorem dX4_valueOfPart_149 : decode cX4_valueOfPart 149 = .ok (.iconst 1, 1) := by decide +kernel
theorem dX4_valueOfPart_150 : decode cX4_valueOfPart 150 = .ok (.goto 4, 3) := by decide +kernel
theorem dX4_valueOfPart_153 : decode cX4_valueOfPart 153 = .ok (.iconst 0, 1) := by decide +kernel
theorem dX4_valueOfPart_154 : decode cX4_valueOfPart 154 = .ok (.invokestatic 114, 3) := by decide +kernel
theorem dX4_valueOfPart_157 : decode cX4_valueOfPart 157 = .ok (.goto 13, 3) := by decide +kernel
theorem dX4_valueOfPart_160 : decode cX4_valueOfPart 160 = .ok (.aload_n 0, 1) := by decide +kernel
theorem dX4_valueOfPart_161 : decode cX4_valueOfPart 161 = .ok (.getfield 11, 3) := by decide +kernel
theorem dX4_valueOfPart_164 : decode cX4_valueOfPart 164 = .ok (.iload 4, 2) := by decide +kernel
theorem dX4_valueOfPart_166 : decode cX4_valueOfPart 166 = .ok (.iconst 1, 1) := by decide +kernel
theorem dX4_valueOfPart_167 : decode cX4_valueOfPart 167 = .ok (.isub, 1) := by decide +kernel
theorem dX4_valueOfPart_168 : decode cX4_valueOfPart 168 = .ok (.iaload, 1) := by decide +kernel
theorem dX4_valueOfPart_169 : decode cX4_valueOfPart 169 = .ok (.ineg, 1) := by decide +kernel
theorem dX4_valueOfPart_170 : decode cX4_valueOfPart 170 = .ok (.iastore, 1) := by decide +kernel
theorem dX4_valueOfPart_171 : decode cX4_valueOfPart 171 = .ok (.goto 26, 3) := by decide +kernel
theorem dX4_valueOfPart_174 : decode cX4_valueOfPart 174 = .ok (.iload 4, 2) := by decide +kernel
theorem dX4_valueOfPart_176 : decode cX4_valueOfPart 176 = .ok (.bipush 31, 2) := by decide +kernel
theorem dX4_valueOfPart_178 : decode cX4_valueOfPart 178 = .ok (.if_icmp .ge 19, 3) := by decide +kernel
theorem dX4_valueOfPart_181 : decode cX4_valueOfPart 181 = .ok (.aload_n 0, 1) := by decide +kernel
theorem dX4_valueOfPart_182 : decode cX4_valueOfPart 182 = .ok (.getfield 11, 3) := by decide +kernel
theorem dX4_valueOfPart_185 : decode cX4_valueOfPart 185 = .ok (.iload 4, 2) := by decide +kernel
theorem dX4_valueOfPart_187 : decode cX4_valueOfPart 187 = .ok (.aload_n 0, 1) := by decide +kernel
theorem dX4_valueOfPart_188 : decode cX4_valueOfPart 188 = .ok (.iload 6, 2) := by decide +kernel
theorem dX4_valueOfPart_190 : decode cX4_valueOfPart 190 = .ok (.invokevirtual 118, 3) := by decide +kernel
theorem dX4_valueOfPart_193 : decode cX4_valueOfPart 193 = .ok (.iastore, 1) := by decide +kernel
theorem dX4_valueOfPart_194 : decode cX4_valueOfPart 194 = .ok (.iinc 4 1, 3) := by decide +kernel
theorem dX4_valueOfPart_197 : decode cX4_valueOfPart 197 = .ok (.iinc 5 1, 3) := by decide +kernel
theorem dX4_valueOfPart_200 : decode cX4_valueOfPart 200 = .ok (.goto (-165), 3) := by decide +kernel
theorem dX4_valueOfPart_203 : decode cX4_valueOfPart 203 = .ok (.aload_n 0, 1) := by decide +kernel
theorem dX4_valueOfPart_204 : decode cX4_valueOfPart 204 = .ok (.getfield 11, 3) := by decide +kernel
theorem dX4_valueOfPart_207 : decode cX4_valueOfPart 207 = .ok (.iconst 0, 1) := by decide +kernel
theorem dX4_valueOfPart_208 : decode cX4_valueOfPart 208 = .ok (.iaload, 1) := by decide +kernel
theorem dX4_valueOfPart_209 : decode cX4_valueOfPart 209 = .ok (.ireturn, 1) := by decide +kernel
theorem dX4_ofNone_0 : decode cX4_ofNone 0 = .ok (.iload_n 1, 1) := by decide +kernel
theorem dX4_ofNone_1 : decode cX4_ofNone 1 = .ok (.tableswitch 69 0 5 #[39, 44, 49, 54, 59, 64], 39) := by decide +kernel
theorem dX4_ofNone_40 : decode cX4_ofNone 40 = .ok (.aload_n 0, 1) := by decide +kernel
theorem dX4_ofNone_41 : decode cX4_ofNone 41 = .ok (.getfield 41, 3) := by decide +kernel
theorem dX4_ofNone_44 : decode cX4_ofNone 44 = .ok (.ireturn, 1) := by decide +kernel
theorem dX4_ofNone_45 : decode cX4_ofNone 45 = .ok (.aload_n 0, 1) := by decide +kernel
theorem dX4_ofNone_46 : decode cX4_ofNone 46 = .ok (.getfield 44, 3) := by decide +kernel
theorem dX4_ofNone_49 : decode cX4_ofNone 49 = .ok (.ireturn, 1) := by decide +kernel
theorem dX4_ofNone_50 : decode cX4_ofNone 50 = .ok (.aload_n 0, 1) := by decide +kernel
theorem dX4_ofNone_51 : decode cX4_ofNone 51 = .ok (.getfield 33, 3) := by decide +kernel
theorem dX4_ofNone_54 : decode cX4_ofNone 54 = .ok (.ireturn, 1) := by decide +kernel
theorem dX4_ofNone_55 : decode cX4_ofNone 55 = .ok (.aload_n 0, 1) := by decide +kernel
theorem dX4_ofNone_56 : decode cX4_ofNone 56 = .ok (.getfield 29, 3) := by decide +kernel
theorem dX4_ofNone_59 : decode cX4_ofNone 59 = .ok (.ireturn, 1) := by decide +kernel
theorem dX4_ofNone_60 : decode cX4_ofNone 60 = .ok (.aload_n 0, 1) := by decide +kernel
theorem dX4_ofNone_61 : decode cX4_ofNone 61 = .ok (.getfield 38, 3) := by decide +kernel
theorem dX4_ofNone_64 : decode cX4_ofNone 64 = .ok (.ireturn, 1) := by decide +kernel
theorem dX4_ofNone_65 : decode cX4_ofNone 65 = .ok (.aload_n 0, 1) := by decide +kernel
theorem dX4_ofNone_66 : decode cX4_ofNone 66 = .ok (.getfield 37, 3) := by decide +kernel
theorem dX4_ofNone_69 : decode cX4_ofNone 69 = .ok (.ireturn, 1) := by decide +kernel
theorem dX4_ofNone_70 : decode cX4_ofNone 70 = .ok (.iload_n 1, 1) := by decide +kernel
theorem dX4_ofNone_71 : decode cX4_ofNone 71 = .ok (.bipush 16, 2) := by decide +kernel
theorem dX4_ofNone_73 : decode cX4_ofNone 73 = .ok (.isub, 1) := by decide +kernel
theorem dX4_ofNone_74 : decode cX4_ofNone 74 = .ok (.ireturn, 1) := by decide +kernel
theorem dX4_ofTwo_0 : decode cX4_ofTwo 0 = .ok (.iload_n 0, 1) := by decide +kernel
theorem dX4_ofTwo_1 : decode cX4_ofTwo 1 = .ok (.tableswitch 87 8 13 #[39, 43, 47, 51, 62, 73], 39) := by decide +kernel
theorem dX4_ofTwo_40 : decode cX4_ofTwo 40 = .ok (.iload_n 1, 1) := by decide +kernel
theorem dX4_ofTwo_41 : decode cX4_ofTwo 41 = .ok (.iload_n 2, 1) := by decide +kernel
theorem dX4_ofTwo_42 : decode cX4_ofTwo 42 = .ok (.iadd, 1) := by decide +kernel
theorem dX4_ofTwo_43 : decode cX4_ofTwo 43 = .ok (.ireturn, 1) := by decide +kernel
theorem dX4_ofTwo_44 : decode cX4_ofTwo 44 = .ok (.iload_n 1, 1) := by decide +kernel
theorem dX4_ofTwo_45 : decode cX4_ofTwo 45 = .ok (.iload_n 2, 1) := by decide +kernel
theorem dX4_ofTwo_46 : decode cX4_ofTwo 46 = .ok (.isub, 1) := by decide +kernel
theorem dX4_ofTwo_47 : decode cX4_ofTwo 47 = .ok (.ireturn, 1) := by decide +kernel
theorem dX4_ofTwo_48 : decode cX4_ofTwo 48 = .ok (.iload_n 1, 1) := by decide +kernel
theorem dX4_ofTwo_49 : decode cX4_ofTwo 49 = .ok (.iload_n 2, 1) := by decide +kernel
theorem dX4_ofTwo_50 : decode cX4_ofTwo 50 = .ok (.imul, 1) := by decide +kernel
theorem dX4_ofTwo_51 : decode cX4_ofTwo 51 = .ok (.ireturn, 1) := by decide +kernel
theorem dX4_ofTwo_52 : decode cX4_ofTwo 52 = .ok (.iload_n 1, 1) := by decide +kernel
theorem dX4_ofTwo_53 : decode cX4_ofTwo 53 = .ok (.iload_n 2, 1) := by decide +kernel
theorem dX4_ofTwo_54 : decode cX4_ofTwo 54 = .ok (.if_icmp .ge 7, 3) := by decide +kernel
theorem dX4_ofTwo_57 : decode cX4_ofTwo 57 = .ok (.iconst 1, 1) := by decide +kernel
theorem dX4_ofTwo_58 : decode cX4_ofTwo 58 = .ok (.goto 4, 3) := by decide +kernel
theorem dX4_ofTwo_61 : decode cX4_ofTwo 61 = .ok (.iconst 0, 1) := by decide +kernel
theorem dX4_ofTwo_62 : decode cX4_ofTwo 62 = .ok (.ireturn, 1) := by decide +kernel
theorem dX4_ofTwo_63 : decode cX4_ofTwo 63 = .ok (.iload_n 1, 1) := by decide +kernel
theorem dX4_ofTwo_64 : decode cX4_ofTwo 64 = .ok (.iload_n 2, 1) := by decide +kernel
theorem dX4_ofTwo_65 : decode cX4_ofTwo 65 = .ok (.if_icmp .ne 7, 3) := by decide +kernel
theorem dX4_ofTwo_68 : decode cX4_ofTwo 68 = .ok (.iconst 1, 1) := by decide +kernel
theorem dX4_ofTwo_69 : decode cX4_ofTwo 69 = .ok (.goto 4, 3) := by decide +kernel
theorem dX4_ofTwo_72 : decode cX4_ofTwo 72 = .ok (.iconst 0, 1) := by decide +kernel
theorem dX4_ofTwo_73 : decode cX4_ofTwo 73 = .ok (.ireturn, 1) := by decide +kernel
theorem dX4_ofTwo_74 : decode cX4_ofTwo 74 = .ok (.iload_n 1, 1) := by decide +kernel
theorem dX4_ofTwo_75 : decode cX4_ofTwo 75 = .ok (.ifCond .ne 7, 3) := by decide +kernel
theorem dX4_ofTwo_78 : decode cX4_ofTwo 78 = .ok (.iload_n 2, 1) := by decide +kernel
theorem dX4_ofTwo_79 : decode cX4_ofTwo 79 = .ok (.ifCond .eq 7, 3) := by decide +kernel
theorem dX4_ofTwo_82 : decode cX4_ofTwo 82 = .ok (.iconst 1, 1) := by decide +kernel
theorem dX4_ofTwo_83 : decode cX4_ofTwo 83 = .ok (.goto 4, 3) := by decide +kernel
theorem dX4_ofTwo_86 : decode cX4_ofTwo 86 = .ok (.iconst 0, 1) := by decide +kernel
theorem dX4_ofTwo_87 : decode cX4_ofTwo 87 = .ok (.ireturn, 1) := by decide +kernel
theorem dX4_ofTwo_88 : decode cX4_ofTwo 88 = .ok (.iload_n 1, 1) := by decide +kernel
theorem dX4_ofTwo_89 : decode cX4_ofTwo 89 = .ok (.ifCond .eq 11, 3) := by decide +kernel
theorem dX4_ofTwo_92 : decode cX4_ofTwo 92 = .ok (.iload_n 2, 1) := by decide +kernel
theorem dX4_ofTwo_93 : decode cX4_ofTwo 93 = .ok (.ifCond .eq 7, 3) := by decide +kernel
theorem dX4_ofTwo_96 : decode cX4_ofTwo 96 = .ok (.iconst 1, 1) := by decide +kernel
theorem dX4_ofTwo_97 : decode cX4_ofTwo 97 = .ok (.goto 4, 3) := by decide +kernel
theorem dX4_ofTwo_100 : decode cX4_ofTwo 100 = .ok (.iconst 0, 1) := by decide +kernel
theorem dX4_ofTwo_101 : decode cX4_ofTwo 101 = .ok (.ireturn, 1) := by decide +kernel
theorem dX5_init_0 : decode cX5_init 0 = .ok (.aload_n 0, 1) := by decide +kernel
theorem dX5_init_1 : decode cX5_init 1 = .ok (.invokespecial 1, 3) := by decide +kernel
theorem dX5_init_4 : decode cX5_init 4 = .ok (.return_, 1) := by decide +kernel
theorem dX5_comeAs_0 : decode cX5_comeAs 0 = .ok (.aload_n 0, 1) := by decide +kernel
theorem dX5_comeAs_1 : decode cX5_comeAs 1 = .ok (.iload_n 1, 1) := by decide +kernel
theorem dX5_comeAs_2 : decode cX5_comeAs 2 = .ok (.putfield 7, 3) := by decide +kernel
theorem dX5_comeAs_5 : decode cX5_comeAs 5 = .ok (.aload_n 0, 1) := by decide +kernel
theorem dX5_comeAs_6 : decode cX5_comeAs 6 = .ok (.iload_n 2, 1) := by decide +kernel
theorem dX5_comeAs_7 : decode cX5_comeAs 7 = .ok (.putfield 13, 3) := by decide +kernel
theorem dX5_comeAs_10 : decode cX5_comeAs 10 = .ok (.aload_n 0, 1) := by decide +kernel
theorem dX5_comeAs_11 : decode cX5_comeAs 11 = .ok (.iload_n 3, 1) := by decide +kernel
theorem dX5_comeAs_12 : decode cX5_comeAs 12 = .ok (.putfield 16, 3) := by decide +kernel
theorem dX5_comeAs_15 : decode cX5_comeAs 15 = .ok (.aload_n 0, 1) := by decide +kernel
theorem dX5_comeAs_16 : decode cX5_comeAs 16 = .ok (.iconst 0, 1) := by decide +kernel
theorem dX5_comeAs_17 : decode cX5_comeAs 17 = .ok (.putfield 19, 3) := by decide +kernel
theorem dX5_comeAs_20 : decode cX5_comeAs 20 = .ok (.aload_n 0, 1) := by decide +kernel
theorem dX5_comeAs_21 : decode cX5_comeAs 21 = .ok (.iconst 0, 1) := by decide +kernel
theorem dX5_comeAs_22 : decode cX5_comeAs 22 = .ok (.putfield 22, 3) := by decide +kernel
theorem dX5_comeAs_25 : decode cX5_comeAs 25 = .ok (.aload_n 0, 1) := by decide +kernel
theorem dX5_comeAs_26 : decode cX5_comeAs 26 = .ok (.iconst 0, 1) := by decide +kernel
theorem dX5_comeAs_27 : decode cX5_comeAs 27 = .ok (.putfield 25, 3) := by decide +kernel
theorem dX5_comeAs_30 : decode cX5_comeAs 30 = .ok (.return_, 1) := by decide +kernel
theorem dX5_become_0 : decode cX5_become 0 = .ok (.aload_n 0, 1) := by decide +kernel
theorem dX5_become_1 : decode cX5_become 1 = .ok (.aload_n 1, 1) := by decide +kernel
theorem dX5_become_2 : decode cX5_become 2 = .ok (.getfield 7, 3) := by decide +kernel
theorem dX5_become_5 : decode cX5_become 5 = .ok (.putfield 7, 3) := by decide +kernel
theorem dX5_become_8 : decode cX5_become 8 = .ok (.aload_n 0, 1) := by decide +kernel
theorem dX5_become_9 : decode cX5_become 9 = .ok (.aload_n 1, 1) := by decide +kernel
theorem dX5_become_10 : decode cX5_become 10 = .ok (.getfield 13, 3) := by decide +kernel
theorem dX5_become_13 : decode cX5_become 13 = .ok (.putfield 13, 3) := by decide +kernel
theorem dX5_become_16 : decode cX5_become 16 = .ok (.aload_n 0, 1) := by decide +kernel
theorem dX5_become_17 : decode cX5_become 17 = .ok (.aload_n 1, 1) := by decide +kernel
theorem dX5_become_18 : decode cX5_become 18 = .ok (.getfield 16, 3) := by decide +kernel
theorem dX5_become_21 : decode cX5_become 21 = .ok (.putfield 16, 3) := by decide +kernel
theorem dX5_become_24 : decode cX5_become 24 = .ok (.aload_n 0, 1) := by decide +kernel
theorem dX5_become_25 : decode cX5_become 25 = .ok (.aload_n 1, 1) := by decide +kernel
theorem dX5_become_26 : decode cX5_become 26 = .ok (.getfield 19, 3) := by decide +kernel
theorem dX5_become_29 : decode cX5_become 29 = .ok (.putfield 19, 3) := by decide +kernel
theorem dX5_become_32 : decode cX5_become 32 = .ok (.aload_n 0, 1) := by decide +kernel
theorem dX5_become_33 : decode cX5_become 33 = .ok (.aload_n 1, 1) := by decide +kernel
theorem dX5_become_34 : decode cX5_become 34 = .ok (.getfield 22, 3) := by decide +kernel
theorem dX5_become_37 : decode cX5_become 37 = .ok (.putfield 22, 3) := by decide +kernel
theorem dX5_become_40 : decode cX5_become 40 = .ok (.aload_n 0, 1) := by decide +kernel
theorem dX5_become_41 : decode cX5_become 41 = .ok (.aload_n 1, 1) := by decide +kernel
theorem dX5_become_42 : decode cX5_become 42 = .ok (.getfield 25, 3) := by decide +kernel
theorem dX5_become_45 : decode cX5_become 45 = .ok (.putfield 25, 3) := by decide +kernel
theorem dX5_become_48 : decode cX5_become 48 = .ok (.return_, 1) := by decide +kernel
theorem dX6_init_0 : decode cX6_init 0 = .ok (.aload_n 0, 1) := by decide +kernel
theorem dX6_init_1 : decode cX6_init 1 = .ok (.invokespecial 1, 3) := by decide +kernel
theorem dX6_init_4 : decode cX6_init 4 = .ok (.aload_n 0, 1) := by decide +kernel
theorem dX6_init_5 : decode cX6_init 5 = .ok (.bipush 8, 2) := by decide +kernel
theorem dX6_init_7 : decode cX6_init 7 = .ok (.newarray .int, 2) := by decide +kernel
theorem dX6_init_9 : decode cX6_init 9 = .ok (.putfield 9, 3) := by decide +kernel
theorem dX6_init_12 : decode cX6_init 12 = .ok (.aload_n 0, 1) := by decide +kernel
theorem dX6_init_13 : decode cX6_init 13 = .ok (.bipush 8, 2) := by decide +kernel
theorem dX6_init_15 : decode cX6_init 15 = .ok (.newarray .int, 2) := by decide +kernel
theorem dX6_init_17 : decode cX6_init 17 = .ok (.putfield 13, 3) := by decide +kernel
theorem dX6_init_20 : decode cX6_init 20 = .ok (.aload_n 0, 1) := by decide +kernel
theorem dX6_init_21 : decode cX6_init 21 = .ok (.bipush 6, 2) := by decide +kernel
theorem dX6_init_23 : decode cX6_init 23 = .ok (.anewarray 16, 3) := by decide +kernel
theorem dX6_init_26 : decode cX6_init 26 = .ok (.putfield 18, 3) := by decide +kernel
theorem dX6_init_29 : decode cX6_init 29 = .ok (.aload_n 0, 1) := by decide +kernel
theorem dX6_init_30 : decode cX6_init 30 = .ok (.iconst 0, 1) := by decide +kernel
theorem dX6_init_31 : decode cX6_init 31 = .ok (.putfield 22, 3) := by decide +kernel
theorem dX6_init_34 : decode cX6_init 34 = .ok (.aload_n 0, 1) := by decide +kernel
theorem dX6_init_35 : decode cX6_init 35 = .ok (.iconst 0, 1) := by decide +kernel
theorem dX6_init_36 : decode cX6_init 36 = .ok (.putfield 26, 3) := by decide +kernel
theorem dX6_init_39 : decode cX6_init 39 = .ok (.aload_n 0, 1) := by decide +kernel
theorem dX6_init_40 : decode cX6_init 40 = .ok (.bipush 6, 2) := by decide +kernel
theorem dX6_init_42 : decode cX6_init 42 = .ok (.anewarray 29, 3) := by decide +kernel
theorem dX6_init_45 : decode cX6_init 45 = .ok (.putfield 31, 3) := by decide +kernel
theorem dX6_init_48 : decode cX6_init 48 = .ok (.aload_n 0, 1) := by decide +kernel
theorem dX6_init_49 : decode cX6_init 49 = .ok (.iconst 1, 1) := by decide +kernel
theorem dX6_init_50 : decode cX6_init 50 = .ok (.putfield 35, 3) := by decide +kernel
theorem dX6_init_53 : decode cX6_init 53 = .ok (.aload_n 0, 1) := by decide +kernel
theorem dX6_init_54 : decode cX6_init 54 = .ok (.iconst 0, 1) := by decide +kernel
theorem dX6_init_55 : decode cX6_init 55 = .ok (.putfield 38, 3) := by decide +kernel
theorem dX6_init_58 : decode cX6_init 58 = .ok (.aload_n 0, 1) := by decide +kernel
theorem dX6_init_59 : decode cX6_init 59 = .ok (.new 41, 3) := by decide +kernel
theorem dX6_init_62 : decode cX6_init 62 = .ok (.dup, 1) := by decide +kernel
theorem dX6_init_63 : decode cX6_init 63 = .ok (.invokespecial 43, 3) := by decide +kernel
theorem dX6_init_66 : decode cX6_init 66 = .ok (.putfield 44, 3) := by decide +kernel
theorem dX6_init_69 : decode cX6_init 69 = .ok (.aload_n 0, 1) := by decide +kernel
theorem dX6_init_70 : decode cX6_init 70 = .ok (.sipush 793, 3) := by decide +kernel
theorem dX6_init_73 : decode cX6_init 73 = .ok (.newarray .int, 2) := by decide +kernel
theorem dX6_init_75 : decode cX6_init 75 = .ok (.putfield 48, 3) := by decide +kernel
theorem dX6_init_78 : decode cX6_init 78 = .ok (.aload_n 0, 1) := by decide +kernel
theorem dX6_init_79 : decode cX6_init 79 = .ok (.new 51, 3) := by decide +kernel
theorem dX6_init_82 : decode cX6_init 82 = .ok (.dup, 1) := by decide +kernel
theorem dX6_init_83 : decode cX6_init 83 = .ok (.invokespecial 53, 3) := by decide +kernel
theorem dX6_init_86 : decode cX6_init 86 = .ok (.putfield 54, 3) := by decide +kernel
theorem dX6_init_89 : decode cX6_init 89 = .ok (.aload_n 0, 1) := by decide +kernel
theorem dX6_init_90 : decode cX6_init 90 = .ok (.iconst 4, 1) := by decide +kernel
theorem dX6_init_91 : decode cX6_init 91 = .ok (.anewarray 58, 3) := by decide +kernel
theorem dX6_init_94 : decode cX6_init 94 = .ok (.putfield 60, 3) := by decide +kernel
theorem dX6_init_97 : decode cX6_init 97 = .ok (.aload_n 0, 1) := by decide +kernel
theorem dX6_init_98 : decode cX6_init 98 = .ok (.getfield 9, 3) := by decide +kernel
theorem dX6_init_101 : decode cX6_init 101 = .ok (.bipush 10, 2) := by decide +kernel
theorem dX6_init_103 : decode cX6_init 103 = .ok (.invokestatic 64, 3) := by decide +kernel
theorem dX6_init_106 : decode cX6_init 106 = .ok (.iconst 0, 1) := by decide +kernel
theorem dX6_init_107 : decode cX6_init 107 = .ok (.istore_n 1, 1) := by decide +kernel
theorem dX6_init_108 : decode cX6_init 108 = .ok (.iload_n 1, 1) := by decide +kernel
theorem dX6_init_109 : decode cX6_init 109 = .ok (.bipush 6, 2) := by decide +kernel
theorem dX6_init_111 : decode cX6_init 111 = .ok (.if_icmp .ge 22, 3) := by decide +kernel
theorem dX6_init_114 : decode cX6_init 114 = .ok (.aload_n 0, 1) := by decide +kernel
theorem dX6_init_115 : decode cX6_init 115 = .ok (.getfield 18, 3) := by decide +kernel
theorem dX6_init_118 : decode cX6_init 118 = .ok (.iload_n 1, 1) := by decide +kernel
theorem dX6_init_119 : decode cX6_init 119 = .ok (.new 16, 3) := by decide +kernel
theorem dX6_init_122 : decode cX6_init 122 = .ok (.dup, 1) := by decide +kernel
theorem dX6_init_123 : decode cX6_init 123 = .ok (.invokespecial 70, 3) := by decide +kernel
theorem dX6_init_126 : decode cX6_init 126 = .ok (.aastore, 1) := by decide +kernel
theorem dX6_init_127 : decode cX6_init 127 = .ok (.iinc 1 1, 3) := by decide +kernel
theorem dX6_init_130 : decode cX6_init 130 = .ok (.goto (-22), 3) := by decide +kernel
theorem dX6_init_133 : decode cX6_init 133 = .ok (.iconst 0, 1) := by decide +kernel
theorem dX6_init_134 : decode cX6_init 134 = .ok (.istore_n 1, 1) := by decide +kernel
theorem dX6_init_135 : decode cX6_init 135 = .ok (.iload_n 1, 1) := by decide +kernel
theorem dX6_init_136 : decode cX6_init 136 = .ok (.bipush 6, 2) := by decide +kernel
theorem dX6_init_138 : decode cX6_init 138 = .ok (.if_icmp .ge 22, 3) := by decide +kernel
theorem dX6_init_141 : decode cX6_init 141 = .ok (.aload_n 0, 1) := by decide +kernel
theorem dX6_init_142 : decode cX6_init 142 = .ok (.getfield 31, 3) := by decide +kernel
theorem dX6_init_145 : decode cX6_init 145 = .ok (.iload_n 1, 1) := by decide +kernel
theorem dX6_init_146 : decode cX6_init 146 = .ok (.new 29, 3) := by decide +kernel
theorem dX6_init_149 : decode cX6_init 149 = .ok (.dup, 1) := by decide +kernel
theorem dX6_init_150 : decode cX6_init 150 = .ok (.invokespecial 71, 3) := by decide +kernel
theorem dX6_init_153 : decode cX6_init 153 = .ok (.aastore, 1) := by decide +kernel
theorem dX6_init_154 : decode cX6_init 154 = .ok (.iinc 1 1, 3) := by decide +kernel
theorem dX6_init_157 : decode cX6_init 157 = .ok (.goto (-22), 3) := by decide +kernel
theorem dX6_init_160 : decode cX6_init 160 = .ok (.iconst 0, 1) := by decide +kernel
theorem dX6_init_161 : decode cX6_init 161 = .ok (.istore_n 1, 1) := by decide +kernel
theorem dX6_init_162 : decode cX6_init 162 = .ok (.iload_n 1, 1) := by decide +kernel
theorem dX6_init_163 : decode cX6_init 163 = .ok (.iconst 4, 1) := by decide +kernel
theorem dX6_init_164 : decode cX6_init 164 = .ok (.if_icmp .ge 22, 3) := by decide +kernel
theorem dX6_init_167 : decode cX6_init 167 = .ok (.aload_n 0, 1) := by decide +kernel
theorem dX6_init_168 : decode cX6_init 168 = .ok (.getfield 60, 3) := by decide +kernel
theorem dX6_init_171 : decode cX6_init 171 = .ok (.iload_n 1, 1) := by decide +kernel
theorem dX6_init_172 : decode cX6_init 172 = .ok (.new 58, 3) := by decide +kernel
theorem dX6_init_175 : decode cX6_init 175 = .ok (.dup, 1) := by decide +kernel
theorem dX6_init_176 : decode cX6_init 176 = .ok (.invokespecial 72, 3) := by decide +kernel
theorem dX6_init_179 : decode cX6_init 179 = .ok (.aastore, 1) := by decide +kernel
theorem dX6_init_180 : decode cX6_init 180 = .ok (.iinc 1 1, 3) := by decide +kernel
theorem dX6_init_183 : decode cX6_init 183 = .ok (.goto (-21), 3) := by decide +kernel
theorem dX6_init_186 : decode cX6_init 186 = .ok (.iconst 0, 1) := by decide +kernel
theorem dX6_init_187 : decode cX6_init 187 = .ok (.istore_n 1, 1) := by decide +kernel
theorem dX6_init_188 : decode cX6_init 188 = .ok (.iload_n 1, 1) := by decide +kernel
theorem dX6_init_189 : decode cX6_init 189 = .ok (.ldc 73, 2) := by decide +kernel
theorem dX6_init_191 : decode cX6_init 191 = .ok (.invokevirtual 75, 3) := by decide +kernel
theorem dX6_init_194 : decode cX6_init 194 = .ok (.if_icmp .ge 22, 3) := by decide +kernel
theorem dX6_init_197 : decode cX6_init 197 = .ok (.aload_n 0, 1) := by decide +kernel
theorem dX6_init_198 : decode cX6_init 198 = .ok (.getfield 44, 3) := by decide +kernel
theorem dX6_init_201 : decode cX6_init 201 = .ok (.ldc 73, 2) := by decide +kernel
theorem dX6_init_203 : decode cX6_init 203 = .ok (.iload_n 1, 1) := by decide +kernel
theorem dX6_init_204 : decode cX6_init 204 = .ok (.invokevirtual 81, 3) := by decide +kernel
theorem dX6_init_207 : decode cX6_init 207 = .ok (.invokevirtual 85, 3) := by decide +kernel
theorem dX6_init_210 : decode cX6_init 210 = .ok (.iinc 1 1, 3) := by decide +kernel
theorem dX6_init_213 : decode cX6_init 213 = .ok (.goto (-25), 3) := by decide +kernel
theorem dX6_init_216 : decode cX6_init 216 = .ok (.aload_n 0, 1) := by decide +kernel
theorem dX6_init_217 : decode cX6_init 217 = .ok (.getfield 44, 3) := by decide +kernel
theorem dX6_init_220 : decode cX6_init 220 = .ok (.aload_n 0, 1) := by decide +kernel
theorem dX6_init_221 : decode cX6_init 221 = .ok (.getfield 31, 3) := by decide +kernel
theorem dX6_init_224 : decode cX6_init 224 = .ok (.iconst 0, 1) := by decide +kernel
theorem dX6_init_225 : decode cX6_init 225 = .ok (.aaload, 1) := by decide +kernel
theorem dX6_init_226 : decode cX6_init 226 = .ok (.invokevirtual 89, 3) := by decide +kernel
theorem dX6_init_229 : decode cX6_init 229 = .ok (.pop, 1) := by decide +kernel
theorem dX6_init_230 : decode cX6_init 230 = .ok (.aload_n 0, 1) := by decide +kernel
theorem dX6_init_231 : decode cX6_init 231 = .ok (.new 93, 3) := by decide +kernel
theorem dX6_init_234 : decode cX6_init 234 = .ok (.dup, 1) := by decide +kernel
theorem dX6_init_235 : decode cX6_init 235 = .ok (.aload_n 0, 1) := by decide +kernel
theorem dX6_init_236 : decode cX6_init 236 = .ok (.getfield 31, 3) := by decide +kernel
theorem dX6_init_239 : decode cX6_init 239 = .ok (.iconst 0, 1) := by decide +kernel
theorem dX6_init_240 : decode cX6_init 240 = .ok (.aaload, 1) := by decide +kernel
theorem dX6_init_241 : decode cX6_init 241 = .ok (.invokespecial 95, 3) := by decide +kernel
theorem dX6_init_244 : decode cX6_init 244 = .ok (.putfield 98, 3) := by decide +kernel
theorem dX6_init_247 : decode cX6_init 247 = .ok (.return_, 1) := by decide +kernel
theorem dX6_set_0 : decode cX6_set 0 = .ok (.iload_n 1, 1) := by decide +kernel
theorem dX6_set_1 : decode cX6_set 1 = .ok (.invokestatic 102, 3) := by decide +kernel
theorem dX6_set_4 : decode cX6_set 4 = .ok (.ifCond .eq 24, 3) := by decide +kernel
theorem dX6_set_7 : decode cX6_set 7 = .ok (.aload_n 0, 1) := by decide +kernel
theorem dX6_set_8 : decode cX6_set 8 = .ok (.iload_n 1, 1) := by decide +kernel
theorem dX6_set_9 : decode cX6_set 9 = .ok (.iload_n 2, 1) := by decide +kernel
theorem dX6_set_10 : decode cX6_set 10 = .ok (.invokevirtual 106, 3) := by decide +kernel
theorem dX6_set_13 : decode cX6_set 13 = .ok (.ifCond .eq 15, 3) := by decide +kernel
theorem dX6_set_16 : decode cX6_set 16 = .ok (.iload_n 3, 1) := by decide +kernel
theorem dX6_set_17 : decode cX6_set 17 = .ok (.iconst 0, 1) := by decide +kernel
theorem dX6_set_18 : decode cX6_set 18 = .ok (.iload_n 1, 1) := by decide +kernel
theorem dX6_set_19 : decode cX6_set 19 = .ok (.invokestatic 110, 3) := by decide +kernel
theorem dX6_set_22 : decode cX6_set 22 = .ok (.invokestatic 114, 3) := by decide +kernel
theorem dX6_set_25 : decode cX6_set 25 = .ok (.ifCond .ne 6, 3) := by decide +kernel
theorem dX6_set_28 : decode cX6_set 28 = .ok (.bipush (-2), 2) := by decide +kernel
theorem dX6_set_30 : decode cX6_set 30 = .ok (.ireturn, 1) := by decide +kernel
theorem dX6_set_31 : decode cX6_set 31 = .ok (.aload_n 0, 1) := by decide +kernel
theorem dX6_set_32 : decode cX6_set 32 = .ok (.iload_n 1, 1) := by decide +kernel
theorem dX6_set_33 : decode cX6_set 33 = .ok (.iload_n 2, 1) := by decide +kernel
theorem dX6_set_34 : decode cX6_set 34 = .ok (.invokevirtual 118, 3) := by decide +kernel
theorem dX6_set_37 : decode cX6_set 37 = .ok (.istore 4, 2) := by decide +kernel
theorem dX6_set_39 : decode cX6_set 39 = .ok (.aload_n 0, 1) := by decide +kernel
theorem dX6_set_40 : decode cX6_set 40 = .ok (.iload_n 1, 1) := by decide +kernel
theorem dX6_set_41 : decode cX6_set 41 = .ok (.iload_n 2, 1) := by decide +kernel
theorem dX6_set_42 : decode cX6_set 42 = .ok (.iload_n 3, 1) := by decide +kernel
theorem dX6_set_43 : decode cX6_set 43 = .ok (.invokevirtual 122, 3) := by decide +kernel
theorem dX6_set_46 : decode cX6_set 46 = .ok (.iload 4, 2) := by decide +kernel
theorem dX6_set_48 : decode cX6_set 48 = .ok (.ireturn, 1) := by decide +kernel
theorem dX6_walker_0 : decode cX6_walker 0 = .ok (.iload_n 1, 1) := by decide +kernel
theorem dX6_walker_1 : decode cX6_walker 1 = .ok (.iconst 0, 1) := by decide +kernel
theorem dX6_walker_2 : decode cX6_walker 2 = .ok (.iconst 5, 1) := by decide +kernel
theorem dX6_walker_3 : decode cX6_walker 3 = .ok (.invokestatic 114, 3) := by decide +kernel
theorem dX6_walker_6 : decode cX6_walker 6 = .ok (.ifCond .eq 24, 3) := by decide +kernel
theorem dX6_walker_9 : decode cX6_walker 9 = .ok (.iload_n 2, 1) := by decide +kernel
theorem dX6_walker_10 : decode cX6_walker 10 = .ok (.iconst 0, 1) := by decide +kernel
theorem dX6_walker_11 : decode cX6_walker 11 = .ok (.bipush 9, 2) := by decide +kernel
theorem dX6_walker_13 : decode cX6_walker 13 = .ok (.invokestatic 114, 3) := by decide +kernel
theorem dX6_walker_16 : decode cX6_walker 16 = .ok (.ifCond .eq 14, 3) := by decide +kernel
theorem dX6_walker_19 : decode cX6_walker 19 = .ok (.iload_n 3, 1) := by decide +kernel
theorem dX6_walker_20 : decode cX6_walker 20 = .ok (.iconst 0, 1) := by decide +kernel
theorem dX6_walker_21 : decode cX6_walker 21 = .ok (.sipush 255, 3) := by decide +kernel
theorem dX6_walker_24 : decode cX6_walker 24 = .ok (.invokestatic 114, 3) := by decide +kernel
theorem dX6_walker_27 : decode cX6_walker 27 = .ok (.ifCond .ne 6, 3) := by decide +kernel
theorem dX6_walker_30 : decode cX6_walker 30 = .ok (.bipush (-2), 2) := by decide +kernel
theorem dX6_walker_32 : decode cX6_walker 32 = .ok (.ireturn, 1) := by decide +kernel
theorem dX6_walker_33 : decode cX6_walker 33 = .ok (.aload_n 0, 1) := by decide +kernel
theorem dX6_walker_34 : decode cX6_walker 34 = .ok (.getfield 22, 3) := by decide +kernel
theorem dX6_walker_37 : decode cX6_walker 37 = .ok (.bipush 6, 2) := by decide +kernel
theorem dX6_walker_39 : decode cX6_walker 39 = .ok (.if_icmp .lt 6, 3) := by decide +kernel
theorem dX6_walker_42 : decode cX6_walker 42 = .ok (.bipush (-4), 2) := by decide +kernel
theorem dX6_walker_44 : decode cX6_walker 44 = .ok (.ireturn, 1) := by decide +kernel
theorem dX6_walker_45 : decode cX6_walker 45 = .ok (.aload_n 0, 1) := by decide +kernel
theorem dX6_walker_46 : decode cX6_walker 46 = .ok (.getfield 18, 3) := by decide +kernel
theorem dX6_walker_49 : decode cX6_walker 49 = .ok (.aload_n 0, 1) := by decide +kernel
theorem dX6_walker_50 : decode cX6_walker 50 = .ok (.getfield 22, 3) := by decide +kernel
theorem dX6_walker_53 : decode cX6_walker 53 = .ok (.aaload, 1) := by decide +kernel
theorem dX6_walker_54 : decode cX6_walker 54 = .ok (.iload_n 1, 1) := by decide +kernel
theorem dX6_walker_55 : decode cX6_walker 55 = .ok (.iload_n 2, 1) := by decide +kernel
theorem dX6_walker_56 : decode cX6_walker 56 = .ok (.iload_n 3, 1) := by decide +kernel
theorem dX6_walker_57 : decode cX6_walker 57 = .ok (.invokevirtual 126, 3) := by decide +kernel
theorem dX6_walker_60 : decode cX6_walker 60 = .ok (.aload_n 0, 1) := by decide +kernel
theorem dX6_walker_61 : decode cX6_walker 61 = .ok (.dup, 1) := by decide +kernel
theorem dX6_walker_62 : decode cX6_walker 62 = .ok (.getfield 22, 3) := by decide +kernel
theorem dX6_walker_65 : decode cX6_walker 65 = .ok (.iconst 1, 1) := by decide +kernel
theorem dX6_walker_66 : decode cX6_walker 66 = .ok (.iadd, 1) := by decide +kernel
theorem dX6_walker_67 : decode cX6_walker 67 = .ok (.putfield 22, 3) := by decide +kernel
theorem dX6_walker_70 : decode cX6_walker 70 = .ok (.aload_n 0, 1) := by decide +kernel
theorem dX6_walker_71 : decode cX6_walker 71 = .ok (.getfield 22, 3) := by decide +kernel
theorem dX6_walker_74 : decode cX6_walker 74 = .ok (.iconst 1, 1) := by decide +kernel
theorem dX6_walker_75 : decode cX6_walker 75 = .ok (.isub, 1) := by decide +kernel
theorem dX6_walker_76 : decode cX6_walker 76 = .ok (.ireturn, 1) := by decide +kernel
theorem dX6_told_0 : decode cX6_told 0 = .ok (.iload_n 2, 1) := by decide +kernel
theorem dX6_told_1 : decode cX6_told 1 = .ok (.iconst 0, 1) := by decide +kernel
theorem dX6_told_2 : decode cX6_told 2 = .ok (.bipush 13, 2) := by decide +kernel
theorem dX6_told_4 : decode cX6_told 4 = .ok (.invokestatic 114, 3) := by decide +kernel
theorem dX6_told_7 : decode cX6_told 7 = .ok (.ifCond .eq 12, 3) := by decide +kernel
theorem dX6_told_10 : decode cX6_told 10 = .ok (.aload_n 0, 1) := by decide +kernel
theorem dX6_told_11 : decode cX6_told 11 = .ok (.iload_n 2, 1) := by decide +kernel
theorem dX6_told_12 : decode cX6_told 12 = .ok (.iload_n 1, 1) := by decide +kernel
theorem dX6_told_13 : decode cX6_told 13 = .ok (.invokevirtual 106, 3) := by decide +kernel
theorem dX6_told_16 : decode cX6_told 16 = .ok (.ifCond .ne 6, 3) := by decide +kernel
theorem dX6_told_19 : decode cX6_told 19 = .ok (.bipush (-2), 2) := by decide +kernel
theorem dX6_told_21 : decode cX6_told 21 = .ok (.ireturn, 1) := by decide +kernel
theorem dX6_told_22 : decode cX6_told 22 = .ok (.iload_n 2, 1) := by decide +kernel
theorem dX6_told_23 : decode cX6_told 23 = .ok (.invokestatic 102, 3) := by decide +kernel
theorem dX6_told_26 : decode cX6_told 26 = .ok (.ifCond .eq 10, 3) := by decide +kernel
theorem dX6_told_29 : decode cX6_told 29 = .ok (.aload_n 0, 1) := by decide +kernel
theorem dX6_told_30 : decode cX6_told 30 = .ok (.iload_n 2, 1) := by decide +kernel
theorem dX6_told_31 : decode cX6_told 31 = .ok (.iload_n 1, 1) := by decide +kernel
theorem dX6_told_32 : decode cX6_told 32 = .ok (.invokevirtual 118, 3) := by decide +kernel
theorem dX6_told_35 : decode cX6_told 35 = .ok (.ireturn, 1) := by decide +kernel
theorem dX6_told_36 : decode cX6_told 36 = .ok (.aload_n 0, 1) := by decide +kernel
theorem dX6_told_37 : decode cX6_told 37 = .ok (.iload_n 1, 1) := by decide +kernel
theorem dX6_told_38 : decode cX6_told 38 = .ok (.invokevirtual 129, 3) := by decide +kernel
theorem dX6_told_41 : decode cX6_told 41 = .ok (.astore_n 3, 1) := by decide +kernel
theorem dX6_told_42 : decode cX6_told 42 = .ok (.aload_n 3, 1) := by decide +kernel
theorem dX6_told_43 : decode cX6_told 43 = .ok (.ifnonnull 6, 3) := by decide +kernel
theorem dX6_told_46 : decode cX6_told 46 = .ok (.bipush (-2), 2) := by decide +kernel
theorem dX6_told_48 : decode cX6_told 48 = .ok (.ireturn, 1) := by decide +kernel
theorem dX6_told_49 : decode cX6_told 49 = .ok (.aload_n 0, 1) := by decide +kernel
theorem dX6_told_50 : decode cX6_told 50 = .ok (.aload_n 3, 1) := by decide +kernel
theorem dX6_told_51 : decode cX6_told 51 = .ok (.invokevirtual 133, 3) := by decide +kernel
theorem dX6_told_54 : decode cX6_told 54 = .ok (.iload_n 2, 1) := by decide +kernel
theorem dX6_told_55 : decode cX6_told 55 = .ok (.tableswitch 85 7 12 #[37, 42, 50, 58, 66, 74], 37) := by decide +kernel
theorem dX6_told_92 : decode cX6_told 92 = .ok (.aload_n 3, 1) := by decide +kernel
theorem dX6_told_93 : decode cX6_told 93 = .ok (.getfield 137, 3) := by decide +kernel
theorem dX6_told_96 : decode cX6_told 96 = .ok (.ireturn, 1) := by decide +kernel
theorem dX6_told_97 : decode cX6_told 97 = .ok (.aload_n 0, 1) := by decide +kernel
theorem dX6_told_98 : decode cX6_told 98 = .ok (.getfield 98, 3) := by decide +kernel
theorem dX6_told_101 : decode cX6_told 101 = .ok (.getfield 140, 3) := by decide +kernel
theorem dX6_told_104 : decode cX6_told 104 = .ok (.ireturn, 1) := by decide +kernel
theorem dX6_told_105 : decode cX6_told 105 = .ok (.aload_n 0, 1) := by decide +kernel
theorem dX6_told_106 : decode cX6_told 106 = .ok (.getfield 98, 3) := by decide +kernel
theorem dX6_told_109 : decode cX6_told 109 = .ok (.getfield 143, 3) := by decide +kernel
theorem dX6_told_112 : decode cX6_told 112 = .ok (.ireturn, 1) := by decide +kernel
theorem dX6_told_113 : decode cX6_told 113 = .ok (.aload_n 0, 1) := by decide +kernel
theorem dX6_told_114 : decode cX6_told 114 = .ok (.getfield 98, 3) := by decide +kernel
theorem dX6_told_117 : decode cX6_told 117 = .ok (.invokevirtual 146, 3) := by decide +kernel
theorem dX6_told_120 : decode cX6_told 120 = .ok (.ireturn, 1) := by decide +kernel
theorem dX6_told_121 : decode cX6_told 121 = .ok (.aload_n 0, 1) := by decide +kernel
theorem dX6_told_122 : decode cX6_told 122 = .ok (.getfield 98, 3) := by decide +kernel
theorem dX6_told_125 : decode cX6_told 125 = .ok (.invokevirtual 149, 3) := by decide +kernel
theorem dX6_told_128 : decode cX6_told 128 = .ok (.ireturn, 1) := by decide +kernel
theorem dX6_told_129 : decode cX6_told 129 = .ok (.aload_n 0, 1) := by decide +kernel
theorem dX6_told_130 : decode cX6_told 130 = .ok (.getfield 98, 3) := by decide +kernel
theorem dX6_told_133 : decode cX6_told 133 = .ok (.invokevirtual 152, 3) := by decide +kernel
theorem dX6_told_136 : decode cX6_told 136 = .ok (.invokestatic 156, 3) := by decide +kernel
theorem dX6_told_139 : decode cX6_told 139 = .ok (.ireturn, 1) := by decide +kernel
theorem dX6_told_140 : decode cX6_told 140 = .ok (.aload_n 0, 1) := by decide +kernel
theorem dX6_told_141 : decode cX6_told 141 = .ok (.getfield 98, 3) := by decide +kernel
theorem dX6_told_144 : decode cX6_told 144 = .ok (.invokevirtual 160, 3) := by decide +kernel
theorem dX6_told_147 : decode cX6_told 147 = .ok (.invokestatic 156, 3) := by decide +kernel
theorem dX6_told_150 : decode cX6_told 150 = .ok (.ireturn, 1) := by decide +kernel
theorem dX6_feed_0 : decode cX6_feed 0 = .ok (.iload_n 1, 1) := by decide +kernel
theorem dX6_feed_1 : decode cX6_feed 1 = .ok (.iconst 0, 1) := by decide +kernel
theorem dX6_feed_2 : decode cX6_feed 2 = .ok (.sipush 255, 3) := by decide +kernel
theorem dX6_feed_5 : decode cX6_feed 5 = .ok (.invokestatic 114, 3) := by decide +kernel
theorem dX6_feed_8 : decode cX6_feed 8 = .ok (.ifCond .ne 6, 3) := by decide +kernel
theorem dX6_feed_11 : decode cX6_feed 11 = .ok (.bipush (-2), 2) := by decide +kernel
theorem dX6_feed_13 : decode cX6_feed 13 = .ok (.ireturn, 1) := by decide +kernel
theorem dX6_feed_14 : decode cX6_feed 14 = .ok (.aload_n 0, 1) := by decide +kernel
theorem dX6_feed_15 : decode cX6_feed 15 = .ok (.getfield 44, 3) := by decide +kernel
theorem dX6_feed_18 : decode cX6_feed 18 = .ok (.getfield 163, 3) := by decide +kernel
theorem dX6_feed_21 : decode cX6_feed 21 = .ok (.sipush 160, 3) := by decide +kernel
theorem dX6_feed_24 : decode cX6_feed 24 = .ok (.if_icmp .lt 6, 3) := by decide +kernel
theorem dX6_feed_27 : decode cX6_feed 27 = .ok (.bipush (-4), 2) := by decide +kernel
theorem dX6_feed_29 : decode cX6_feed 29 = .ok (.ireturn, 1) := by decide +kernel
theorem dX6_feed_30 : decode cX6_feed 30 = .ok (.aload_n 0, 1) := by decide +kernel
theorem dX6_feed_31 : decode cX6_feed 31 = .ok (.getfield 44, 3) := by decide +kernel
theorem dX6_feed_34 : decode cX6_feed 34 = .ok (.iload_n 1, 1) := by decide +kernel
theorem dX6_feed_35 : decode cX6_feed 35 = .ok (.invokevirtual 85, 3) := by decide +kernel
theorem dX6_feed_38 : decode cX6_feed 38 = .ok (.aload_n 0, 1) := by decide +kernel
theorem dX6_feed_39 : decode cX6_feed 39 = .ok (.getfield 44, 3) := by decide +kernel
theorem dX6_feed_42 : decode cX6_feed 42 = .ok (.getfield 163, 3) := by decide +kernel
theorem dX6_feed_45 : decode cX6_feed 45 = .ok (.ireturn, 1) := by decide +kernel
theorem dX6_text_0 : decode cX6_text 0 = .ok (.aload_n 0, 1) := by decide +kernel
theorem dX6_text_1 : decode cX6_text 1 = .ok (.getfield 35, 3) := by decide +kernel
theorem dX6_text_4 : decode cX6_text 4 = .ok (.bipush 6, 2) := by decide +kernel
theorem dX6_text_6 : decode cX6_text 6 = .ok (.if_icmp .lt 6, 3) := by decide +kernel
theorem dX6_text_9 : decode cX6_text 9 = .ok (.bipush (-4), 2) := by decide +kernel
theorem dX6_text_11 : decode cX6_text 11 = .ok (.ireturn, 1) := by decide +kernel
theorem dX6_text_12 : decode cX6_text 12 = .ok (.aload_n 0, 1) := by decide +kernel
theorem dX6_text_13 : decode cX6_text 13 = .ok (.getfield 44, 3) := by decide +kernel
theorem dX6_text_16 : decode cX6_text 16 = .ok (.aload_n 0, 1) := by decide +kernel
theorem dX6_text_17 : decode cX6_text 17 = .ok (.getfield 31, 3) := by decide +kernel
theorem dX6_text_20 : decode cX6_text 20 = .ok (.aload_n 0, 1) := by decide +kernel
theorem dX6_text_21 : decode cX6_text 21 = .ok (.getfield 35, 3) := by decide +kernel
theorem dX6_text_24 : decode cX6_text 24 = .ok (.aaload, 1) := by decide +kernel
theorem dX6_text_25 : decode cX6_text 25 = .ok (.invokevirtual 89, 3) := by decide +kernel
theorem dX6_text_28 : decode cX6_text 28 = .ok (.istore_n 1, 1) := by decide +kernel
theorem dX6_text_29 : decode cX6_text 29 = .ok (.iload_n 1, 1) := by decide +kernel
theorem dX6_text_30 : decode cX6_text 30 = .ok (.iconst (-1), 1) := by decide +kernel
theorem dX6_text_31 : decode cX6_text 31 = .ok (.if_icmp .eq 8, 3) := by decide +kernel
theorem dX6_text_34 : decode cX6_text 34 = .ok (.bipush (-100), 2) := by decide +kernel
theorem dX6_text_36 : decode cX6_text 36 = .ok (.iload_n 1, 1) := by decide +kernel
theorem dX6_text_37 : decode cX6_text 37 = .ok (.isub, 1) := by decide +kernel
theorem dX6_text_38 : decode cX6_text 38 = .ok (.ireturn, 1) := by decide +kernel
theorem dX6_text_39 : decode cX6_text 39 = .ok (.aload_n 0, 1) := by decide +kernel
theorem dX6_text_40 : decode cX6_text 40 = .ok (.dup, 1) := by decide +kernel
theorem dX6_text_41 : decode cX6_text 41 = .ok (.getfield 35, 3) := by decide +kernel
theorem dX6_text_44 : decode cX6_text 44 = .ok (.iconst 1, 1) := by decide +kernel
theorem dX6_text_45 : decode cX6_text 45 = .ok (.iadd, 1) := by decide +kernel
theorem dX6_text_46 : decode cX6_text 46 = .ok (.putfield 35, 3) := by decide +kernel
theorem dX6_text_49 : decode cX6_text 49 = .ok (.aload_n 0, 1) := by decide +kernel
theorem dX6_text_50 : decode cX6_text 50 = .ok (.getfield 35, 3) := by decide +kernel
theorem dX6_text_53 : decode cX6_text 53 = .ok (.iconst 1, 1) := by decide +kernel
theorem dX6_text_54 : decode cX6_text 54 = .ok (.isub, 1) := by decide +kernel
theorem dX6_text_55 : decode cX6_text 55 = .ok (.ireturn, 1) := by decide +kernel
theorem dX6_force_0 : decode cX6_force 0 = .ok (.iload_n 1, 1) := by decide +kernel
theorem dX6_force_1 : decode cX6_force 1 = .ok (.iconst 0, 1) := by decide +kernel
theorem dX6_force_2 : decode cX6_force 2 = .ok (.aload_n 0, 1) := by decide +kernel
theorem dX6_force_3 : decode cX6_force 3 = .ok (.getfield 35, 3) := by decide +kernel
theorem dX6_force_6 : decode cX6_force 6 = .ok (.iconst 1, 1) := by decide +kernel
theorem dX6_force_7 : decode cX6_force 7 = .ok (.isub, 1) := by decide +kernel
theorem dX6_force_8 : decode cX6_force 8 = .ok (.invokestatic 114, 3) := by decide +kernel
theorem dX6_force_11 : decode cX6_force 11 = .ok (.ifCond .ne 6, 3) := by decide +kernel
theorem dX6_force_14 : decode cX6_force 14 = .ok (.bipush (-2), 2) := by decide +kernel
theorem dX6_force_16 : decode cX6_force 16 = .ok (.ireturn, 1) := by decide +kernel
theorem dX6_force_17 : decode cX6_force 17 = .ok (.aload_n 0, 1) := by decide +kernel
theorem dX6_force_18 : decode cX6_force 18 = .ok (.getfield 38, 3) := by decide +kernel
theorem dX6_force_21 : decode cX6_force 21 = .ok (.istore_n 2, 1) := by decide +kernel
theorem dX6_force_22 : decode cX6_force 22 = .ok (.aload_n 0, 1) := by decide +kernel
theorem dX6_force_23 : decode cX6_force 23 = .ok (.iload_n 1, 1) := by decide +kernel
theorem dX6_force_24 : decode cX6_force 24 = .ok (.putfield 38, 3) := by decide +kernel
theorem dX6_force_27 : decode cX6_force 27 = .ok (.iload_n 2, 1) := by decide +kernel
theorem dX6_force_28 : decode cX6_force 28 = .ok (.ireturn, 1) := by decide +kernel
theorem dX6_day_0 : decode cX6_day 0 = .ok (.aload_n 0, 1) := by decide +kernel
theorem dX6_day_1 : decode cX6_day 1 = .ok (.getfield 26, 3) := by decide +kernel
theorem dX6_day_4 : decode cX6_day 4 = .ok (.sipush 999, 3) := by decide +kernel
theorem dX6_day_7 : decode cX6_day 7 = .ok (.if_icmp .lt 6, 3) := by decide +kernel
theorem dX6_day_10 : decode cX6_day 10 = .ok (.bipush (-3), 2) := by decide +kernel
theorem dX6_day_12 : decode cX6_day 12 = .ok (.ireturn, 1) := by decide +kernel
theorem dX6_day_13 : decode cX6_day 13 = .ok (.iconst 0, 1) := by decide +kernel
theorem dX6_day_14 : decode cX6_day 14 = .ok (.istore_n 1, 1) := by decide +kernel
theorem dX6_day_15 : decode cX6_day 15 = .ok (.iconst 0, 1) := by decide +kernel
theorem dX6_day_16 : decode cX6_day 16 = .ok (.istore_n 2, 1) := by decide +kernel
theorem dX6_day_17 : decode cX6_day 17 = .ok (.iload_n 2, 1) := by decide +kernel
theorem dX6_day_18 : decode cX6_day 18 = .ok (.aload_n 0, 1) := by decide +kernel
theorem dX6_day_19 : decode cX6_day 19 = .ok (.getfield 22, 3) := by decide +kernel
theorem dX6_day_22 : decode cX6_day 22 = .ok (.if_icmp .ge 64, 3) := by decide +kernel
theorem dX6_day_25 : decode cX6_day 25 = .ok (.aload_n 0, 1) := by decide +kernel
theorem dX6_day_26 : decode cX6_day 26 = .ok (.aload_n 0, 1) := by decide +kernel
theorem dX6_day_27 : decode cX6_day 27 = .ok (.getfield 18, 3) := by decide +kernel
theorem dX6_day_30 : decode cX6_day 30 = .ok (.iload_n 2, 1) := by decide +kernel
theorem dX6_day_31 : decode cX6_day 31 = .ok (.aaload, 1) := by decide +kernel
theorem dX6_day_32 : decode cX6_day 32 = .ok (.invokevirtual 133, 3) := by decide +kernel
theorem dX6_day_35 : decode cX6_day 35 = .ok (.iload_n 1, 1) := by decide +kernel
theorem dX6_day_36 : decode cX6_day 36 = .ok (.aload_n 0, 1) := by decide +kernel
theorem dX6_day_37 : decode cX6_day 37 = .ok (.getfield 98, 3) := by decide +kernel
theorem dX6_day_40 : decode cX6_day 40 = .ok (.invokevirtual 166, 3) := by decide +kernel
theorem dX6_day_43 : decode cX6_day 43 = .ok (.invokestatic 156, 3) := by decide +kernel
theorem dX6_day_46 : decode cX6_day 46 = .ok (.iadd, 1) := by decide +kernel
theorem dX6_day_47 : decode cX6_day 47 = .ok (.istore_n 1, 1) := by decide +kernel
theorem dX6_day_48 : decode cX6_day 48 = .ok (.aload_n 0, 1) := by decide +kernel
theorem dX6_day_49 : decode cX6_day 49 = .ok (.getfield 18, 3) := by decide +kernel
theorem dX6_day_52 : decode cX6_day 52 = .ok (.iload_n 2, 1) := by decide +kernel
theorem dX6_day_53 : decode cX6_day 53 = .ok (.aaload, 1) := by decide +kernel
theorem dX6_day_54 : decode cX6_day 54 = .ok (.aload_n 0, 1) := by decide +kernel
theorem dX6_day_55 : decode cX6_day 55 = .ok (.getfield 98, 3) := by decide +kernel
theorem dX6_day_58 : decode cX6_day 58 = .ok (.getfield 169, 3) := by decide +kernel
theorem dX6_day_61 : decode cX6_day 61 = .ok (.putfield 172, 3) := by decide +kernel
theorem dX6_day_64 : decode cX6_day 64 = .ok (.aload_n 0, 1) := by decide +kernel
theorem dX6_day_65 : decode cX6_day 65 = .ok (.getfield 18, 3) := by decide +kernel
theorem dX6_day_68 : decode cX6_day 68 = .ok (.iload_n 2, 1) := by decide +kernel
theorem dX6_day_69 : decode cX6_day 69 = .ok (.aaload, 1) := by decide +kernel
theorem dX6_day_70 : decode cX6_day 70 = .ok (.aload_n 0, 1) := by decide +kernel
theorem dX6_day_71 : decode cX6_day 71 = .ok (.getfield 98, 3) := by decide +kernel
theorem dX6_day_74 : decode cX6_day 74 = .ok (.getfield 173, 3) := by decide +kernel
theorem dX6_day_77 : decode cX6_day 77 = .ok (.putfield 176, 3) := by decide +kernel
theorem dX6_day_80 : decode cX6_day 80 = .ok (.iinc 2 1, 3) := by decide +kernel
theorem dX6_day_83 : decode cX6_day 83 = .ok (.goto (-66), 3) := by decide +kernel
theorem dX6_day_86 : decode cX6_day 86 = .ok (.aload_n 0, 1) := by decide +kernel
theorem dX6_day_87 : decode cX6_day 87 = .ok (.dup, 1) := by decide +kernel
theorem dX6_day_88 : decode cX6_day 88 = .ok (.getfield 26, 3) := by decide +kernel
theorem dX6_day_91 : decode cX6_day 91 = .ok (.iconst 1, 1) := by decide +kernel
theorem dX6_day_92 : decode cX6_day 92 = .ok (.iadd, 1) := by decide +kernel
theorem dX6_day_93 : decode cX6_day 93 = .ok (.putfield 26, 3) := by decide +kernel
theorem dX6_day_96 : decode cX6_day 96 = .ok (.iload_n 1, 1) := by decide +kernel
theorem dX6_day_97 : decode cX6_day 97 = .ok (.ireturn, 1) := by decide +kernel
theorem dX6_run_0 : decode cX6_run 0 = .ok (.aload_n 0, 1) := by decide +kernel
theorem dX6_run_1 : decode cX6_run 1 = .ok (.iload_n 1, 1) := by decide +kernel
theorem dX6_run_2 : decode cX6_run 2 = .ok (.invokevirtual 129, 3) := by decide +kernel
theorem dX6_run_5 : decode cX6_run 5 = .ok (.astore 4, 2) := by decide +kernel
theorem dX6_run_7 : decode cX6_run 7 = .ok (.aload 4, 2) := by decide +kernel
theorem dX6_run_9 : decode cX6_run 9 = .ok (.ifnull 19, 3) := by decide +kernel
theorem dX6_run_12 : decode cX6_run 12 = .ok (.iload_n 2, 1) := by decide +kernel
theorem dX6_run_13 : decode cX6_run 13 = .ok (.invokestatic 177, 3) := by decide +kernel
theorem dX6_run_16 : decode cX6_run 16 = .ok (.ifCond .eq 12, 3) := by decide +kernel
theorem dX6_run_19 : decode cX6_run 19 = .ok (.iload_n 3, 1) := by decide +kernel
theorem dX6_run_20 : decode cX6_run 20 = .ok (.iconst 0, 1) := by decide +kernel
theorem dX6_run_21 : decode cX6_run 21 = .ok (.iconst 3, 1) := by decide +kernel
theorem dX6_run_22 : decode cX6_run 22 = .ok (.invokestatic 114, 3) := by decide +kernel
theorem dX6_run_25 : decode cX6_run 25 = .ok (.ifCond .ne 6, 3) := by decide +kernel
theorem dX6_run_28 : decode cX6_run 28 = .ok (.bipush (-2), 2) := by decide +kernel
theorem dX6_run_30 : decode cX6_run 30 = .ok (.ireturn, 1) := by decide +kernel
theorem dX6_run_31 : decode cX6_run 31 = .ok (.aload_n 0, 1) := by decide +kernel
theorem dX6_run_32 : decode cX6_run 32 = .ok (.aload 4, 2) := by decide +kernel
theorem dX6_run_34 : decode cX6_run 34 = .ok (.invokevirtual 133, 3) := by decide +kernel
theorem dX6_run_37 : decode cX6_run 37 = .ok (.iload_n 3, 1) := by decide +kernel
theorem dX6_run_38 : decode cX6_run 38 = .ok (.tableswitch 53 0 2 #[26, 35, 44], 26) := by decide +kernel
theorem dX6_run_64 : decode cX6_run 64 = .ok (.aload_n 0, 1) := by decide +kernel
theorem dX6_run_65 : decode cX6_run 65 = .ok (.getfield 98, 3) := by decide +kernel
theorem dX6_run_68 : decode cX6_run 68 = .ok (.iload_n 2, 1) := by decide +kernel
theorem dX6_run_69 : decode cX6_run 69 = .ok (.invokevirtual 180, 3) := by decide +kernel
theorem dX6_run_72 : decode cX6_run 72 = .ok (.ireturn, 1) := by decide +kernel
theorem dX6_run_73 : decode cX6_run 73 = .ok (.aload_n 0, 1) := by decide +kernel
theorem dX6_run_74 : decode cX6_run 74 = .ok (.getfield 98, 3) := by decide +kernel
theorem dX6_run_77 : decode cX6_run 77 = .ok (.iload_n 2, 1) := by decide +kernel
theorem dX6_run_78 : decode cX6_run 78 = .ok (.invokevirtual 183, 3) := by decide +kernel
theorem dX6_run_81 : decode cX6_run 81 = .ok (.ireturn, 1) := by decide +kernel
theorem dX6_run_82 : decode cX6_run 82 = .ok (.aload_n 0, 1) := by decide +kernel
theorem dX6_run_83 : decode cX6_run 83 = .ok (.getfield 98, 3) := by decide +kernel
theorem dX6_run_86 : decode cX6_run 86 = .ok (.iload_n 2, 1) := by decide +kernel
theorem dX6_run_87 : decode cX6_run 87 = .ok (.invokevirtual 186, 3) := by decide +kernel
theorem dX6_run_90 : decode cX6_run 90 = .ok (.ireturn, 1) := by decide +kernel
theorem dX6_run_91 : decode cX6_run 91 = .ok (.aload_n 0, 1) := by decide +kernel
theorem dX6_run_92 : decode cX6_run 92 = .ok (.getfield 98, 3) := by decide +kernel
theorem dX6_run_95 : decode cX6_run 95 = .ok (.iload_n 2, 1) := by decide +kernel
theorem dX6_run_96 : decode cX6_run 96 = .ok (.invokevirtual 189, 3) := by decide +kernel
theorem dX6_run_99 : decode cX6_run 99 = .ok (.ireturn, 1) := by decide +kernel
theorem dX6_mend_0 : decode cX6_mend 0 = .ok (.aload_n 0, 1) := by decide +kernel
theorem dX6_mend_1 : decode cX6_mend 1 = .ok (.iload_n 1, 1) := by decide +kernel
theorem dX6_mend_2 : decode cX6_mend 2 = .ok (.invokevirtual 129, 3) := by decide +kernel
theorem dX6_mend_5 : decode cX6_mend 5 = .ok (.astore_n 2, 1) := by decide +kernel
theorem dX6_mend_6 : decode cX6_mend 6 = .ok (.aload_n 2, 1) := by decide +kernel
theorem dX6_mend_7 : decode cX6_mend 7 = .ok (.ifnonnull 6, 3) := by decide +kernel
theorem dX6_mend_10 : decode cX6_mend 10 = .ok (.bipush (-2), 2) := by decide +kernel
theorem dX6_mend_12 : decode cX6_mend 12 = .ok (.ireturn, 1) := by decide +kernel
theorem dX6_mend_13 : decode cX6_mend 13 = .ok (.aload_n 2, 1) := by decide +kernel
theorem dX6_mend_14 : decode cX6_mend 14 = .ok (.getfield 176, 3) := by decide +kernel
theorem dX6_mend_17 : decode cX6_mend 17 = .ok (.istore_n 3, 1) := by decide +kernel
theorem dX6_mend_18 : decode cX6_mend 18 = .ok (.aload_n 2, 1) := by decide +kernel
theorem dX6_mend_19 : decode cX6_mend 19 = .ok (.iconst 0, 1) := by decide +kernel
theorem dX6_mend_20 : decode cX6_mend 20 = .ok (.putfield 176, 3) := by decide +kernel
theorem dX6_mend_23 : decode cX6_mend 23 = .ok (.iload_n 3, 1) := by decide +kernel
theorem dX6_mend_24 : decode cX6_mend 24 = .ok (.ireturn, 1) := by decide +kernel
theorem dX6_far_0 : decode cX6_far 0 = .ok (.aload_n 0, 1) := by decide +kernel
theorem dX6_far_1 : decode cX6_far 1 = .ok (.iload_n 1, 1) := by decide +kernel
theorem dX6_far_2 : decode cX6_far 2 = .ok (.invokevirtual 129, 3) := by decide +kernel
theorem dX6_far_5 : decode cX6_far 5 = .ok (.astore 4, 2) := by decide +kernel
theorem dX6_far_7 : decode cX6_far 7 = .ok (.aload 4, 2) := by decide +kernel
theorem dX6_far_9 : decode cX6_far 9 = .ok (.ifnull 19, 3) := by decide +kernel
theorem dX6_far_12 : decode cX6_far 12 = .ok (.iload_n 2, 1) := by decide +kernel
theorem dX6_far_13 : decode cX6_far 13 = .ok (.invokestatic 177, 3) := by decide +kernel
theorem dX6_far_16 : decode cX6_far 16 = .ok (.ifCond .eq 12, 3) := by decide +kernel
theorem dX6_far_19 : decode cX6_far 19 = .ok (.iload_n 3, 1) := by decide +kernel
theorem dX6_far_20 : decode cX6_far 20 = .ok (.iconst 0, 1) := by decide +kernel
theorem dX6_far_21 : decode cX6_far 21 = .ok (.iconst 1, 1) := by decide +kernel
theorem dX6_far_22 : decode cX6_far 22 = .ok (.invokestatic 114, 3) := by decide +kernel
theorem dX6_far_25 : decode cX6_far 25 = .ok (.ifCond .ne 6, 3) := by decide +kernel
theorem dX6_far_28 : decode cX6_far 28 = .ok (.bipush (-2), 2) := by decide +kernel
theorem dX6_far_30 : decode cX6_far 30 = .ok (.ireturn, 1) := by decide +kernel
theorem dX6_far_31 : decode cX6_far 31 = .ok (.iconst 0, 1) := by decide +kernel
theorem dX6_far_32 : decode cX6_far 32 = .ok (.istore 5, 2) := by decide +kernel
theorem dX6_far_34 : decode cX6_far 34 = .ok (.iconst (-1), 1) := by decide +kernel
theorem dX6_far_35 : decode cX6_far 35 = .ok (.istore 6, 2) := by decide +kernel
theorem dX6_far_37 : decode cX6_far 37 = .ok (.iconst 0, 1) := by decide +kernel
theorem dX6_far_38 : decode cX6_far 38 = .ok (.istore 7, 2) := by decide +kernel
theorem dX6_far_40 : decode cX6_far 40 = .ok (.aload_n 0, 1) := by decide +kernel
theorem dX6_far_41 : decode cX6_far 41 = .ok (.invokevirtual 192, 3) := by decide +kernel
theorem dX6_far_44 : decode cX6_far 44 = .ok (.iconst 0, 1) := by decide +kernel
theorem dX6_far_45 : decode cX6_far 45 = .ok (.istore 8, 2) := by decide +kernel
theorem dX6_far_47 : decode cX6_far 47 = .ok (.iload 8, 2) := by decide +kernel
theorem dX6_far_49 : decode cX6_far 49 = .ok (.sipush 256, 3) := by decide +kernel
theorem dX6_far_52 : decode cX6_far 52 = .ok (.if_icmp .ge 75, 3) := by decide +kernel
theorem dX6_far_55 : decode cX6_far 55 = .ok (.iload 8, 2) := by decide +kernel
theorem dX6_far_57 : decode cX6_far 57 = .ok (.aload 4, 2) := by decide +kernel
theorem dX6_far_59 : decode cX6_far 59 = .ok (.getfield 195, 3) := by decide +kernel
theorem dX6_far_62 : decode cX6_far 62 = .ok (.invokestatic 198, 3) := by decide +kernel
theorem dX6_far_65 : decode cX6_far 65 = .ok (.ifCond .eq 56, 3) := by decide +kernel
theorem dX6_far_68 : decode cX6_far 68 = .ok (.aload_n 0, 1) := by decide +kernel
theorem dX6_far_69 : decode cX6_far 69 = .ok (.aload 4, 2) := by decide +kernel
theorem dX6_far_71 : decode cX6_far 71 = .ok (.iload 8, 2) := by decide +kernel
theorem dX6_far_73 : decode cX6_far 73 = .ok (.iload_n 2, 1) := by decide +kernel
theorem dX6_far_74 : decode cX6_far 74 = .ok (.invokevirtual 201, 3) := by decide +kernel
theorem dX6_far_77 : decode cX6_far 77 = .ok (.istore 9, 2) := by decide +kernel
theorem dX6_far_79 : decode cX6_far 79 = .ok (.aload_n 0, 1) := by decide +kernel
theorem dX6_far_80 : decode cX6_far 80 = .ok (.getfield 98, 3) := by decide +kernel
theorem dX6_far_83 : decode cX6_far 83 = .ok (.getfield 140, 3) := by decide +kernel
theorem dX6_far_86 : decode cX6_far 86 = .ok (.istore 10, 2) := by decide +kernel
theorem dX6_far_88 : decode cX6_far 88 = .ok (.iload 9, 2) := by decide +kernel
theorem dX6_far_90 : decode cX6_far 90 = .ok (.iload 6, 2) := by decide +kernel
theorem dX6_far_92 : decode cX6_far 92 = .ok (.if_icmp .gt 17, 3) := by decide +kernel
theorem dX6_far_95 : decode cX6_far 95 = .ok (.iload 9, 2) := by decide +kernel
theorem dX6_far_97 : decode cX6_far 97 = .ok (.iload 6, 2) := by decide +kernel
theorem dX6_far_99 : decode cX6_far 99 = .ok (.if_icmp .ne 22, 3) := by decide +kernel
theorem dX6_far_102 : decode cX6_far 102 = .ok (.iload 10, 2) := by decide +kernel
theorem dX6_far_104 : decode cX6_far 104 = .ok (.iload 7, 2) := by decide +kernel
theorem dX6_far_106 : decode cX6_far 106 = .ok (.if_icmp .ge 15, 3) := by decide +kernel
theorem dX6_far_109 : decode cX6_far 109 = .ok (.iload 8, 2) := by decide +kernel
theorem dX6_far_111 : decode cX6_far 111 = .ok (.istore 5, 2) := by decide +kernel
theorem dX6_far_113 : decode cX6_far 113 = .ok (.iload 9, 2) := by decide +kernel
theorem dX6_far_115 : decode cX6_far 115 = .ok (.istore 6, 2) := by decide +kernel
theorem dX6_far_117 : decode cX6_far 117 = .ok (.iload 10, 2) := by decide +kernel
theorem dX6_far_119 : decode cX6_far 119 = .ok (.istore 7, 2) := by decide +kernel
theorem dX6_far_121 : decode cX6_far 121 = .ok (.iinc 8 1, 3) := by decide +kernel
theorem dX6_far_124 : decode cX6_far 124 = .ok (.goto (-77), 3) := by decide +kernel
theorem dX6_far_127 : decode cX6_far 127 = .ok (.iload_n 3, 1) := by decide +kernel
theorem dX6_far_128 : decode cX6_far 128 = .ok (.ifCond .ne 8, 3) := by decide +kernel
theorem dX6_far_131 : decode cX6_far 131 = .ok (.iload 5, 2) := by decide +kernel
theorem dX6_far_133 : decode cX6_far 133 = .ok (.goto 5, 3) := by decide +kernel
theorem dX6_far_136 : decode cX6_far 136 = .ok (.iload 6, 2) := by decide +kernel
theorem dX6_far_138 : decode cX6_far 138 = .ok (.ireturn, 1) := by decide +kernel
theorem dX6_least_0 : decode cX6_least 0 = .ok (.aload_n 0, 1) := by decide +kernel
theorem dX6_least_1 : decode cX6_least 1 = .ok (.iload_n 1, 1) := by decide +kernel
theorem dX6_least_2 : decode cX6_least 2 = .ok (.invokevirtual 129, 3) := by decide +kernel
theorem dX6_least_5 : decode cX6_least 5 = .ok (.astore 4, 2) := by decide +kernel
theorem dX6_least_7 : decode cX6_least 7 = .ok (.aload 4, 2) := by decide +kernel
theorem dX6_least_9 : decode cX6_least 9 = .ok (.ifnull 23, 3) := by decide +kernel
theorem dX6_least_12 : decode cX6_least 12 = .ok (.iload_n 2, 1) := by decide +kernel
theorem dX6_least_13 : decode cX6_least 13 = .ok (.iconst 0, 1) := by decide +kernel
theorem dX6_least_14 : decode cX6_least 14 = .ok (.sipush 999, 3) := by decide +kernel
theorem dX6_least_17 : decode cX6_least 17 = .ok (.invokestatic 114, 3) := by decide +kernel
theorem dX6_least_20 : decode cX6_least 20 = .ok (.ifCond .eq 12, 3) := by decide +kernel
theorem dX6_least_23 : decode cX6_least 23 = .ok (.iload_n 3, 1) := by decide +kernel
theorem dX6_least_24 : decode cX6_least 24 = .ok (.iconst 0, 1) := by decide +kernel
theorem dX6_least_25 : decode cX6_least 25 = .ok (.iconst 1, 1) := by decide +kernel
theorem dX6_least_26 : decode cX6_least 26 = .ok (.invokestatic 114, 3) := by decide +kernel
theorem dX6_least_29 : decode cX6_least 29 = .ok (.ifCond .ne 6, 3) := by decide +kernel
theorem dX6_least_32 : decode cX6_least 32 = .ok (.bipush (-2), 2) := by decide +kernel
theorem dX6_least_34 : decode cX6_least 34 = .ok (.ireturn, 1) := by decide +kernel
theorem dX6_least_35 : decode cX6_least 35 = .ok (.iconst (-1), 1) := by decide +kernel
theorem dX6_least_36 : decode cX6_least 36 = .ok (.istore 5, 2) := by decide +kernel
theorem dX6_least_38 : decode cX6_least 38 = .ok (.iconst (-1), 1) := by decide +kernel
theorem dX6_least_39 : decode cX6_least 39 = .ok (.istore 6, 2) := by decide +kernel
theorem dX6_least_41 : decode cX6_least 41 = .ok (.aload_n 0, 1) := by decide +kernel
theorem dX6_least_42 : decode cX6_least 42 = .ok (.invokevirtual 192, 3) := by decide +kernel
theorem dX6_least_45 : decode cX6_least 45 = .ok (.iconst 0, 1) := by decide +kernel
theorem dX6_least_46 : decode cX6_least 46 = .ok (.istore 7, 2) := by decide +kernel
theorem dX6_least_48 : decode cX6_least 48 = .ok (.iload 7, 2) := by decide +kernel
theorem dX6_least_50 : decode cX6_least 50 = .ok (.sipush 256, 3) := by decide +kernel
theorem dX6_least_53 : decode cX6_least 53 = .ok (.if_icmp .ge 66, 3) := by decide +kernel
theorem dX6_least_56 : decode cX6_least 56 = .ok (.iload 7, 2) := by decide +kernel
theorem dX6_least_58 : decode cX6_least 58 = .ok (.aload 4, 2) := by decide +kernel
theorem dX6_least_60 : decode cX6_least 60 = .ok (.getfield 195, 3) := by decide +kernel
theorem dX6_least_63 : decode cX6_least 63 = .ok (.invokestatic 198, 3) := by decide +kernel
theorem dX6_least_66 : decode cX6_least 66 = .ok (.ifCond .eq 47, 3) := by decide +kernel
theorem dX6_least_69 : decode cX6_least 69 = .ok (.aload_n 0, 1) := by decide +kernel
theorem dX6_least_70 : decode cX6_least 70 = .ok (.aload 4, 2) := by decide +kernel
theorem dX6_least_72 : decode cX6_least 72 = .ok (.iload 7, 2) := by decide +kernel
theorem dX6_least_74 : decode cX6_least 74 = .ok (.bipush 40, 2) := by decide +kernel
theorem dX6_least_76 : decode cX6_least 76 = .ok (.invokevirtual 201, 3) := by decide +kernel
theorem dX6_least_79 : decode cX6_least 79 = .ok (.iload_n 2, 1) := by decide +kernel
theorem dX6_least_80 : decode cX6_least 80 = .ok (.if_icmp .lt 33, 3) := by decide +kernel
theorem dX6_least_83 : decode cX6_least 83 = .ok (.aload_n 0, 1) := by decide +kernel
theorem dX6_least_84 : decode cX6_least 84 = .ok (.getfield 98, 3) := by decide +kernel
theorem dX6_least_87 : decode cX6_least 87 = .ok (.getfield 140, 3) := by decide +kernel
theorem dX6_least_90 : decode cX6_least 90 = .ok (.istore 8, 2) := by decide +kernel
theorem dX6_least_92 : decode cX6_least 92 = .ok (.iload 5, 2) := by decide +kernel
theorem dX6_least_94 : decode cX6_least 94 = .ok (.iconst (-1), 1) := by decide +kernel
theorem dX6_least_95 : decode cX6_least 95 = .ok (.if_icmp .eq 10, 3) := by decide +kernel
theorem dX6_least_98 : decode cX6_least 98 = .ok (.iload 8, 2) := by decide +kernel
theorem dX6_least_100 : decode cX6_least 100 = .ok (.iload 6, 2) := by decide +kernel
theorem dX6_least_102 : decode cX6_least 102 = .ok (.if_icmp .ge 11, 3) := by decide +kernel
theorem dX6_least_105 : decode cX6_least 105 = .ok (.iload 7, 2) := by decide +kernel
theorem dX6_least_107 : decode cX6_least 107 = .ok (.istore 5, 2) := by decide +kernel
theorem dX6_least_109 : decode cX6_least 109 = .ok (.iload 8, 2) := by decide +kernel
theorem dX6_least_111 : decode cX6_least 111 = .ok (.istore 6, 2) := by decide +kernel
theorem dX6_least_113 : decode cX6_least 113 = .ok (.iinc 7 1, 3) := by decide +kernel
theorem dX6_least_116 : decode cX6_least 116 = .ok (.goto (-68), 3) := by decide +kernel
theorem dX6_least_119 : decode cX6_least 119 = .ok (.iload_n 3, 1) := by decide +kernel
theorem dX6_least_120 : decode cX6_least 120 = .ok (.ifCond .ne 8, 3) := by decide +kernel
theorem dX6_least_123 : decode cX6_least 123 = .ok (.iload 5, 2) := by decide +kernel
theorem dX6_least_125 : decode cX6_least 125 = .ok (.goto 5, 3) := by decide +kernel
theorem dX6_least_128 : decode cX6_least 128 = .ok (.iload 6, 2) := by decide +kernel
theorem dX6_least_130 : decode cX6_least 130 = .ok (.ireturn, 1) := by decide +kernel
theorem dX6_heaviest_0 : decode cX6_heaviest 0 = .ok (.aload_n 0, 1) := by decide +kernel
theorem dX6_heaviest_1 : decode cX6_heaviest 1 = .ok (.iload_n 2, 1) := by decide +kernel
theorem dX6_heaviest_2 : decode cX6_heaviest 2 = .ok (.invokevirtual 129, 3) := by decide +kernel
theorem dX6_heaviest_5 : decode cX6_heaviest 5 = .ok (.astore 4, 2) := by decide +kernel
theorem dX6_heaviest_7 : decode cX6_heaviest 7 = .ok (.iload_n 1, 1) := by decide +kernel
theorem dX6_heaviest_8 : decode cX6_heaviest 8 = .ok (.invokestatic 205, 3) := by decide +kernel
theorem dX6_heaviest_11 : decode cX6_heaviest 11 = .ok (.ifCond .eq 19, 3) := by decide +kernel
theorem dX6_heaviest_14 : decode cX6_heaviest 14 = .ok (.aload 4, 2) := by decide +kernel
theorem dX6_heaviest_16 : decode cX6_heaviest 16 = .ok (.ifnull 14, 3) := by decide +kernel
theorem dX6_heaviest_19 : decode cX6_heaviest 19 = .ok (.iload_n 3, 1) := by decide +kernel
theorem dX6_heaviest_20 : decode cX6_heaviest 20 = .ok (.iconst 0, 1) := by decide +kernel
theorem dX6_heaviest_21 : decode cX6_heaviest 21 = .ok (.sipush 999, 3) := by decide +kernel
theorem dX6_heaviest_24 : decode cX6_heaviest 24 = .ok (.invokestatic 114, 3) := by decide +kernel
theorem dX6_heaviest_27 : decode cX6_heaviest 27 = .ok (.ifCond .ne 6, 3) := by decide +kernel
theorem dX6_heaviest_30 : decode cX6_heaviest 30 = .ok (.bipush (-2), 2) := by decide +kernel
theorem dX6_heaviest_32 : decode cX6_heaviest 32 = .ok (.ireturn, 1) := by decide +kernel
theorem dX6_heaviest_33 : decode cX6_heaviest 33 = .ok (.aload_n 0, 1) := by decide +kernel
theorem dX6_heaviest_34 : decode cX6_heaviest 34 = .ok (.invokevirtual 208, 3) := by decide +kernel
theorem dX6_heaviest_37 : decode cX6_heaviest 37 = .ok (.bipush 99, 2) := by decide +kernel
theorem dX6_heaviest_39 : decode cX6_heaviest 39 = .ok (.istore 5, 2) := by decide +kernel
theorem dX6_heaviest_41 : decode cX6_heaviest 41 = .ok (.iload 5, 2) := by decide +kernel
theorem dX6_heaviest_43 : decode cX6_heaviest 43 = .ok (.ifCond .lt 39, 3) := by decide +kernel
theorem dX6_heaviest_46 : decode cX6_heaviest 46 = .ok (.aload_n 0, 1) := by decide +kernel
theorem dX6_heaviest_47 : decode cX6_heaviest 47 = .ok (.getfield 13, 3) := by decide +kernel
theorem dX6_heaviest_50 : decode cX6_heaviest 50 = .ok (.iload_n 1, 1) := by decide +kernel
theorem dX6_heaviest_51 : decode cX6_heaviest 51 = .ok (.iload 5, 2) := by decide +kernel
theorem dX6_heaviest_53 : decode cX6_heaviest 53 = .ok (.iastore, 1) := by decide +kernel
theorem dX6_heaviest_54 : decode cX6_heaviest 54 = .ok (.aload_n 0, 1) := by decide +kernel
theorem dX6_heaviest_55 : decode cX6_heaviest 55 = .ok (.aload 4, 2) := by decide +kernel
theorem dX6_heaviest_57 : decode cX6_heaviest 57 = .ok (.invokevirtual 211, 3) := by decide +kernel
theorem dX6_heaviest_60 : decode cX6_heaviest 60 = .ok (.aload_n 0, 1) := by decide +kernel
theorem dX6_heaviest_61 : decode cX6_heaviest 61 = .ok (.getfield 98, 3) := by decide +kernel
theorem dX6_heaviest_64 : decode cX6_heaviest 64 = .ok (.bipush 40, 2) := by decide +kernel
theorem dX6_heaviest_66 : decode cX6_heaviest 66 = .ok (.invokevirtual 180, 3) := by decide +kernel
theorem dX6_heaviest_69 : decode cX6_heaviest 69 = .ok (.iload_n 3, 1) := by decide +kernel
theorem dX6_heaviest_70 : decode cX6_heaviest 70 = .ok (.if_icmp .lt 6, 3) := by decide +kernel
theorem dX6_heaviest_73 : decode cX6_heaviest 73 = .ok (.iload 5, 2) := by decide +kernel
theorem dX6_heaviest_75 : decode cX6_heaviest 75 = .ok (.ireturn, 1) := by decide +kernel
theorem dX6_heaviest_76 : decode cX6_heaviest 76 = .ok (.iinc 5 (-1), 3) := by decide +kernel
theorem dX6_heaviest_79 : decode cX6_heaviest 79 = .ok (.goto (-38), 3) := by decide +kernel
theorem dX6_heaviest_82 : decode cX6_heaviest 82 = .ok (.iconst (-1), 1) := by decide +kernel
theorem dX6_heaviest_83 : decode cX6_heaviest 83 = .ok (.ireturn, 1) := by decide +kernel
theorem dX6_away_0 : decode cX6_away 0 = .ok (.iload_n 1, 1) := by decide +kernel
theorem dX6_away_1 : decode cX6_away 1 = .ok (.iconst 0, 1) := by decide +kernel
theorem dX6_away_2 : decode cX6_away 2 = .ok (.sipush 999, 3) := by decide +kernel
theorem dX6_away_5 : decode cX6_away 5 = .ok (.invokestatic 114, 3) := by decide +kernel
theorem dX6_away_8 : decode cX6_away 8 = .ok (.ifCond .eq 12, 3) := by decide +kernel
theorem dX6_away_11 : decode cX6_away 11 = .ok (.iload_n 2, 1) := by decide +kernel
theorem dX6_away_12 : decode cX6_away 12 = .ok (.iconst 0, 1) := by decide +kernel
theorem dX6_away_13 : decode cX6_away 13 = .ok (.iconst 1, 1) := by decide +kernel
theorem dX6_away_14 : decode cX6_away 14 = .ok (.invokestatic 114, 3) := by decide +kernel
theorem dX6_away_17 : decode cX6_away 17 = .ok (.ifCond .ne 6, 3) := by decide +kernel
theorem dX6_away_20 : decode cX6_away 20 = .ok (.bipush (-2), 2) := by decide +kernel
theorem dX6_away_22 : decode cX6_away 22 = .ok (.ireturn, 1) := by decide +kernel
theorem dX6_away_23 : decode cX6_away 23 = .ok (.iconst (-1), 1) := by decide +kernel
theorem dX6_away_24 : decode cX6_away 24 = .ok (.istore_n 3, 1) := by decide +kernel
theorem dX6_away_25 : decode cX6_away 25 = .ok (.iconst (-1), 1) := by decide +kernel
theorem dX6_away_26 : decode cX6_away 26 = .ok (.istore 4, 2) := by decide +kernel
theorem dX6_away_28 : decode cX6_away 28 = .ok (.iconst 0, 1) := by decide +kernel
theorem dX6_away_29 : decode cX6_away 29 = .ok (.istore 5, 2) := by decide +kernel
theorem dX6_away_31 : decode cX6_away 31 = .ok (.iload 5, 2) := by decide +kernel
theorem dX6_away_33 : decode cX6_away 33 = .ok (.aload_n 0, 1) := by decide +kernel
theorem dX6_away_34 : decode cX6_away 34 = .ok (.getfield 22, 3) := by decide +kernel
theorem dX6_away_37 : decode cX6_away 37 = .ok (.if_icmp .ge 55, 3) := by decide +kernel
theorem dX6_away_40 : decode cX6_away 40 = .ok (.aload_n 0, 1) := by decide +kernel
theorem dX6_away_41 : decode cX6_away 41 = .ok (.aload_n 0, 1) := by decide +kernel
theorem dX6_away_42 : decode cX6_away 42 = .ok (.getfield 18, 3) := by decide +kernel
theorem dX6_away_45 : decode cX6_away 45 = .ok (.iload 5, 2) := by decide +kernel
theorem dX6_away_47 : decode cX6_away 47 = .ok (.aaload, 1) := by decide +kernel
theorem dX6_away_48 : decode cX6_away 48 = .ok (.invokevirtual 133, 3) := by decide +kernel
theorem dX6_away_51 : decode cX6_away 51 = .ok (.aload_n 0, 1) := by decide +kernel
theorem dX6_away_52 : decode cX6_away 52 = .ok (.getfield 98, 3) := by decide +kernel
theorem dX6_away_55 : decode cX6_away 55 = .ok (.iload_n 1, 1) := by decide +kernel
theorem dX6_away_56 : decode cX6_away 56 = .ok (.invokevirtual 214, 3) := by decide +kernel
theorem dX6_away_59 : decode cX6_away 59 = .ok (.istore 6, 2) := by decide +kernel
theorem dX6_away_61 : decode cX6_away 61 = .ok (.iload 6, 2) := by decide +kernel
theorem dX6_away_63 : decode cX6_away 63 = .ok (.iconst (-1), 1) := by decide +kernel
theorem dX6_away_64 : decode cX6_away 64 = .ok (.if_icmp .eq 22, 3) := by decide +kernel
theorem dX6_away_67 : decode cX6_away 67 = .ok (.iload_n 3, 1) := by decide +kernel
theorem dX6_away_68 : decode cX6_away 68 = .ok (.iconst (-1), 1) := by decide +kernel
theorem dX6_away_69 : decode cX6_away 69 = .ok (.if_icmp .eq 10, 3) := by decide +kernel
theorem dX6_away_72 : decode cX6_away 72 = .ok (.iload 6, 2) := by decide +kernel
theorem dX6_away_74 : decode cX6_away 74 = .ok (.iload 4, 2) := by decide +kernel
theorem dX6_away_76 : decode cX6_away 76 = .ok (.if_icmp .ge 10, 3) := by decide +kernel
theorem dX6_away_79 : decode cX6_away 79 = .ok (.iload 5, 2) := by decide +kernel
theorem dX6_away_81 : decode cX6_away 81 = .ok (.istore_n 3, 1) := by decide +kernel
theorem dX6_away_82 : decode cX6_away 82 = .ok (.iload 6, 2) := by decide +kernel
theorem dX6_away_84 : decode cX6_away 84 = .ok (.istore 4, 2) := by decide +kernel
theorem dX6_away_86 : decode cX6_away 86 = .ok (.iinc 5 1, 3) := by decide +kernel
theorem dX6_away_89 : decode cX6_away 89 = .ok (.goto (-58), 3) := by decide +kernel
theorem dX6_away_92 : decode cX6_away 92 = .ok (.iload_n 2, 1) := by decide +kernel
theorem dX6_away_93 : decode cX6_away 93 = .ok (.ifCond .ne 7, 3) := by decide +kernel
theorem dX6_away_96 : decode cX6_away 96 = .ok (.iload_n 3, 1) := by decide +kernel
theorem dX6_away_97 : decode cX6_away 97 = .ok (.goto 5, 3) := by decide +kernel
theorem dX6_away_100 : decode cX6_away 100 = .ok (.iload 4, 2) := by decide +kernel
theorem dX6_away_102 : decode cX6_away 102 = .ok (.ireturn, 1) := by decide +kernel
theorem dX6_keeper_0 : decode cX6_keeper 0 = .ok (.iload_n 1, 1) := by decide +kernel
theorem dX6_keeper_1 : decode cX6_keeper 1 = .ok (.invokestatic 177, 3) := by decide +kernel
theorem dX6_keeper_4 : decode cX6_keeper 4 = .ok (.ifCond .eq 12, 3) := by decide +kernel
theorem dX6_keeper_7 : decode cX6_keeper 7 = .ok (.iload_n 2, 1) := by decide +kernel
theorem dX6_keeper_8 : decode cX6_keeper 8 = .ok (.iconst 0, 1) := by decide +kernel
theorem dX6_keeper_9 : decode cX6_keeper 9 = .ok (.iconst 1, 1) := by decide +kernel
theorem dX6_keeper_10 : decode cX6_keeper 10 = .ok (.invokestatic 114, 3) := by decide +kernel
theorem dX6_keeper_13 : decode cX6_keeper 13 = .ok (.ifCond .ne 6, 3) := by decide +kernel
theorem dX6_keeper_16 : decode cX6_keeper 16 = .ok (.bipush (-2), 2) := by decide +kernel
theorem dX6_keeper_18 : decode cX6_keeper 18 = .ok (.ireturn, 1) := by decide +kernel
theorem dX6_keeper_19 : decode cX6_keeper 19 = .ok (.aload_n 0, 1) := by decide +kernel
theorem dX6_keeper_20 : decode cX6_keeper 20 = .ok (.invokevirtual 208, 3) := by decide +kernel
theorem dX6_keeper_23 : decode cX6_keeper 23 = .ok (.iconst (-1), 1) := by decide +kernel
theorem dX6_keeper_24 : decode cX6_keeper 24 = .ok (.istore_n 3, 1) := by decide +kernel
theorem dX6_keeper_25 : decode cX6_keeper 25 = .ok (.aload_n 0, 1) := by decide +kernel
theorem dX6_keeper_26 : decode cX6_keeper 26 = .ok (.iload_n 1, 1) := by decide +kernel
theorem dX6_keeper_27 : decode cX6_keeper 27 = .ok (.invokevirtual 217, 3) := by decide +kernel
theorem dX6_keeper_30 : decode cX6_keeper 30 = .ok (.istore 4, 2) := by decide +kernel
theorem dX6_keeper_32 : decode cX6_keeper 32 = .ok (.iconst 0, 1) := by decide +kernel
theorem dX6_keeper_33 : decode cX6_keeper 33 = .ok (.istore 5, 2) := by decide +kernel
theorem dX6_keeper_35 : decode cX6_keeper 35 = .ok (.iload 5, 2) := by decide +kernel
theorem dX6_keeper_37 : decode cX6_keeper 37 = .ok (.bipush 8, 2) := by decide +kernel
theorem dX6_keeper_39 : decode cX6_keeper 39 = .ok (.if_icmp .ge 42, 3) := by decide +kernel
theorem dX6_keeper_42 : decode cX6_keeper 42 = .ok (.aload_n 0, 1) := by decide +kernel
theorem dX6_keeper_43 : decode cX6_keeper 43 = .ok (.invokevirtual 208, 3) := by decide +kernel
theorem dX6_keeper_46 : decode cX6_keeper 46 = .ok (.aload_n 0, 1) := by decide +kernel
theorem dX6_keeper_47 : decode cX6_keeper 47 = .ok (.getfield 13, 3) := by decide +kernel
theorem dX6_keeper_50 : decode cX6_keeper 50 = .ok (.iload 5, 2) := by decide +kernel
theorem dX6_keeper_52 : decode cX6_keeper 52 = .ok (.iconst 0, 1) := by decide +kernel
theorem dX6_keeper_53 : decode cX6_keeper 53 = .ok (.iastore, 1) := by decide +kernel
theorem dX6_keeper_54 : decode cX6_keeper 54 = .ok (.aload_n 0, 1) := by decide +kernel
theorem dX6_keeper_55 : decode cX6_keeper 55 = .ok (.iload_n 1, 1) := by decide +kernel
theorem dX6_keeper_56 : decode cX6_keeper 56 = .ok (.invokevirtual 217, 3) := by decide +kernel
theorem dX6_keeper_59 : decode cX6_keeper 59 = .ok (.istore 6, 2) := by decide +kernel
theorem dX6_keeper_61 : decode cX6_keeper 61 = .ok (.iload 6, 2) := by decide +kernel
theorem dX6_keeper_63 : decode cX6_keeper 63 = .ok (.iload 4, 2) := by decide +kernel
theorem dX6_keeper_65 : decode cX6_keeper 65 = .ok (.if_icmp .le 10, 3) := by decide +kernel
theorem dX6_keeper_68 : decode cX6_keeper 68 = .ok (.iload 5, 2) := by decide +kernel
theorem dX6_keeper_70 : decode cX6_keeper 70 = .ok (.istore_n 3, 1) := by decide +kernel
theorem dX6_keeper_71 : decode cX6_keeper 71 = .ok (.iload 6, 2) := by decide +kernel
theorem dX6_keeper_73 : decode cX6_keeper 73 = .ok (.istore 4, 2) := by decide +kernel
theorem dX6_keeper_75 : decode cX6_keeper 75 = .ok (.iinc 5 1, 3) := by decide +kernel
theorem dX6_keeper_78 : decode cX6_keeper 78 = .ok (.goto (-43), 3) := by decide +kernel
theorem dX6_keeper_81 : decode cX6_keeper 81 = .ok (.iload_n 2, 1) := by decide +kernel
theorem dX6_keeper_82 : decode cX6_keeper 82 = .ok (.ifCond .ne 7, 3) := by decide +kernel
theorem dX6_keeper_85 : decode cX6_keeper 85 = .ok (.iload_n 3, 1) := by decide +kernel
theorem dX6_keeper_86 : decode cX6_keeper 86 = .ok (.goto 5, 3) := by decide +kernel
theorem dX6_keeper_89 : decode cX6_keeper 89 = .ok (.iload 4, 2) := by decide +kernel
theorem dX6_keeper_91 : decode cX6_keeper 91 = .ok (.ireturn, 1) := by decide +kernel
theorem dX6_spare_0 : decode cX6_spare 0 = .ok (.aload_n 0, 1) := by decide +kernel
theorem dX6_spare_1 : decode cX6_spare 1 = .ok (.iload_n 1, 1) := by decide +kernel
theorem dX6_spare_2 : decode cX6_spare 2 = .ok (.invokevirtual 129, 3) := by decide +kernel
theorem dX6_spare_5 : decode cX6_spare 5 = .ok (.astore_n 3, 1) := by decide +kernel
theorem dX6_spare_6 : decode cX6_spare 6 = .ok (.aload_n 3, 1) := by decide +kernel
theorem dX6_spare_7 : decode cX6_spare 7 = .ok (.ifnull 10, 3) := by decide +kernel
theorem dX6_spare_10 : decode cX6_spare 10 = .ok (.iload_n 2, 1) := by decide +kernel
theorem dX6_spare_11 : decode cX6_spare 11 = .ok (.invokestatic 177, 3) := by decide +kernel
theorem dX6_spare_14 : decode cX6_spare 14 = .ok (.ifCond .ne 6, 3) := by decide +kernel
theorem dX6_spare_17 : decode cX6_spare 17 = .ok (.bipush (-2), 2) := by decide +kernel
theorem dX6_spare_19 : decode cX6_spare 19 = .ok (.ireturn, 1) := by decide +kernel
theorem dX6_spare_20 : decode cX6_spare 20 = .ok (.aload_n 0, 1) := by decide +kernel
theorem dX6_spare_21 : decode cX6_spare 21 = .ok (.aload_n 3, 1) := by decide +kernel
theorem dX6_spare_22 : decode cX6_spare 22 = .ok (.invokevirtual 133, 3) := by decide +kernel
theorem dX6_spare_25 : decode cX6_spare 25 = .ok (.aload_n 0, 1) := by decide +kernel
theorem dX6_spare_26 : decode cX6_spare 26 = .ok (.getfield 98, 3) := by decide +kernel
theorem dX6_spare_29 : decode cX6_spare 29 = .ok (.iload_n 2, 1) := by decide +kernel
theorem dX6_spare_30 : decode cX6_spare 30 = .ok (.invokevirtual 180, 3) := by decide +kernel
theorem dX6_spare_33 : decode cX6_spare 33 = .ok (.istore 4, 2) := by decide +kernel
theorem dX6_spare_35 : decode cX6_spare 35 = .ok (.iconst 0, 1) := by decide +kernel
theorem dX6_spare_36 : decode cX6_spare 36 = .ok (.istore 5, 2) := by decide +kernel
theorem dX6_spare_38 : decode cX6_spare 38 = .ok (.iconst 0, 1) := by decide +kernel
theorem dX6_spare_39 : decode cX6_spare 39 = .ok (.istore 6, 2) := by decide +kernel
theorem dX6_spare_41 : decode cX6_spare 41 = .ok (.iload 6, 2) := by decide +kernel
theorem dX6_spare_43 : decode cX6_spare 43 = .ok (.bipush 8, 2) := by decide +kernel
theorem dX6_spare_45 : decode cX6_spare 45 = .ok (.if_icmp .ge 64, 3) := by decide +kernel
theorem dX6_spare_48 : decode cX6_spare 48 = .ok (.aload_n 3, 1) := by decide +kernel
theorem dX6_spare_49 : decode cX6_spare 49 = .ok (.getfield 195, 3) := by decide +kernel
theorem dX6_spare_52 : decode cX6_spare 52 = .ok (.aload_n 3, 1) := by decide +kernel
theorem dX6_spare_53 : decode cX6_spare 53 = .ok (.getfield 220, 3) := by decide +kernel
theorem dX6_spare_56 : decode cX6_spare 56 = .ok (.iand, 1) := by decide +kernel
theorem dX6_spare_57 : decode cX6_spare 57 = .ok (.iload 6, 2) := by decide +kernel
theorem dX6_spare_59 : decode cX6_spare 59 = .ok (.invokestatic 223, 3) := by decide +kernel
theorem dX6_spare_62 : decode cX6_spare 62 = .ok (.ifCond .eq 41, 3) := by decide +kernel
theorem dX6_spare_65 : decode cX6_spare 65 = .ok (.aload_n 0, 1) := by decide +kernel
theorem dX6_spare_66 : decode cX6_spare 66 = .ok (.aload_n 3, 1) := by decide +kernel
theorem dX6_spare_67 : decode cX6_spare 67 = .ok (.aload_n 3, 1) := by decide +kernel
theorem dX6_spare_68 : decode cX6_spare 68 = .ok (.getfield 220, 3) := by decide +kernel
theorem dX6_spare_71 : decode cX6_spare 71 = .ok (.iconst 1, 1) := by decide +kernel
theorem dX6_spare_72 : decode cX6_spare 72 = .ok (.iload 6, 2) := by decide +kernel
theorem dX6_spare_74 : decode cX6_spare 74 = .ok (.ishl, 1) := by decide +kernel
theorem dX6_spare_75 : decode cX6_spare 75 = .ok (.iconst (-1), 1) := by decide +kernel
theorem dX6_spare_76 : decode cX6_spare 76 = .ok (.ixor, 1) := by decide +kernel
theorem dX6_spare_77 : decode cX6_spare 77 = .ok (.iand, 1) := by decide +kernel
theorem dX6_spare_78 : decode cX6_spare 78 = .ok (.invokevirtual 226, 3) := by decide +kernel
theorem dX6_spare_81 : decode cX6_spare 81 = .ok (.aload_n 0, 1) := by decide +kernel
theorem dX6_spare_82 : decode cX6_spare 82 = .ok (.getfield 98, 3) := by decide +kernel
theorem dX6_spare_85 : decode cX6_spare 85 = .ok (.iload_n 2, 1) := by decide +kernel
theorem dX6_spare_86 : decode cX6_spare 86 = .ok (.invokevirtual 180, 3) := by decide +kernel
theorem dX6_spare_89 : decode cX6_spare 89 = .ok (.iload 4, 2) := by decide +kernel
theorem dX6_spare_91 : decode cX6_spare 91 = .ok (.if_icmp .lt 12, 3) := by decide +kernel
theorem dX6_spare_94 : decode cX6_spare 94 = .ok (.iload 5, 2) := by decide +kernel
theorem dX6_spare_96 : decode cX6_spare 96 = .ok (.iconst 1, 1) := by decide +kernel
theorem dX6_spare_97 : decode cX6_spare 97 = .ok (.iload 6, 2) := by decide +kernel
theorem dX6_spare_99 : decode cX6_spare 99 = .ok (.ishl, 1) := by decide +kernel
theorem dX6_spare_100 : decode cX6_spare 100 = .ok (.ior, 1) := by decide +kernel
theorem dX6_spare_101 : decode cX6_spare 101 = .ok (.istore 5, 2) := by decide +kernel
theorem dX6_spare_103 : decode cX6_spare 103 = .ok (.iinc 6 1, 3) := by decide +kernel
theorem dX6_spare_106 : decode cX6_spare 106 = .ok (.goto (-65), 3) := by decide +kernel
theorem dX6_spare_109 : decode cX6_spare 109 = .ok (.iload 5, 2) := by decide +kernel
theorem dX6_spare_111 : decode cX6_spare 111 = .ok (.ireturn, 1) := by decide +kernel
theorem dX6_tells_0 : decode cX6_tells 0 = .ok (.aload_n 0, 1) := by decide +kernel
theorem dX6_tells_1 : decode cX6_tells 1 = .ok (.iload_n 1, 1) := by decide +kernel
theorem dX6_tells_2 : decode cX6_tells 2 = .ok (.invokevirtual 230, 3) := by decide +kernel
theorem dX6_tells_5 : decode cX6_tells 5 = .ok (.astore 4, 2) := by decide +kernel
theorem dX6_tells_7 : decode cX6_tells 7 = .ok (.aload_n 0, 1) := by decide +kernel
theorem dX6_tells_8 : decode cX6_tells 8 = .ok (.iload_n 2, 1) := by decide +kernel
theorem dX6_tells_9 : decode cX6_tells 9 = .ok (.invokevirtual 129, 3) := by decide +kernel
theorem dX6_tells_12 : decode cX6_tells 12 = .ok (.astore 5, 2) := by decide +kernel
theorem dX6_tells_14 : decode cX6_tells 14 = .ok (.aload 4, 2) := by decide +kernel
theorem dX6_tells_16 : decode cX6_tells 16 = .ok (.ifnull 18, 3) := by decide +kernel
theorem dX6_tells_19 : decode cX6_tells 19 = .ok (.aload 5, 2) := by decide +kernel
theorem dX6_tells_21 : decode cX6_tells 21 = .ok (.ifnull 13, 3) := by decide +kernel
theorem dX6_tells_24 : decode cX6_tells 24 = .ok (.iload_n 3, 1) := by decide +kernel
theorem dX6_tells_25 : decode cX6_tells 25 = .ok (.iconst 0, 1) := by decide +kernel
theorem dX6_tells_26 : decode cX6_tells 26 = .ok (.bipush 7, 2) := by decide +kernel
theorem dX6_tells_28 : decode cX6_tells 28 = .ok (.invokestatic 114, 3) := by decide +kernel
theorem dX6_tells_31 : decode cX6_tells 31 = .ok (.ifCond .ne 6, 3) := by decide +kernel
theorem dX6_tells_34 : decode cX6_tells 34 = .ok (.bipush (-2), 2) := by decide +kernel
theorem dX6_tells_36 : decode cX6_tells 36 = .ok (.ireturn, 1) := by decide +kernel
theorem dX6_tells_37 : decode cX6_tells 37 = .ok (.aload 4, 2) := by decide +kernel
theorem dX6_tells_39 : decode cX6_tells 39 = .ok (.invokevirtual 234, 3) := by decide +kernel
theorem dX6_tells_42 : decode cX6_tells 42 = .ok (.ifCond .eq 6, 3) := by decide +kernel
theorem dX6_tells_45 : decode cX6_tells 45 = .ok (.bipush (-11), 2) := by decide +kernel
theorem dX6_tells_47 : decode cX6_tells 47 = .ok (.ireturn, 1) := by decide +kernel
theorem dX6_tells_48 : decode cX6_tells 48 = .ok (.iload_n 3, 1) := by decide +kernel
theorem dX6_tells_49 : decode cX6_tells 49 = .ok (.tableswitch 116 0 6 #[43, 59, 68, 77, 87, 97, 106], 43) := by decide +kernel
theorem dX6_tells_92 : decode cX6_tells 92 = .ok (.aload_n 0, 1) := by decide +kernel
theorem dX6_tells_93 : decode cX6_tells 93 = .ok (.aload 5, 2) := by decide +kernel
theorem dX6_tells_95 : decode cX6_tells 95 = .ok (.invokevirtual 133, 3) := by decide +kernel
theorem dX6_tells_98 : decode cX6_tells 98 = .ok (.aload_n 0, 1) := by decide +kernel
theorem dX6_tells_99 : decode cX6_tells 99 = .ok (.getfield 98, 3) := by decide +kernel
theorem dX6_tells_102 : decode cX6_tells 102 = .ok (.aload 4, 2) := by decide +kernel
theorem dX6_tells_104 : decode cX6_tells 104 = .ok (.invokevirtual 237, 3) := by decide +kernel
theorem dX6_tells_107 : decode cX6_tells 107 = .ok (.ireturn, 1) := by decide +kernel
theorem dX6_tells_108 : decode cX6_tells 108 = .ok (.aload_n 0, 1) := by decide +kernel
theorem dX6_tells_109 : decode cX6_tells 109 = .ok (.aload 4, 2) := by decide +kernel
theorem dX6_tells_111 : decode cX6_tells 111 = .ok (.aload 5, 2) := by decide +kernel
theorem dX6_tells_113 : decode cX6_tells 113 = .ok (.invokevirtual 241, 3) := by decide +kernel
theorem dX6_tells_116 : decode cX6_tells 116 = .ok (.ireturn, 1) := by decide +kernel
theorem dX6_tells_117 : decode cX6_tells 117 = .ok (.aload_n 0, 1) := by decide +kernel
theorem dX6_tells_118 : decode cX6_tells 118 = .ok (.aload 4, 2) := by decide +kernel
theorem dX6_tells_120 : decode cX6_tells 120 = .ok (.aload 5, 2) := by decide +kernel
theorem dX6_tells_122 : decode cX6_tells 122 = .ok (.invokevirtual 245, 3) := by decide +kernel
theorem dX6_tells_125 : decode cX6_tells 125 = .ok (.ireturn, 1) := by decide +kernel
theorem dX6_tells_126 : decode cX6_tells 126 = .ok (.aload_n 0, 1) := by decide +kernel
theorem dX6_tells_127 : decode cX6_tells 127 = .ok (.aload 4, 2) := by decide +kernel
theorem dX6_tells_129 : decode cX6_tells 129 = .ok (.aload 5, 2) := by decide +kernel
theorem dX6_tells_131 : decode cX6_tells 131 = .ok (.iconst 0, 1) := by decide +kernel
theorem dX6_tells_132 : decode cX6_tells 132 = .ok (.invokevirtual 248, 3) := by decide +kernel
theorem dX6_tells_135 : decode cX6_tells 135 = .ok (.ireturn, 1) := by decide +kernel
theorem dX6_tells_136 : decode cX6_tells 136 = .ok (.aload_n 0, 1) := by decide +kernel
theorem dX6_tells_137 : decode cX6_tells 137 = .ok (.aload 4, 2) := by decide +kernel
theorem dX6_tells_139 : decode cX6_tells 139 = .ok (.aload 5, 2) := by decide +kernel
theorem dX6_tells_141 : decode cX6_tells 141 = .ok (.iconst 1, 1) := by decide +kernel
theorem dX6_tells_142 : decode cX6_tells 142 = .ok (.invokevirtual 248, 3) := by decide +kernel
theorem dX6_tells_145 : decode cX6_tells 145 = .ok (.ireturn, 1) := by decide +kernel
theorem dX6_tells_146 : decode cX6_tells 146 = .ok (.aload_n 0, 1) := by decide +kernel
theorem dX6_tells_147 : decode cX6_tells 147 = .ok (.aload 4, 2) := by decide +kernel
theorem dX6_tells_149 : decode cX6_tells 149 = .ok (.aload 5, 2) := by decide +kernel
theorem dX6_tells_151 : decode cX6_tells 151 = .ok (.invokevirtual 252, 3) := by decide +kernel
theorem dX6_tells_154 : decode cX6_tells 154 = .ok (.ireturn, 1) := by decide +kernel
theorem dX6_tells_155 : decode cX6_tells 155 = .ok (.aload_n 0, 1) := by decide +kernel
theorem dX6_tells_156 : decode cX6_tells 156 = .ok (.aload 4, 2) := by decide +kernel
theorem dX6_tells_158 : decode cX6_tells 158 = .ok (.aload 5, 2) := by decide +kernel
theorem dX6_tells_160 : decode cX6_tells 160 = .ok (.iconst 0, 1) := by decide +kernel
theorem dX6_tells_161 : decode cX6_tells 161 = .ok (.invokevirtual 255, 3) := by decide +kernel
theorem dX6_tells_164 : decode cX6_tells 164 = .ok (.ireturn, 1) := by decide +kernel
theorem dX6_tells_165 : decode cX6_tells 165 = .ok (.aload_n 0, 1) := by decide +kernel
theorem dX6_tells_166 : decode cX6_tells 166 = .ok (.aload 4, 2) := by decide +kernel
theorem dX6_tells_168 : decode cX6_tells 168 = .ok (.aload 5, 2) := by decide +kernel
theorem dX6_tells_170 : decode cX6_tells 170 = .ok (.iconst 1, 1) := by decide +kernel
theorem dX6_tells_171 : decode cX6_tells 171 = .ok (.invokevirtual 255, 3) := by decide +kernel
theorem dX6_tells_174 : decode cX6_tells 174 = .ok (.ireturn, 1) := by decide +kernel
theorem dX6_film_0 : decode cX6_film 0 = .ok (.aload_n 0, 1) := by decide +kernel
theorem dX6_film_1 : decode cX6_film 1 = .ok (.iload_n 1, 1) := by decide +kernel
theorem dX6_film_2 : decode cX6_film 2 = .ok (.invokevirtual 230, 3) := by decide +kernel
theorem dX6_film_5 : decode cX6_film 5 = .ok (.astore 4, 2) := by decide +kernel
theorem dX6_film_7 : decode cX6_film 7 = .ok (.aload_n 0, 1) := by decide +kernel
theorem dX6_film_8 : decode cX6_film 8 = .ok (.iload_n 2, 1) := by decide +kernel
theorem dX6_film_9 : decode cX6_film 9 = .ok (.invokevirtual 129, 3) := by decide +kernel
theorem dX6_film_12 : decode cX6_film 12 = .ok (.astore 5, 2) := by decide +kernel
theorem dX6_film_14 : decode cX6_film 14 = .ok (.aload 4, 2) := by decide +kernel
theorem dX6_film_16 : decode cX6_film 16 = .ok (.ifnull 15, 3) := by decide +kernel
theorem dX6_film_19 : decode cX6_film 19 = .ok (.aload 5, 2) := by decide +kernel
theorem dX6_film_21 : decode cX6_film 21 = .ok (.ifnull 10, 3) := by decide +kernel
theorem dX6_film_24 : decode cX6_film 24 = .ok (.iload_n 3, 1) := by decide +kernel
theorem dX6_film_25 : decode cX6_film 25 = .ok (.invokestatic 177, 3) := by decide +kernel
theorem dX6_film_28 : decode cX6_film 28 = .ok (.ifCond .ne 6, 3) := by decide +kernel
theorem dX6_film_31 : decode cX6_film 31 = .ok (.bipush (-2), 2) := by decide +kernel
theorem dX6_film_33 : decode cX6_film 33 = .ok (.ireturn, 1) := by decide +kernel
theorem dX6_film_34 : decode cX6_film 34 = .ok (.aload 4, 2) := by decide +kernel
theorem dX6_film_36 : decode cX6_film 36 = .ok (.iconst 1, 1) := by decide +kernel
theorem dX6_film_37 : decode cX6_film 37 = .ok (.iload_n 3, 1) := by decide +kernel
theorem dX6_film_38 : decode cX6_film 38 = .ok (.invokevirtual 258, 3) := by decide +kernel
theorem dX6_film_41 : decode cX6_film 41 = .ok (.aload_n 0, 1) := by decide +kernel
theorem dX6_film_42 : decode cX6_film 42 = .ok (.aload 5, 2) := by decide +kernel
theorem dX6_film_44 : decode cX6_film 44 = .ok (.invokevirtual 133, 3) := by decide +kernel
theorem dX6_film_47 : decode cX6_film 47 = .ok (.iconst 0, 1) := by decide +kernel
theorem dX6_film_48 : decode cX6_film 48 = .ok (.istore 6, 2) := by decide +kernel
theorem dX6_film_50 : decode cX6_film 50 = .ok (.iload 6, 2) := by decide +kernel
theorem dX6_film_52 : decode cX6_film 52 = .ok (.iload_n 3, 1) := by decide +kernel
theorem dX6_film_53 : decode cX6_film 53 = .ok (.if_icmp .ge 31, 3) := by decide +kernel
theorem dX6_film_56 : decode cX6_film 56 = .ok (.aload_n 0, 1) := by decide +kernel
theorem dX6_film_57 : decode cX6_film 57 = .ok (.getfield 98, 3) := by decide +kernel
theorem dX6_film_60 : decode cX6_film 60 = .ok (.invokevirtual 166, 3) := by decide +kernel
theorem dX6_film_63 : decode cX6_film 63 = .ok (.pop, 1) := by decide +kernel
theorem dX6_film_64 : decode cX6_film 64 = .ok (.aload 4, 2) := by decide +kernel
theorem dX6_film_66 : decode cX6_film 66 = .ok (.iload 6, 2) := by decide +kernel
theorem dX6_film_68 : decode cX6_film 68 = .ok (.aload_n 0, 1) := by decide +kernel
theorem dX6_film_69 : decode cX6_film 69 = .ok (.getfield 98, 3) := by decide +kernel
theorem dX6_film_72 : decode cX6_film 72 = .ok (.getfield 169, 3) := by decide +kernel
theorem dX6_film_75 : decode cX6_film 75 = .ok (.invokevirtual 262, 3) := by decide +kernel
theorem dX6_film_78 : decode cX6_film 78 = .ok (.iinc 6 1, 3) := by decide +kernel
theorem dX6_film_81 : decode cX6_film 81 = .ok (.goto (-31), 3) := by decide +kernel
theorem dX6_film_84 : decode cX6_film 84 = .ok (.iload_n 3, 1) := by decide +kernel
theorem dX6_film_85 : decode cX6_film 85 = .ok (.ireturn, 1) := by decide +kernel
theorem dX6_drawn_0 : decode cX6_drawn 0 = .ok (.iload_n 2, 1) := by decide +kernel
theorem dX6_drawn_1 : decode cX6_drawn 1 = .ok (.invokestatic 177, 3) := by decide +kernel
theorem dX6_drawn_4 : decode cX6_drawn 4 = .ok (.ifCond .ne 6, 3) := by decide +kernel
theorem dX6_drawn_7 : decode cX6_drawn 7 = .ok (.bipush (-2), 2) := by decide +kernel
theorem dX6_drawn_9 : decode cX6_drawn 9 = .ok (.ireturn, 1) := by decide +kernel
theorem dX6_drawn_10 : decode cX6_drawn 10 = .ok (.aload_n 0, 1) := by decide +kernel
theorem dX6_drawn_11 : decode cX6_drawn 11 = .ok (.iload_n 1, 1) := by decide +kernel
theorem dX6_drawn_12 : decode cX6_drawn 12 = .ok (.invokevirtual 265, 3) := by decide +kernel
theorem dX6_drawn_15 : decode cX6_drawn 15 = .ok (.aload_n 0, 1) := by decide +kernel
theorem dX6_drawn_16 : decode cX6_drawn 16 = .ok (.iload_n 2, 1) := by decide +kernel
theorem dX6_drawn_17 : decode cX6_drawn 17 = .ok (.invokevirtual 217, 3) := by decide +kernel
theorem dX6_drawn_20 : decode cX6_drawn 20 = .ok (.ireturn, 1) := by decide +kernel
theorem dX6_chance_0 : decode cX6_chance 0 = .ok (.iload_n 2, 1) := by decide +kernel
theorem dX6_chance_1 : decode cX6_chance 1 = .ok (.iconst 1, 1) := by decide +kernel
theorem dX6_chance_2 : decode cX6_chance 2 = .ok (.bipush 20, 2) := by decide +kernel
theorem dX6_chance_4 : decode cX6_chance 4 = .ok (.invokestatic 114, 3) := by decide +kernel
theorem dX6_chance_7 : decode cX6_chance 7 = .ok (.ifCond .eq 12, 3) := by decide +kernel
theorem dX6_chance_10 : decode cX6_chance 10 = .ok (.iload_n 3, 1) := by decide +kernel
theorem dX6_chance_11 : decode cX6_chance 11 = .ok (.iconst 0, 1) := by decide +kernel
theorem dX6_chance_12 : decode cX6_chance 12 = .ok (.iconst 1, 1) := by decide +kernel
theorem dX6_chance_13 : decode cX6_chance 13 = .ok (.invokestatic 114, 3) := by decide +kernel
theorem dX6_chance_16 : decode cX6_chance 16 = .ok (.ifCond .ne 7, 3) := by decide +kernel
theorem dX6_chance_19 : decode cX6_chance 19 = .ok (.ldc2_w 268, 3) := by decide +kernel
theorem dX6_chance_22 : decode cX6_chance 22 = .ok (.lreturn, 1) := by decide +kernel
theorem dX6_chance_23 : decode cX6_chance 23 = .ok (.iconst 0, 1) := by decide +kernel
theorem dX6_chance_24 : decode cX6_chance 24 = .ok (.istore 4, 2) := by decide +kernel
theorem dX6_chance_26 : decode cX6_chance 26 = .ok (.iconst 0, 1) := by decide +kernel
theorem dX6_chance_27 : decode cX6_chance 27 = .ok (.istore 5, 2) := by decide +kernel
theorem dX6_chance_29 : decode cX6_chance 29 = .ok (.iload 5, 2) := by decide +kernel
theorem dX6_chance_31 : decode cX6_chance 31 = .ok (.iload_n 2, 1) := by decide +kernel
theorem dX6_chance_32 : decode cX6_chance 32 = .ok (.if_icmp .ge 29, 3) := by decide +kernel
theorem dX6_chance_35 : decode cX6_chance 35 = .ok (.aload_n 0, 1) := by decide +kernel
theorem dX6_chance_36 : decode cX6_chance 36 = .ok (.iload_n 1, 1) := by decide +kernel
theorem dX6_chance_37 : decode cX6_chance 37 = .ok (.iload 5, 2) := by decide +kernel
theorem dX6_chance_39 : decode cX6_chance 39 = .ok (.iadd, 1) := by decide +kernel
theorem dX6_chance_40 : decode cX6_chance 40 = .ok (.invokevirtual 265, 3) := by decide +kernel
theorem dX6_chance_43 : decode cX6_chance 43 = .ok (.iload 4, 2) := by decide +kernel
theorem dX6_chance_45 : decode cX6_chance 45 = .ok (.aload_n 0, 1) := by decide +kernel
theorem dX6_chance_46 : decode cX6_chance 46 = .ok (.invokevirtual 270, 3) := by decide +kernel
theorem dX6_chance_49 : decode cX6_chance 49 = .ok (.invokestatic 156, 3) := by decide +kernel
theorem dX6_chance_52 : decode cX6_chance 52 = .ok (.iadd, 1) := by decide +kernel
theorem dX6_chance_53 : decode cX6_chance 53 = .ok (.istore 4, 2) := by decide +kernel
theorem dX6_chance_55 : decode cX6_chance 55 = .ok (.iinc 5 1, 3) := by decide +kernel
theorem dX6_chance_58 : decode cX6_chance 58 = .ok (.goto (-29), 3) := by decide +kernel
theorem dX6_chance_61 : decode cX6_chance 61 = .ok (.iload 4, 2) := by decide +kernel
theorem dX6_chance_63 : decode cX6_chance 63 = .ok (.iload_n 2, 1) := by decide +kernel
theorem dX6_chance_64 : decode cX6_chance 64 = .ok (.invokestatic 273, 3) := by decide +kernel
theorem dX6_chance_67 : decode cX6_chance 67 = .ok (.istore 5, 2) := by decide +kernel
theorem dX6_chance_69 : decode cX6_chance 69 = .ok (.iload 5, 2) := by decide +kernel
theorem dX6_chance_71 : decode cX6_chance 71 = .ok (.iconst 1, 1) := by decide +kernel
theorem dX6_chance_72 : decode cX6_chance 72 = .ok (.if_icmp .ge 7, 3) := by decide +kernel
theorem dX6_chance_75 : decode cX6_chance 75 = .ok (.ldc2_w 268, 3) := by decide +kernel
theorem dX6_chance_78 : decode cX6_chance 78 = .ok (.lreturn, 1) := by decide +kernel
theorem dX6_chance_79 : decode cX6_chance 79 = .ok (.iload_n 3, 1) := by decide +kernel
theorem dX6_chance_80 : decode cX6_chance 80 = .ok (.ifCond .ne 12, 3) := by decide +kernel
theorem dX6_chance_83 : decode cX6_chance 83 = .ok (.iload 4, 2) := by decide +kernel
theorem dX6_chance_85 : decode cX6_chance 85 = .ok (.iload 5, 2) := by decide +kernel
theorem dX6_chance_87 : decode cX6_chance 87 = .ok (.idiv, 1) := by decide +kernel
theorem dX6_chance_88 : decode cX6_chance 88 = .ok (.i2l, 1) := by decide +kernel
theorem dX6_chance_89 : decode cX6_chance 89 = .ok (.goto 8, 3) := by decide +kernel
theorem dX6_chance_92 : decode cX6_chance 92 = .ok (.iload_n 2, 1) := by decide +kernel
theorem dX6_chance_93 : decode cX6_chance 93 = .ok (.iload 5, 2) := by decide +kernel
theorem dX6_chance_95 : decode cX6_chance 95 = .ok (.idiv, 1) := by decide +kernel
theorem dX6_chance_96 : decode cX6_chance 96 = .ok (.i2l, 1) := by decide +kernel
theorem dX6_chance_97 : decode cX6_chance 97 = .ok (.lreturn, 1) := by decide +kernel
theorem dX6_image_0 : decode cX6_image 0 = .ok (.aload_n 0, 1) := by decide +kernel
theorem dX6_image_1 : decode cX6_image 1 = .ok (.getfield 54, 3) := by decide +kernel
theorem dX6_image_4 : decode cX6_image 4 = .ok (.iconst 1, 1) := by decide +kernel
theorem dX6_image_5 : decode cX6_image 5 = .ok (.putfield 276, 3) := by decide +kernel
theorem dX6_image_8 : decode cX6_image 8 = .ok (.aload_n 0, 1) := by decide +kernel
theorem dX6_image_9 : decode cX6_image 9 = .ok (.getfield 54, 3) := by decide +kernel
theorem dX6_image_12 : decode cX6_image 12 = .ok (.aload_n 0, 1) := by decide +kernel
theorem dX6_image_13 : decode cX6_image 13 = .ok (.getfield 26, 3) := by decide +kernel
theorem dX6_image_16 : decode cX6_image 16 = .ok (.putfield 280, 3) := by decide +kernel
theorem dX6_image_19 : decode cX6_image 19 = .ok (.aload_n 0, 1) := by decide +kernel
theorem dX6_image_20 : decode cX6_image 20 = .ok (.getfield 54, 3) := by decide +kernel
theorem dX6_image_23 : decode cX6_image 23 = .ok (.aload_n 0, 1) := by decide +kernel
theorem dX6_image_24 : decode cX6_image 24 = .ok (.getfield 38, 3) := by decide +kernel
theorem dX6_image_27 : decode cX6_image 27 = .ok (.putfield 283, 3) := by decide +kernel
theorem dX6_image_30 : decode cX6_image 30 = .ok (.aload_n 0, 1) := by decide +kernel
theorem dX6_image_31 : decode cX6_image 31 = .ok (.getfield 54, 3) := by decide +kernel
theorem dX6_image_34 : decode cX6_image 34 = .ok (.aload_n 0, 1) := by decide +kernel
theorem dX6_image_35 : decode cX6_image 35 = .ok (.getfield 22, 3) := by decide +kernel
theorem dX6_image_38 : decode cX6_image 38 = .ok (.putfield 284, 3) := by decide +kernel
theorem dX6_image_41 : decode cX6_image 41 = .ok (.aload_n 0, 1) := by decide +kernel
theorem dX6_image_42 : decode cX6_image 42 = .ok (.getfield 9, 3) := by decide +kernel
theorem dX6_image_45 : decode cX6_image 45 = .ok (.iconst 0, 1) := by decide +kernel
theorem dX6_image_46 : decode cX6_image 46 = .ok (.aload_n 0, 1) := by decide +kernel
theorem dX6_image_47 : decode cX6_image 47 = .ok (.getfield 54, 3) := by decide +kernel
theorem dX6_image_50 : decode cX6_image 50 = .ok (.getfield 285, 3) := by decide +kernel
theorem dX6_image_53 : decode cX6_image 53 = .ok (.iconst 0, 1) := by decide +kernel
theorem dX6_image_54 : decode cX6_image 54 = .ok (.bipush 8, 2) := by decide +kernel
theorem dX6_image_56 : decode cX6_image 56 = .ok (.invokestatic 286, 3) := by decide +kernel
theorem dX6_image_59 : decode cX6_image 59 = .ok (.iconst 0, 1) := by decide +kernel
theorem dX6_image_60 : decode cX6_image 60 = .ok (.istore_n 1, 1) := by decide +kernel
theorem dX6_image_61 : decode cX6_image 61 = .ok (.iload_n 1, 1) := by decide +kernel
theorem dX6_image_62 : decode cX6_image 62 = .ok (.aload_n 0, 1) := by decide +kernel
theorem dX6_image_63 : decode cX6_image 63 = .ok (.getfield 22, 3) := by decide +kernel
theorem dX6_image_66 : decode cX6_image 66 = .ok (.if_icmp .ge 27, 3) := by decide +kernel
theorem dX6_image_69 : decode cX6_image 69 = .ok (.aload_n 0, 1) := by decide +kernel
theorem dX6_image_70 : decode cX6_image 70 = .ok (.getfield 54, 3) := by decide +kernel
theorem dX6_image_73 : decode cX6_image 73 = .ok (.getfield 292, 3) := by decide +kernel
theorem dX6_image_76 : decode cX6_image 76 = .ok (.iload_n 1, 1) := by decide +kernel
theorem dX6_image_77 : decode cX6_image 77 = .ok (.aaload, 1) := by decide +kernel
theorem dX6_image_78 : decode cX6_image 78 = .ok (.aload_n 0, 1) := by decide +kernel
theorem dX6_image_79 : decode cX6_image 79 = .ok (.getfield 18, 3) := by decide +kernel
theorem dX6_image_82 : decode cX6_image 82 = .ok (.iload_n 1, 1) := by decide +kernel
theorem dX6_image_83 : decode cX6_image 83 = .ok (.aaload, 1) := by decide +kernel
theorem dX6_image_84 : decode cX6_image 84 = .ok (.invokevirtual 293, 3) := by decide +kernel
theorem dX6_image_87 : decode cX6_image 87 = .ok (.iinc 1 1, 3) := by decide +kernel
theorem dX6_image_90 : decode cX6_image 90 = .ok (.goto (-29), 3) := by decide +kernel
theorem dX6_image_93 : decode cX6_image 93 = .ok (.aload_n 0, 1) := by decide +kernel
theorem dX6_image_94 : decode cX6_image 94 = .ok (.getfield 22, 3) := by decide +kernel
theorem dX6_image_97 : decode cX6_image 97 = .ok (.ireturn, 1) := by decide +kernel
theorem dX6_back_0 : decode cX6_back 0 = .ok (.aload_n 0, 1) := by decide +kernel
theorem dX6_back_1 : decode cX6_back 1 = .ok (.getfield 54, 3) := by decide +kernel
theorem dX6_back_4 : decode cX6_back 4 = .ok (.getfield 276, 3) := by decide +kernel
theorem dX6_back_7 : decode cX6_back 7 = .ok (.ifCond .ne 6, 3) := by decide +kernel
theorem dX6_back_10 : decode cX6_back 10 = .ok (.bipush (-3), 2) := by decide +kernel
theorem dX6_back_12 : decode cX6_back 12 = .ok (.ireturn, 1) := by decide +kernel
theorem dX6_back_13 : decode cX6_back 13 = .ok (.aload_n 0, 1) := by decide +kernel
theorem dX6_back_14 : decode cX6_back 14 = .ok (.aload_n 0, 1) := by decide +kernel
theorem dX6_back_15 : decode cX6_back 15 = .ok (.getfield 54, 3) := by decide +kernel
theorem dX6_back_18 : decode cX6_back 18 = .ok (.getfield 280, 3) := by decide +kernel
theorem dX6_back_21 : decode cX6_back 21 = .ok (.putfield 26, 3) := by decide +kernel
theorem dX6_back_24 : decode cX6_back 24 = .ok (.aload_n 0, 1) := by decide +kernel
theorem dX6_back_25 : decode cX6_back 25 = .ok (.aload_n 0, 1) := by decide +kernel
theorem dX6_back_26 : decode cX6_back 26 = .ok (.getfield 54, 3) := by decide +kernel
theorem dX6_back_29 : decode cX6_back 29 = .ok (.getfield 283, 3) := by decide +kernel
theorem dX6_back_32 : decode cX6_back 32 = .ok (.putfield 38, 3) := by decide +kernel
theorem dX6_back_35 : decode cX6_back 35 = .ok (.aload_n 0, 1) := by decide +kernel
theorem dX6_back_36 : decode cX6_back 36 = .ok (.aload_n 0, 1) := by decide +kernel
theorem dX6_back_37 : decode cX6_back 37 = .ok (.getfield 54, 3) := by decide +kernel
theorem dX6_back_40 : decode cX6_back 40 = .ok (.getfield 284, 3) := by decide +kernel
theorem dX6_back_43 : decode cX6_back 43 = .ok (.putfield 22, 3) := by decide +kernel
theorem dX6_back_46 : decode cX6_back 46 = .ok (.aload_n 0, 1) := by decide +kernel
theorem dX6_back_47 : decode cX6_back 47 = .ok (.getfield 54, 3) := by decide +kernel
theorem dX6_back_50 : decode cX6_back 50 = .ok (.getfield 285, 3) := by decide +kernel
theorem dX6_back_53 : decode cX6_back 53 = .ok (.iconst 0, 1) := by decide +kernel
theorem dX6_back_54 : decode cX6_back 54 = .ok (.aload_n 0, 1) := by decide +kernel
theorem dX6_back_55 : decode cX6_back 55 = .ok (.getfield 9, 3) := by decide +kernel
theorem dX6_back_58 : decode cX6_back 58 = .ok (.iconst 0, 1) := by decide +kernel
theorem dX6_back_59 : decode cX6_back 59 = .ok (.bipush 8, 2) := by decide +kernel
theorem dX6_back_61 : decode cX6_back 61 = .ok (.invokestatic 286, 3) := by decide +kernel
theorem dX6_back_64 : decode cX6_back 64 = .ok (.iconst 0, 1) := by decide +kernel
theorem dX6_back_65 : decode cX6_back 65 = .ok (.istore_n 1, 1) := by decide +kernel
theorem dX6_back_66 : decode cX6_back 66 = .ok (.iload_n 1, 1) := by decide +kernel
theorem dX6_back_67 : decode cX6_back 67 = .ok (.aload_n 0, 1) := by decide +kernel
theorem dX6_back_68 : decode cX6_back 68 = .ok (.getfield 22, 3) := by decide +kernel
theorem dX6_back_71 : decode cX6_back 71 = .ok (.if_icmp .ge 27, 3) := by decide +kernel
theorem dX6_back_74 : decode cX6_back 74 = .ok (.aload_n 0, 1) := by decide +kernel
theorem dX6_back_75 : decode cX6_back 75 = .ok (.getfield 18, 3) := by decide +kernel
theorem dX6_back_78 : decode cX6_back 78 = .ok (.iload_n 1, 1) := by decide +kernel
theorem dX6_back_79 : decode cX6_back 79 = .ok (.aaload, 1) := by decide +kernel
theorem dX6_back_80 : decode cX6_back 80 = .ok (.aload_n 0, 1) := by decide +kernel
theorem dX6_back_81 : decode cX6_back 81 = .ok (.getfield 54, 3) := by decide +kernel
theorem dX6_back_84 : decode cX6_back 84 = .ok (.getfield 292, 3) := by decide +kernel
theorem dX6_back_87 : decode cX6_back 87 = .ok (.iload_n 1, 1) := by decide +kernel
theorem dX6_back_88 : decode cX6_back 88 = .ok (.aaload, 1) := by decide +kernel
theorem dX6_back_89 : decode cX6_back 89 = .ok (.invokevirtual 293, 3) := by decide +kernel
theorem dX6_back_92 : decode cX6_back 92 = .ok (.iinc 1 1, 3) := by decide +kernel
theorem dX6_back_95 : decode cX6_back 95 = .ok (.goto (-29), 3) := by decide +kernel
theorem dX6_back_98 : decode cX6_back 98 = .ok (.aload_n 0, 1) := by decide +kernel
theorem dX6_back_99 : decode cX6_back 99 = .ok (.getfield 22, 3) := by decide +kernel
theorem dX6_back_102 : decode cX6_back 102 = .ok (.ireturn, 1) := by decide +kernel
theorem dX6_count_0 : decode cX6_count 0 = .ok (.iload_n 1, 1) := by decide +kernel
theorem dX6_count_1 : decode cX6_count 1 = .ok (.tableswitch 81 0 6 #[43, 48, 53, 58, 63, 68, 76], 43) := by decide +kernel
theorem dX6_count_44 : decode cX6_count 44 = .ok (.aload_n 0, 1) := by decide +kernel
theorem dX6_count_45 : decode cX6_count 45 = .ok (.getfield 22, 3) := by decide +kernel
theorem dX6_count_48 : decode cX6_count 48 = .ok (.ireturn, 1) := by decide +kernel
theorem dX6_count_49 : decode cX6_count 49 = .ok (.aload_n 0, 1) := by decide +kernel
theorem dX6_count_50 : decode cX6_count 50 = .ok (.getfield 26, 3) := by decide +kernel
theorem dX6_count_53 : decode cX6_count 53 = .ok (.ireturn, 1) := by decide +kernel
theorem dX6_count_54 : decode cX6_count 54 = .ok (.aload_n 0, 1) := by decide +kernel
theorem dX6_count_55 : decode cX6_count 55 = .ok (.invokevirtual 296, 3) := by decide +kernel
theorem dX6_count_58 : decode cX6_count 58 = .ok (.ireturn, 1) := by decide +kernel
theorem dX6_count_59 : decode cX6_count 59 = .ok (.aload_n 0, 1) := by decide +kernel
theorem dX6_count_60 : decode cX6_count 60 = .ok (.invokevirtual 299, 3) := by decide +kernel
theorem dX6_count_63 : decode cX6_count 63 = .ok (.ireturn, 1) := by decide +kernel
theorem dX6_count_64 : decode cX6_count 64 = .ok (.aload_n 0, 1) := by decide +kernel
theorem dX6_count_65 : decode cX6_count 65 = .ok (.getfield 35, 3) := by decide +kernel
theorem dX6_count_68 : decode cX6_count 68 = .ok (.ireturn, 1) := by decide +kernel
theorem dX6_count_69 : decode cX6_count 69 = .ok (.aload_n 0, 1) := by decide +kernel
theorem dX6_count_70 : decode cX6_count 70 = .ok (.getfield 44, 3) := by decide +kernel
theorem dX6_count_73 : decode cX6_count 73 = .ok (.getfield 163, 3) := by decide +kernel
theorem dX6_count_76 : decode cX6_count 76 = .ok (.ireturn, 1) := by decide +kernel
theorem dX6_count_77 : decode cX6_count 77 = .ok (.aload_n 0, 1) := by decide +kernel
theorem dX6_count_78 : decode cX6_count 78 = .ok (.getfield 38, 3) := by decide +kernel
theorem dX6_count_81 : decode cX6_count 81 = .ok (.ireturn, 1) := by decide +kernel
theorem dX6_count_82 : decode cX6_count 82 = .ok (.bipush (-2), 2) := by decide +kernel
theorem dX6_count_84 : decode cX6_count 84 = .ok (.ireturn, 1) := by decide +kernel
theorem dX6_sheet_0 : decode cX6_sheet 0 = .ok (.aload_n 0, 1) := by decide +kernel
theorem dX6_sheet_1 : decode cX6_sheet 1 = .ok (.iload_n 1, 1) := by decide +kernel
theorem dX6_sheet_2 : decode cX6_sheet 2 = .ok (.invokevirtual 230, 3) := by decide +kernel
theorem dX6_sheet_5 : decode cX6_sheet 5 = .ok (.astore 4, 2) := by decide +kernel
theorem dX6_sheet_7 : decode cX6_sheet 7 = .ok (.aload 4, 2) := by decide +kernel
theorem dX6_sheet_9 : decode cX6_sheet 9 = .ok (.ifnull 12, 3) := by decide +kernel
theorem dX6_sheet_12 : decode cX6_sheet 12 = .ok (.iload_n 2, 1) := by decide +kernel
theorem dX6_sheet_13 : decode cX6_sheet 13 = .ok (.iconst (-1), 1) := by decide +kernel
theorem dX6_sheet_14 : decode cX6_sheet 14 = .ok (.iconst 2, 1) := by decide +kernel
theorem dX6_sheet_15 : decode cX6_sheet 15 = .ok (.invokestatic 114, 3) := by decide +kernel
theorem dX6_sheet_18 : decode cX6_sheet 18 = .ok (.ifCond .ne 6, 3) := by decide +kernel
theorem dX6_sheet_21 : decode cX6_sheet 21 = .ok (.bipush (-2), 2) := by decide +kernel
theorem dX6_sheet_23 : decode cX6_sheet 23 = .ok (.ireturn, 1) := by decide +kernel
theorem dX6_sheet_24 : decode cX6_sheet 24 = .ok (.iload_n 2, 1) := by decide +kernel
theorem dX6_sheet_25 : decode cX6_sheet 25 = .ok (.iconst (-1), 1) := by decide +kernel
theorem dX6_sheet_26 : decode cX6_sheet 26 = .ok (.if_icmp .ne 12, 3) := by decide +kernel
theorem dX6_sheet_29 : decode cX6_sheet 29 = .ok (.aload 4, 2) := by decide +kernel
theorem dX6_sheet_31 : decode cX6_sheet 31 = .ok (.iconst (-1), 1) := by decide +kernel
theorem dX6_sheet_32 : decode cX6_sheet 32 = .ok (.iconst 0, 1) := by decide +kernel
theorem dX6_sheet_33 : decode cX6_sheet 33 = .ok (.invokevirtual 258, 3) := by decide +kernel
theorem dX6_sheet_36 : decode cX6_sheet 36 = .ok (.iconst 1, 1) := by decide +kernel
theorem dX6_sheet_37 : decode cX6_sheet 37 = .ok (.ireturn, 1) := by decide +kernel
theorem dX6_sheet_38 : decode cX6_sheet 38 = .ok (.iload_n 3, 1) := by decide +kernel
theorem dX6_sheet_39 : decode cX6_sheet 39 = .ok (.bipush 40, 2) := by decide +kernel
theorem dX6_sheet_41 : decode cX6_sheet 41 = .ok (.if_icmp .le 6, 3) := by decide +kernel
theorem dX6_sheet_44 : decode cX6_sheet 44 = .ok (.bipush (-2), 2) := by decide +kernel
theorem dX6_sheet_46 : decode cX6_sheet 46 = .ok (.ireturn, 1) := by decide +kernel
theorem dX6_sheet_47 : decode cX6_sheet 47 = .ok (.iload_n 3, 1) := by decide +kernel
theorem dX6_sheet_48 : decode cX6_sheet 48 = .ok (.ifCond .ge 6, 3) := by decide +kernel
theorem dX6_sheet_51 : decode cX6_sheet 51 = .ok (.bipush (-14), 2) := by decide +kernel
theorem dX6_sheet_53 : decode cX6_sheet 53 = .ok (.ireturn, 1) := by decide +kernel
theorem dX6_sheet_54 : decode cX6_sheet 54 = .ok (.aload 4, 2) := by decide +kernel
theorem dX6_sheet_56 : decode cX6_sheet 56 = .ok (.iload_n 2, 1) := by decide +kernel
theorem dX6_sheet_57 : decode cX6_sheet 57 = .ok (.iload_n 3, 1) := by decide +kernel
theorem dX6_sheet_58 : decode cX6_sheet 58 = .ok (.invokevirtual 258, 3) := by decide +kernel
theorem dX6_sheet_61 : decode cX6_sheet 61 = .ok (.iconst 1, 1) := by decide +kernel
theorem dX6_sheet_62 : decode cX6_sheet 62 = .ok (.ireturn, 1) := by decide +kernel
theorem dX6_cell_0 : decode cX6_cell 0 = .ok (.aload_n 0, 1) := by decide +kernel
theorem dX6_cell_1 : decode cX6_cell 1 = .ok (.iload_n 1, 1) := by decide +kernel
theorem dX6_cell_2 : decode cX6_cell 2 = .ok (.invokevirtual 230, 3) := by decide +kernel
theorem dX6_cell_5 : decode cX6_cell 5 = .ok (.astore 4, 2) := by decide +kernel
theorem dX6_cell_7 : decode cX6_cell 7 = .ok (.aload 4, 2) := by decide +kernel
theorem dX6_cell_9 : decode cX6_cell 9 = .ok (.ifnonnull 6, 3) := by decide +kernel
theorem dX6_cell_12 : decode cX6_cell 12 = .ok (.bipush (-2), 2) := by decide +kernel
theorem dX6_cell_14 : decode cX6_cell 14 = .ok (.ireturn, 1) := by decide +kernel
theorem dX6_cell_15 : decode cX6_cell 15 = .ok (.aload 4, 2) := by decide +kernel
theorem dX6_cell_17 : decode cX6_cell 17 = .ok (.invokevirtual 234, 3) := by decide +kernel
theorem dX6_cell_20 : decode cX6_cell 20 = .ok (.ifCond .eq 6, 3) := by decide +kernel
theorem dX6_cell_23 : decode cX6_cell 23 = .ok (.bipush (-11), 2) := by decide +kernel
theorem dX6_cell_25 : decode cX6_cell 25 = .ok (.ireturn, 1) := by decide +kernel
theorem dX6_cell_26 : decode cX6_cell 26 = .ok (.aload 4, 2) := by decide +kernel
theorem dX6_cell_28 : decode cX6_cell 28 = .ok (.iload_n 2, 1) := by decide +kernel
theorem dX6_cell_29 : decode cX6_cell 29 = .ok (.iconst 1, 1) := by decide +kernel
theorem dX6_cell_30 : decode cX6_cell 30 = .ok (.invokevirtual 302, 3) := by decide +kernel
theorem dX6_cell_33 : decode cX6_cell 33 = .ok (.ifCond .ne 6, 3) := by decide +kernel
theorem dX6_cell_36 : decode cX6_cell 36 = .ok (.bipush (-12), 2) := by decide +kernel
theorem dX6_cell_38 : decode cX6_cell 38 = .ok (.ireturn, 1) := by decide +kernel
theorem dX6_cell_39 : decode cX6_cell 39 = .ok (.aload 4, 2) := by decide +kernel
theorem dX6_cell_41 : decode cX6_cell 41 = .ok (.iload_n 2, 1) := by decide +kernel
theorem dX6_cell_42 : decode cX6_cell 42 = .ok (.iload_n 3, 1) := by decide +kernel
theorem dX6_cell_43 : decode cX6_cell 43 = .ok (.invokevirtual 262, 3) := by decide +kernel
theorem dX6_cell_46 : decode cX6_cell 46 = .ok (.iconst 1, 1) := by decide +kernel
theorem dX6_cell_47 : decode cX6_cell 47 = .ok (.ireturn, 1) := by decide +kernel
theorem dX6_copy_0 : decode cX6_copy 0 = .ok (.aload_n 0, 1) := by decide +kernel
theorem dX6_copy_1 : decode cX6_copy 1 = .ok (.iload_n 1, 1) := by decide +kernel
theorem dX6_copy_2 : decode cX6_copy 2 = .ok (.invokevirtual 230, 3) := by decide +kernel
theorem dX6_copy_5 : decode cX6_copy 5 = .ok (.astore 6, 2) := by decide +kernel
theorem dX6_copy_7 : decode cX6_copy 7 = .ok (.aload_n 0, 1) := by decide +kernel
theorem dX6_copy_8 : decode cX6_copy 8 = .ok (.iload_n 3, 1) := by decide +kernel
theorem dX6_copy_9 : decode cX6_copy 9 = .ok (.invokevirtual 230, 3) := by decide +kernel
theorem dX6_copy_12 : decode cX6_copy 12 = .ok (.astore 7, 2) := by decide +kernel
theorem dX6_copy_14 : decode cX6_copy 14 = .ok (.aload 6, 2) := by decide +kernel
theorem dX6_copy_16 : decode cX6_copy 16 = .ok (.ifnull 8, 3) := by decide +kernel
theorem dX6_copy_19 : decode cX6_copy 19 = .ok (.aload 7, 2) := by decide +kernel
theorem dX6_copy_21 : decode cX6_copy 21 = .ok (.ifnonnull 6, 3) := by decide +kernel
theorem dX6_copy_24 : decode cX6_copy 24 = .ok (.bipush (-2), 2) := by decide +kernel
theorem dX6_copy_26 : decode cX6_copy 26 = .ok (.ireturn, 1) := by decide +kernel
theorem dX6_copy_27 : decode cX6_copy 27 = .ok (.aload 6, 2) := by decide +kernel
theorem dX6_copy_29 : decode cX6_copy 29 = .ok (.invokevirtual 234, 3) := by decide +kernel
theorem dX6_copy_32 : decode cX6_copy 32 = .ok (.ifCond .ne 11, 3) := by decide +kernel
theorem dX6_copy_35 : decode cX6_copy 35 = .ok (.aload 7, 2) := by decide +kernel
theorem dX6_copy_37 : decode cX6_copy 37 = .ok (.invokevirtual 234, 3) := by decide +kernel
theorem dX6_copy_40 : decode cX6_copy 40 = .ok (.ifCond .eq 6, 3) := by decide +kernel
theorem dX6_copy_43 : decode cX6_copy 43 = .ok (.bipush (-11), 2) := by decide +kernel
theorem dX6_copy_45 : decode cX6_copy 45 = .ok (.ireturn, 1) := by decide +kernel
theorem dX6_copy_46 : decode cX6_copy 46 = .ok (.aload 6, 2) := by decide +kernel
theorem dX6_copy_48 : decode cX6_copy 48 = .ok (.getfield 305, 3) := by decide +kernel
theorem dX6_copy_51 : decode cX6_copy 51 = .ok (.aload 7, 2) := by decide +kernel
theorem dX6_copy_53 : decode cX6_copy 53 = .ok (.getfield 305, 3) := by decide +kernel
theorem dX6_copy_56 : decode cX6_copy 56 = .ok (.if_icmp .eq 6, 3) := by decide +kernel
theorem dX6_copy_59 : decode cX6_copy 59 = .ok (.bipush (-13), 2) := by decide +kernel
theorem dX6_copy_61 : decode cX6_copy 61 = .ok (.ireturn, 1) := by decide +kernel
theorem dX6_copy_62 : decode cX6_copy 62 = .ok (.aload 6, 2) := by decide +kernel
theorem dX6_copy_64 : decode cX6_copy 64 = .ok (.iload_n 2, 1) := by decide +kernel
theorem dX6_copy_65 : decode cX6_copy 65 = .ok (.iload 5, 2) := by decide +kernel
theorem dX6_copy_67 : decode cX6_copy 67 = .ok (.invokevirtual 302, 3) := by decide +kernel
theorem dX6_copy_70 : decode cX6_copy 70 = .ok (.ifCond .eq 15, 3) := by decide +kernel
theorem dX6_copy_73 : decode cX6_copy 73 = .ok (.aload 7, 2) := by decide +kernel
theorem dX6_copy_75 : decode cX6_copy 75 = .ok (.iload 4, 2) := by decide +kernel
theorem dX6_copy_77 : decode cX6_copy 77 = .ok (.iload 5, 2) := by decide +kernel
theorem dX6_copy_79 : decode cX6_copy 79 = .ok (.invokevirtual 302, 3) := by decide +kernel
theorem dX6_copy_82 : decode cX6_copy 82 = .ok (.ifCond .ne 6, 3) := by decide +kernel
theorem dX6_copy_85 : decode cX6_copy 85 = .ok (.bipush (-12), 2) := by decide +kernel
theorem dX6_copy_87 : decode cX6_copy 87 = .ok (.ireturn, 1) := by decide +kernel
theorem dX6_copy_88 : decode cX6_copy 88 = .ok (.aload 6, 2) := by decide +kernel
theorem dX6_copy_90 : decode cX6_copy 90 = .ok (.getfield 308, 3) := by decide +kernel
theorem dX6_copy_93 : decode cX6_copy 93 = .ok (.iload_n 2, 1) := by decide +kernel
theorem dX6_copy_94 : decode cX6_copy 94 = .ok (.aload 7, 2) := by decide +kernel
theorem dX6_copy_96 : decode cX6_copy 96 = .ok (.getfield 308, 3) := by decide +kernel
theorem dX6_copy_99 : decode cX6_copy 99 = .ok (.iload 4, 2) := by decide +kernel
theorem dX6_copy_101 : decode cX6_copy 101 = .ok (.iload 5, 2) := by decide +kernel
theorem dX6_copy_103 : decode cX6_copy 103 = .ok (.invokestatic 286, 3) := by decide +kernel
theorem dX6_copy_106 : decode cX6_copy 106 = .ok (.iload 5, 2) := by decide +kernel
theorem dX6_copy_108 : decode cX6_copy 108 = .ok (.ireturn, 1) := by decide +kernel
theorem dX6_walkers_0 : decode cX6_walkers 0 = .ok (.aload_n 0, 1) := by decide +kernel
theorem dX6_walkers_1 : decode cX6_walkers 1 = .ok (.iload_n 1, 1) := by decide +kernel
theorem dX6_walkers_2 : decode cX6_walkers 2 = .ok (.invokevirtual 230, 3) := by decide +kernel
theorem dX6_walkers_5 : decode cX6_walkers 5 = .ok (.astore 5, 2) := by decide +kernel
theorem dX6_walkers_7 : decode cX6_walkers 7 = .ok (.aload 5, 2) := by decide +kernel
theorem dX6_walkers_9 : decode cX6_walkers 9 = .ok (.ifnull 23, 3) := by decide +kernel
theorem dX6_walkers_12 : decode cX6_walkers 12 = .ok (.iload_n 2, 1) := by decide +kernel
theorem dX6_walkers_13 : decode cX6_walkers 13 = .ok (.iconst 0, 1) := by decide +kernel
theorem dX6_walkers_14 : decode cX6_walkers 14 = .ok (.iconst 2, 1) := by decide +kernel
theorem dX6_walkers_15 : decode cX6_walkers 15 = .ok (.invokestatic 114, 3) := by decide +kernel
theorem dX6_walkers_18 : decode cX6_walkers 18 = .ok (.ifCond .eq 14, 3) := by decide +kernel
theorem dX6_walkers_21 : decode cX6_walkers 21 = .ok (.iload 4, 2) := by decide +kernel
theorem dX6_walkers_23 : decode cX6_walkers 23 = .ok (.iconst 0, 1) := by decide +kernel
theorem dX6_walkers_24 : decode cX6_walkers 24 = .ok (.bipush 6, 2) := by decide +kernel
theorem dX6_walkers_26 : decode cX6_walkers 26 = .ok (.invokestatic 114, 3) := by decide +kernel
theorem dX6_walkers_29 : decode cX6_walkers 29 = .ok (.ifCond .ne 6, 3) := by decide +kernel
theorem dX6_walkers_32 : decode cX6_walkers 32 = .ok (.bipush (-2), 2) := by decide +kernel
theorem dX6_walkers_34 : decode cX6_walkers 34 = .ok (.ireturn, 1) := by decide +kernel
theorem dX6_walkers_35 : decode cX6_walkers 35 = .ok (.aload 5, 2) := by decide +kernel
theorem dX6_walkers_37 : decode cX6_walkers 37 = .ok (.invokevirtual 234, 3) := by decide +kernel
theorem dX6_walkers_40 : decode cX6_walkers 40 = .ok (.ifCond .ne 15, 3) := by decide +kernel
theorem dX6_walkers_43 : decode cX6_walkers 43 = .ok (.aload 5, 2) := by decide +kernel
theorem dX6_walkers_45 : decode cX6_walkers 45 = .ok (.getfield 305, 3) := by decide +kernel
theorem dX6_walkers_48 : decode cX6_walkers 48 = .ok (.iload_n 2, 1) := by decide +kernel
theorem dX6_walkers_49 : decode cX6_walkers 49 = .ok (.if_icmp .eq 6, 3) := by decide +kernel
theorem dX6_walkers_52 : decode cX6_walkers 52 = .ok (.bipush (-13), 2) := by decide +kernel
theorem dX6_walkers_54 : decode cX6_walkers 54 = .ok (.ireturn, 1) := by decide +kernel
theorem dX6_walkers_55 : decode cX6_walkers 55 = .ok (.aload 5, 2) := by decide +kernel
theorem dX6_walkers_57 : decode cX6_walkers 57 = .ok (.invokevirtual 234, 3) := by decide +kernel
theorem dX6_walkers_60 : decode cX6_walkers 60 = .ok (.ifCond .eq 6, 3) := by decide +kernel
theorem dX6_walkers_63 : decode cX6_walkers 63 = .ok (.bipush (-11), 2) := by decide +kernel
theorem dX6_walkers_65 : decode cX6_walkers 65 = .ok (.ireturn, 1) := by decide +kernel
theorem dX6_walkers_66 : decode cX6_walkers 66 = .ok (.iconst 0, 1) := by decide +kernel
theorem dX6_walkers_67 : decode cX6_walkers 67 = .ok (.istore 6, 2) := by decide +kernel
theorem dX6_walkers_69 : decode cX6_walkers 69 = .ok (.iconst 0, 1) := by decide +kernel
theorem dX6_walkers_70 : decode cX6_walkers 70 = .ok (.istore 7, 2) := by decide +kernel
theorem dX6_walkers_72 : decode cX6_walkers 72 = .ok (.iload 7, 2) := by decide +kernel
theorem dX6_walkers_74 : decode cX6_walkers 74 = .ok (.iload 4, 2) := by decide +kernel
theorem dX6_walkers_76 : decode cX6_walkers 76 = .ok (.if_icmp .ge 83, 3) := by decide +kernel
theorem dX6_walkers_79 : decode cX6_walkers 79 = .ok (.aload 5, 2) := by decide +kernel
theorem dX6_walkers_81 : decode cX6_walkers 81 = .ok (.iload_n 3, 1) := by decide +kernel
theorem dX6_walkers_82 : decode cX6_walkers 82 = .ok (.iconst 3, 1) := by decide +kernel
theorem dX6_walkers_83 : decode cX6_walkers 83 = .ok (.iload 7, 2) := by decide +kernel
theorem dX6_walkers_85 : decode cX6_walkers 85 = .ok (.iconst 1, 1) := by decide +kernel
theorem dX6_walkers_86 : decode cX6_walkers 86 = .ok (.iadd, 1) := by decide +kernel
theorem dX6_walkers_87 : decode cX6_walkers 87 = .ok (.imul, 1) := by decide +kernel
theorem dX6_walkers_88 : decode cX6_walkers 88 = .ok (.invokevirtual 302, 3) := by decide +kernel
theorem dX6_walkers_91 : decode cX6_walkers 91 = .ok (.ifCond .ne 6, 3) := by decide +kernel
theorem dX6_walkers_94 : decode cX6_walkers 94 = .ok (.bipush (-12), 2) := by decide +kernel
theorem dX6_walkers_96 : decode cX6_walkers 96 = .ok (.ireturn, 1) := by decide +kernel
theorem dX6_walkers_97 : decode cX6_walkers 97 = .ok (.iload_n 3, 1) := by decide +kernel
theorem dX6_walkers_98 : decode cX6_walkers 98 = .ok (.iconst 3, 1) := by decide +kernel
theorem dX6_walkers_99 : decode cX6_walkers 99 = .ok (.iload 7, 2) := by decide +kernel
theorem dX6_walkers_101 : decode cX6_walkers 101 = .ok (.imul, 1) := by decide +kernel
theorem dX6_walkers_102 : decode cX6_walkers 102 = .ok (.iadd, 1) := by decide +kernel
theorem dX6_walkers_103 : decode cX6_walkers 103 = .ok (.istore 8, 2) := by decide +kernel
theorem dX6_walkers_105 : decode cX6_walkers 105 = .ok (.iload 6, 2) := by decide +kernel
theorem dX6_walkers_107 : decode cX6_walkers 107 = .ok (.aload_n 0, 1) := by decide +kernel
theorem dX6_walkers_108 : decode cX6_walkers 108 = .ok (.aload 5, 2) := by decide +kernel
theorem dX6_walkers_110 : decode cX6_walkers 110 = .ok (.getfield 308, 3) := by decide +kernel
theorem dX6_walkers_113 : decode cX6_walkers 113 = .ok (.iload 8, 2) := by decide +kernel
theorem dX6_walkers_115 : decode cX6_walkers 115 = .ok (.iaload, 1) := by decide +kernel
theorem dX6_walkers_116 : decode cX6_walkers 116 = .ok (.aload 5, 2) := by decide +kernel
theorem dX6_walkers_118 : decode cX6_walkers 118 = .ok (.getfield 308, 3) := by decide +kernel
theorem dX6_walkers_121 : decode cX6_walkers 121 = .ok (.iload 8, 2) := by decide +kernel
theorem dX6_walkers_123 : decode cX6_walkers 123 = .ok (.iconst 1, 1) := by decide +kernel
theorem dX6_walkers_124 : decode cX6_walkers 124 = .ok (.iadd, 1) := by decide +kernel
theorem dX6_walkers_125 : decode cX6_walkers 125 = .ok (.iaload, 1) := by decide +kernel
theorem dX6_walkers_126 : decode cX6_walkers 126 = .ok (.aload 5, 2) := by decide +kernel
theorem dX6_walkers_128 : decode cX6_walkers 128 = .ok (.getfield 308, 3) := by decide +kernel
theorem dX6_walkers_131 : decode cX6_walkers 131 = .ok (.iload 8, 2) := by decide +kernel
theorem dX6_walkers_133 : decode cX6_walkers 133 = .ok (.iconst 2, 1) := by decide +kernel
theorem dX6_walkers_134 : decode cX6_walkers 134 = .ok (.iadd, 1) := by decide +kernel
theorem dX6_walkers_135 : decode cX6_walkers 135 = .ok (.iaload, 1) := by decide +kernel
theorem dX6_walkers_136 : decode cX6_walkers 136 = .ok (.invokevirtual 311, 3) := by decide +kernel
theorem dX6_walkers_139 : decode cX6_walkers 139 = .ok (.ifCond .lt 7, 3) := by decide +kernel
theorem dX6_walkers_142 : decode cX6_walkers 142 = .ok (.iconst 1, 1) := by decide +kernel
theorem dX6_walkers_143 : decode cX6_walkers 143 = .ok (.goto 4, 3) := by decide +kernel
theorem dX6_walkers_146 : decode cX6_walkers 146 = .ok (.iconst 0, 1) := by decide +kernel
theorem dX6_walkers_147 : decode cX6_walkers 147 = .ok (.invokestatic 156, 3) := by decide +kernel
theorem dX6_walkers_150 : decode cX6_walkers 150 = .ok (.iadd, 1) := by decide +kernel
theorem dX6_walkers_151 : decode cX6_walkers 151 = .ok (.istore 6, 2) := by decide +kernel
theorem dX6_walkers_153 : decode cX6_walkers 153 = .ok (.iinc 7 1, 3) := by decide +kernel
theorem dX6_walkers_156 : decode cX6_walkers 156 = .ok (.goto (-84), 3) := by decide +kernel
theorem dX6_walkers_159 : decode cX6_walkers 159 = .ok (.iload 6, 2) := by decide +kernel
theorem dX6_walkers_161 : decode cX6_walkers 161 = .ok (.ireturn, 1) := by decide +kernel
theorem dX6_taken_0 : decode cX6_taken 0 = .ok (.iload_n 2, 1) := by decide +kernel
theorem dX6_taken_1 : decode cX6_taken 1 = .ok (.iconst 0, 1) := by decide +kernel
theorem dX6_taken_2 : decode cX6_taken 2 = .ok (.iconst 5, 1) := by decide +kernel
theorem dX6_taken_3 : decode cX6_taken 3 = .ok (.invokestatic 114, 3) := by decide +kernel
theorem dX6_taken_6 : decode cX6_taken 6 = .ok (.ifCond .ne 6, 3) := by decide +kernel
theorem dX6_taken_9 : decode cX6_taken 9 = .ok (.bipush (-2), 2) := by decide +kernel
theorem dX6_taken_11 : decode cX6_taken 11 = .ok (.ireturn, 1) := by decide +kernel
theorem dX6_taken_12 : decode cX6_taken 12 = .ok (.aload_n 0, 1) := by decide +kernel
theorem dX6_taken_13 : decode cX6_taken 13 = .ok (.iload_n 1, 1) := by decide +kernel
theorem dX6_taken_14 : decode cX6_taken 14 = .ok (.invokevirtual 129, 3) := by decide +kernel
theorem dX6_taken_17 : decode cX6_taken 17 = .ok (.astore_n 3, 1) := by decide +kernel
theorem dX6_taken_18 : decode cX6_taken 18 = .ok (.aload_n 3, 1) := by decide +kernel
theorem dX6_taken_19 : decode cX6_taken 19 = .ok (.ifnonnull 6, 3) := by decide +kernel
theorem dX6_taken_22 : decode cX6_taken 22 = .ok (.bipush (-11), 2) := by decide +kernel
theorem dX6_taken_24 : decode cX6_taken 24 = .ok (.ireturn, 1) := by decide +kernel
theorem dX6_taken_25 : decode cX6_taken 25 = .ok (.aload_n 3, 1) := by decide +kernel
theorem dX6_taken_26 : decode cX6_taken 26 = .ok (.getfield 137, 3) := by decide +kernel
theorem dX6_taken_29 : decode cX6_taken 29 = .ok (.iload_n 2, 1) := by decide +kernel
theorem dX6_taken_30 : decode cX6_taken 30 = .ok (.invokestatic 315, 3) := by decide +kernel
theorem dX6_taken_33 : decode cX6_taken 33 = .ok (.ifCond .eq 10, 3) := by decide +kernel
theorem dX6_taken_36 : decode cX6_taken 36 = .ok (.aload_n 3, 1) := by decide +kernel
theorem dX6_taken_37 : decode cX6_taken 37 = .ok (.getfield 318, 3) := by decide +kernel
theorem dX6_taken_40 : decode cX6_taken 40 = .ok (.goto 5, 3) := by decide +kernel
theorem dX6_taken_43 : decode cX6_taken 43 = .ok (.bipush (-13), 2) := by decide +kernel
theorem dX6_taken_45 : decode cX6_taken 45 = .ok (.ireturn, 1) := by decide +kernel
theorem dX6_within_0 : decode cX6_within 0 = .ok (.iload_n 0, 1) := by decide +kernel
theorem dX6_within_1 : decode cX6_within 1 = .ok (.iload_n 1, 1) := by decide +kernel
theorem dX6_within_2 : decode cX6_within 2 = .ok (.if_icmp .lt 12, 3) := by decide +kernel
theorem dX6_within_5 : decode cX6_within 5 = .ok (.iload_n 0, 1) := by decide +kernel
theorem dX6_within_6 : decode cX6_within 6 = .ok (.iload_n 2, 1) := by decide +kernel
theorem dX6_within_7 : decode cX6_within 7 = .ok (.if_icmp .gt 7, 3) := by decide +kernel
theorem dX6_within_10 : decode cX6_within 10 = .ok (.iconst 1, 1) := by decide +kernel
theorem dX6_within_11 : decode cX6_within 11 = .ok (.goto 4, 3) := by decide +kernel
theorem dX6_within_14 : decode cX6_within 14 = .ok (.iconst 0, 1) := by decide +kernel
theorem dX6_within_15 : decode cX6_within 15 = .ok (.ireturn, 1) := by decide +kernel
theorem dX6_bounded_0 : decode cX6_bounded 0 = .ok (.iconst 0, 1) := by decide +kernel
theorem dX6_bounded_1 : decode cX6_bounded 1 = .ok (.iload_n 1, 1) := by decide +kernel
theorem dX6_bounded_2 : decode cX6_bounded 2 = .ok (.iload_n 0, 1) := by decide +kernel
theorem dX6_bounded_3 : decode cX6_bounded 3 = .ok (.invokestatic 321, 3) := by decide +kernel
theorem dX6_bounded_6 : decode cX6_bounded 6 = .ok (.invokestatic 326, 3) := by decide +kernel
theorem dX6_bounded_9 : decode cX6_bounded 9 = .ok (.ireturn, 1) := by decide +kernel
theorem dX6_bit_0 : decode cX6_bit 0 = .ok (.iload_n 0, 1) := by decide +kernel
theorem dX6_bit_1 : decode cX6_bit 1 = .ok (.ifCond .eq 7, 3) := by decide +kernel
theorem dX6_bit_4 : decode cX6_bit 4 = .ok (.iconst 1, 1) := by decide +kernel
theorem dX6_bit_5 : decode cX6_bit 5 = .ok (.goto 4, 3) := by decide +kernel
theorem dX6_bit_8 : decode cX6_bit 8 = .ok (.iconst 0, 1) := by decide +kernel
theorem dX6_bit_9 : decode cX6_bit 9 = .ok (.ireturn, 1) := by decide +kernel
theorem dX6_has_0 : decode cX6_has 0 = .ok (.iload_n 0, 1) := by decide +kernel
theorem dX6_has_1 : decode cX6_has 1 = .ok (.iload_n 1, 1) := by decide +kernel
theorem dX6_has_2 : decode cX6_has 2 = .ok (.ishr, 1) := by decide +kernel
theorem dX6_has_3 : decode cX6_has 3 = .ok (.iconst 1, 1) := by decide +kernel
theorem dX6_has_4 : decode cX6_has 4 = .ok (.iand, 1) := by decide +kernel
theorem dX6_has_5 : decode cX6_has 5 = .ok (.iconst 1, 1) := by decide +kernel
theorem dX6_has_6 : decode cX6_has 6 = .ok (.if_icmp .ne 7, 3) := by decide +kernel
theorem dX6_has_9 : decode cX6_has 9 = .ok (.iconst 1, 1) := by decide +kernel
theorem dX6_has_10 : decode cX6_has 10 = .ok (.goto 4, 3) := by decide +kernel
theorem dX6_has_13 : decode cX6_has 13 = .ok (.iconst 0, 1) := by decide +kernel
theorem dX6_has_14 : decode cX6_has 14 = .ok (.ireturn, 1) := by decide +kernel
theorem dX6_isPart_0 : decode cX6_isPart 0 = .ok (.iload_n 0, 1) := by decide +kernel
theorem dX6_isPart_1 : decode cX6_isPart 1 = .ok (.iload_n 1, 1) := by decide +kernel
theorem dX6_isPart_2 : decode cX6_isPart 2 = .ok (.iconst (-1), 1) := by decide +kernel
theorem dX6_isPart_3 : decode cX6_isPart 3 = .ok (.ixor, 1) := by decide +kernel
theorem dX6_isPart_4 : decode cX6_isPart 4 = .ok (.iand, 1) := by decide +kernel
theorem dX6_isPart_5 : decode cX6_isPart 5 = .ok (.ifCond .ne 7, 3) := by decide +kernel
theorem dX6_isPart_8 : decode cX6_isPart 8 = .ok (.iconst 1, 1) := by decide +kernel
theorem dX6_isPart_9 : decode cX6_isPart 9 = .ok (.goto 4, 3) := by decide +kernel
theorem dX6_isPart_12 : decode cX6_isPart 12 = .ok (.iconst 0, 1) := by decide +kernel
theorem dX6_isPart_13 : decode cX6_isPart 13 = .ok (.ireturn, 1) := by decide +kernel
theorem dX6_isDays_0 : decode cX6_isDays 0 = .ok (.iload_n 0, 1) := by decide +kernel
theorem dX6_isDays_1 : decode cX6_isDays 1 = .ok (.iconst 0, 1) := by decide +kernel
theorem dX6_isDays_2 : decode cX6_isDays 2 = .ok (.bipush 40, 2) := by decide +kernel
theorem dX6_isDays_4 : decode cX6_isDays 4 = .ok (.invokestatic 114, 3) := by decide +kernel
theorem dX6_isDays_7 : decode cX6_isDays 7 = .ok (.ireturn, 1) := by decide +kernel
theorem dX6_isThing_0 : decode cX6_isThing 0 = .ok (.iload_n 0, 1) := by decide +kernel
theorem dX6_isThing_1 : decode cX6_isThing 1 = .ok (.iconst 0, 1) := by decide +kernel
theorem dX6_isThing_2 : decode cX6_isThing 2 = .ok (.bipush 7, 2) := by decide +kernel
theorem dX6_isThing_4 : decode cX6_isThing 4 = .ok (.invokestatic 114, 3) := by decide +kernel
theorem dX6_isThing_7 : decode cX6_isThing 7 = .ok (.ireturn, 1) := by decide +kernel
theorem dX6_isUnder_0 : decode cX6_isUnder 0 = .ok (.iload_n 0, 1) := by decide +kernel
theorem dX6_isUnder_1 : decode cX6_isUnder 1 = .ok (.istore_n 2, 1) := by decide +kernel
theorem dX6_isUnder_2 : decode cX6_isUnder 2 = .ok (.iconst 0, 1) := by decide +kernel
theorem dX6_isUnder_3 : decode cX6_isUnder 3 = .ok (.istore_n 3, 1) := by decide +kernel
theorem dX6_isUnder_4 : decode cX6_isUnder 4 = .ok (.iload_n 3, 1) := by decide +kernel
theorem dX6_isUnder_5 : decode cX6_isUnder 5 = .ok (.bipush 6, 2) := by decide +kernel
theorem dX6_isUnder_7 : decode cX6_isUnder 7 = .ok (.if_icmp .ge 34, 3) := by decide +kernel
theorem dX6_isUnder_10 : decode cX6_isUnder 10 = .ok (.iload_n 2, 1) := by decide +kernel
theorem dX6_isUnder_11 : decode cX6_isUnder 11 = .ok (.ifCond .lt 30, 3) := by decide +kernel
theorem dX6_isUnder_14 : decode cX6_isUnder 14 = .ok (.iload_n 2, 1) := by decide +kernel
theorem dX6_isUnder_15 : decode cX6_isUnder 15 = .ok (.getstatic 329, 3) := by decide +kernel
theorem dX6_isUnder_18 : decode cX6_isUnder 18 = .ok (.arraylength, 1) := by decide +kernel
theorem dX6_isUnder_19 : decode cX6_isUnder 19 = .ok (.if_icmp .ge 22, 3) := by decide +kernel
theorem dX6_isUnder_22 : decode cX6_isUnder 22 = .ok (.iload_n 2, 1) := by decide +kernel
theorem dX6_isUnder_23 : decode cX6_isUnder 23 = .ok (.iload_n 1, 1) := by decide +kernel
theorem dX6_isUnder_24 : decode cX6_isUnder 24 = .ok (.if_icmp .ne 5, 3) := by decide +kernel
theorem dX6_isUnder_27 : decode cX6_isUnder 27 = .ok (.iconst 1, 1) := by decide +kernel
theorem dX6_isUnder_28 : decode cX6_isUnder 28 = .ok (.ireturn, 1) := by decide +kernel
theorem dX6_isUnder_29 : decode cX6_isUnder 29 = .ok (.getstatic 329, 3) := by decide +kernel
theorem dX6_isUnder_32 : decode cX6_isUnder 32 = .ok (.iload_n 2, 1) := by decide +kernel
theorem dX6_isUnder_33 : decode cX6_isUnder 33 = .ok (.iaload, 1) := by decide +kernel
theorem dX6_isUnder_34 : decode cX6_isUnder 34 = .ok (.istore_n 2, 1) := by decide +kernel
theorem dX6_isUnder_35 : decode cX6_isUnder 35 = .ok (.iinc 3 1, 3) := by decide +kernel
theorem dX6_isUnder_38 : decode cX6_isUnder 38 = .ok (.goto (-34), 3) := by decide +kernel
theorem dX6_isUnder_41 : decode cX6_isUnder 41 = .ok (.iconst 0, 1) := by decide +kernel
theorem dX6_isUnder_42 : decode cX6_isUnder 42 = .ok (.ireturn, 1) := by decide +kernel
theorem dX6_commonDivisor_0 : decode cX6_commonDivisor 0 = .ok (.iload_n 1, 1) := by decide +kernel
theorem dX6_commonDivisor_1 : decode cX6_commonDivisor 1 = .ok (.istore_n 2, 1) := by decide +kernel
theorem dX6_commonDivisor_2 : decode cX6_commonDivisor 2 = .ok (.iload_n 0, 1) := by decide +kernel
theorem dX6_commonDivisor_3 : decode cX6_commonDivisor 3 = .ok (.istore_n 3, 1) := by decide +kernel
theorem dX6_commonDivisor_4 : decode cX6_commonDivisor 4 = .ok (.iconst 0, 1) := by decide +kernel
theorem dX6_commonDivisor_5 : decode cX6_commonDivisor 5 = .ok (.istore 4, 2) := by decide +kernel
theorem dX6_commonDivisor_7 : decode cX6_commonDivisor 7 = .ok (.iload 4, 2) := by decide +kernel
theorem dX6_commonDivisor_9 : decode cX6_commonDivisor 9 = .ok (.bipush 20, 2) := by decide +kernel
theorem dX6_commonDivisor_11 : decode cX6_commonDivisor 11 = .ok (.if_icmp .ge 23, 3) := by decide +kernel
theorem dX6_commonDivisor_14 : decode cX6_commonDivisor 14 = .ok (.iload_n 3, 1) := by decide +kernel
theorem dX6_commonDivisor_15 : decode cX6_commonDivisor 15 = .ok (.ifCond .le 19, 3) := by decide +kernel
theorem dX6_commonDivisor_18 : decode cX6_commonDivisor 18 = .ok (.iload_n 2, 1) := by decide +kernel
theorem dX6_commonDivisor_19 : decode cX6_commonDivisor 19 = .ok (.iload_n 3, 1) := by decide +kernel
theorem dX6_commonDivisor_20 : decode cX6_commonDivisor 20 = .ok (.irem, 1) := by decide +kernel
theorem dX6_commonDivisor_21 : decode cX6_commonDivisor 21 = .ok (.istore 5, 2) := by decide +kernel
theorem dX6_commonDivisor_23 : decode cX6_commonDivisor 23 = .ok (.iload_n 3, 1) := by decide +kernel
theorem dX6_commonDivisor_24 : decode cX6_commonDivisor 24 = .ok (.istore_n 2, 1) := by decide +kernel
theorem dX6_commonDivisor_25 : decode cX6_commonDivisor 25 = .ok (.iload 5, 2) := by decide +kernel
theorem dX6_commonDivisor_27 : decode cX6_commonDivisor 27 = .ok (.istore_n 3, 1) := by decide +kernel
theorem dX6_commonDivisor_28 : decode cX6_commonDivisor 28 = .ok (.iinc 4 1, 3) := by decide +kernel
theorem dX6_commonDivisor_31 : decode cX6_commonDivisor 31 = .ok (.goto (-24), 3) := by decide +kernel
theorem dX6_commonDivisor_34 : decode cX6_commonDivisor 34 = .ok (.iload_n 2, 1) := by decide +kernel
theorem dX6_commonDivisor_35 : decode cX6_commonDivisor 35 = .ok (.ireturn, 1) := by decide +kernel
theorem dX6_walkerAt_0 : decode cX6_walkerAt 0 = .ok (.iload_n 1, 1) := by decide +kernel
theorem dX6_walkerAt_1 : decode cX6_walkerAt 1 = .ok (.ifCond .lt 20, 3) := by decide +kernel
theorem dX6_walkerAt_4 : decode cX6_walkerAt 4 = .ok (.iload_n 1, 1) := by decide +kernel
theorem dX6_walkerAt_5 : decode cX6_walkerAt 5 = .ok (.aload_n 0, 1) := by decide +kernel
theorem dX6_walkerAt_6 : decode cX6_walkerAt 6 = .ok (.getfield 22, 3) := by decide +kernel
theorem dX6_walkerAt_9 : decode cX6_walkerAt 9 = .ok (.if_icmp .ge 12, 3) := by decide +kernel
theorem dX6_walkerAt_12 : decode cX6_walkerAt 12 = .ok (.aload_n 0, 1) := by decide +kernel
theorem dX6_walkerAt_13 : decode cX6_walkerAt 13 = .ok (.getfield 18, 3) := by decide +kernel
theorem dX6_walkerAt_16 : decode cX6_walkerAt 16 = .ok (.iload_n 1, 1) := by decide +kernel
theorem dX6_walkerAt_17 : decode cX6_walkerAt 17 = .ok (.aaload, 1) := by decide +kernel
theorem dX6_walkerAt_18 : decode cX6_walkerAt 18 = .ok (.goto 4, 3) := by decide +kernel
theorem dX6_walkerAt_21 : decode cX6_walkerAt 21 = .ok (.aconst_null, 1) := by decide +kernel
theorem dX6_walkerAt_22 : decode cX6_walkerAt 22 = .ok (.areturn, 1) := by decide +kernel
theorem dX6_sheetAt_0 : decode cX6_sheetAt 0 = .ok (.iload_n 1, 1) := by decide +kernel
theorem dX6_sheetAt_1 : decode cX6_sheetAt 1 = .ok (.ifCond .lt 17, 3) := by decide +kernel
theorem dX6_sheetAt_4 : decode cX6_sheetAt 4 = .ok (.iload_n 1, 1) := by decide +kernel
theorem dX6_sheetAt_5 : decode cX6_sheetAt 5 = .ok (.iconst 4, 1) := by decide +kernel
theorem dX6_sheetAt_6 : decode cX6_sheetAt 6 = .ok (.if_icmp .ge 12, 3) := by decide +kernel
theorem dX6_sheetAt_9 : decode cX6_sheetAt 9 = .ok (.aload_n 0, 1) := by decide +kernel
theorem dX6_sheetAt_10 : decode cX6_sheetAt 10 = .ok (.getfield 60, 3) := by decide +kernel
theorem dX6_sheetAt_13 : decode cX6_sheetAt 13 = .ok (.iload_n 1, 1) := by decide +kernel
theorem dX6_sheetAt_14 : decode cX6_sheetAt 14 = .ok (.aaload, 1) := by decide +kernel
theorem dX6_sheetAt_15 : decode cX6_sheetAt 15 = .ok (.goto 4, 3) := by decide +kernel
theorem dX6_sheetAt_18 : decode cX6_sheetAt 18 = .ok (.aconst_null, 1) := by decide +kernel
theorem dX6_sheetAt_19 : decode cX6_sheetAt 19 = .ok (.areturn, 1) := by decide +kernel
theorem dX6_isKept_0 : decode cX6_isKept 0 = .ok (.iload_n 0, 1) := by decide +kernel
theorem dX6_isKept_1 : decode cX6_isKept 1 = .ok (.iconst 0, 1) := by decide +kernel
theorem dX6_isKept_2 : decode cX6_isKept 2 = .ok (.bipush 6, 2) := by decide +kernel
theorem dX6_isKept_4 : decode cX6_isKept 4 = .ok (.invokestatic 114, 3) := by decide +kernel
theorem dX6_isKept_7 : decode cX6_isKept 7 = .ok (.ireturn, 1) := by decide +kernel
theorem dX6_names_0 : decode cX6_names 0 = .ok (.iload_n 1, 1) := by decide +kernel
theorem dX6_names_1 : decode cX6_names 1 = .ok (.ifCond .ne 5, 3) := by decide +kernel
theorem dX6_names_4 : decode cX6_names 4 = .ok (.iconst 1, 1) := by decide +kernel
theorem dX6_names_5 : decode cX6_names 5 = .ok (.ireturn, 1) := by decide +kernel
theorem dX6_names_6 : decode cX6_names 6 = .ok (.iload_n 1, 1) := by decide +kernel
theorem dX6_names_7 : decode cX6_names 7 = .ok (.iconst 1, 1) := by decide +kernel
theorem dX6_names_8 : decode cX6_names 8 = .ok (.if_icmp .ne 10, 3) := by decide +kernel
theorem dX6_names_11 : decode cX6_names 11 = .ok (.iload_n 2, 1) := by decide +kernel
theorem dX6_names_12 : decode cX6_names 12 = .ok (.invokestatic 205, 3) := by decide +kernel
theorem dX6_names_15 : decode cX6_names 15 = .ok (.goto 16, 3) := by decide +kernel
theorem dX6_names_18 : decode cX6_names 18 = .ok (.aload_n 0, 1) := by decide +kernel
theorem dX6_names_19 : decode cX6_names 19 = .ok (.iload_n 2, 1) := by decide +kernel
theorem dX6_names_20 : decode cX6_names 20 = .ok (.invokevirtual 129, 3) := by decide +kernel
theorem dX6_names_23 : decode cX6_names 23 = .ok (.ifnull 7, 3) := by decide +kernel
theorem dX6_names_26 : decode cX6_names 26 = .ok (.iconst 1, 1) := by decide +kernel
theorem dX6_names_27 : decode cX6_names 27 = .ok (.goto 4, 3) := by decide +kernel
theorem dX6_names_30 : decode cX6_names 30 = .ok (.iconst 0, 1) := by decide +kernel
theorem dX6_names_31 : decode cX6_names 31 = .ok (.ireturn, 1) := by decide +kernel
theorem dX6_mostOf_0 : decode cX6_mostOf 0 = .ok (.iload_n 0, 1) := by decide +kernel
theorem dX6_mostOf_1 : decode cX6_mostOf 1 = .ok (.tableswitch 61 0 5 #[39, 43, 46, 49, 53, 57], 39) := by decide +kernel
theorem dX6_mostOf_40 : decode cX6_mostOf 40 = .ok (.sipush 999, 3) := by decide +kernel
theorem dX6_mostOf_43 : decode cX6_mostOf 43 = .ok (.ireturn, 1) := by decide +kernel
theorem dX6_mostOf_44 : decode cX6_mostOf 44 = .ok (.bipush 99, 2) := by decide +kernel
theorem dX6_mostOf_46 : decode cX6_mostOf 46 = .ok (.ireturn, 1) := by decide +kernel
theorem dX6_mostOf_47 : decode cX6_mostOf 47 = .ok (.bipush 9, 2) := by decide +kernel
theorem dX6_mostOf_49 : decode cX6_mostOf 49 = .ok (.ireturn, 1) := by decide +kernel
theorem dX6_mostOf_50 : decode cX6_mostOf 50 = .ok (.sipush 255, 3) := by decide +kernel
theorem dX6_mostOf_53 : decode cX6_mostOf 53 = .ok (.ireturn, 1) := by decide +kernel
theorem dX6_mostOf_54 : decode cX6_mostOf 54 = .ok (.sipush 255, 3) := by decide +kernel
theorem dX6_mostOf_57 : decode cX6_mostOf 57 = .ok (.ireturn, 1) := by decide +kernel
theorem dX6_mostOf_58 : decode cX6_mostOf 58 = .ok (.sipush 999, 3) := by decide +kernel
theorem dX6_mostOf_61 : decode cX6_mostOf 61 = .ok (.ireturn, 1) := by decide +kernel
theorem dX6_mostOf_62 : decode cX6_mostOf 62 = .ok (.sipush 9999, 3) := by decide +kernel
theorem dX6_mostOf_65 : decode cX6_mostOf 65 = .ok (.ireturn, 1) := by decide +kernel
theorem dX6_valueOf_0 : decode cX6_valueOf 0 = .ok (.iload_n 1, 1) := by decide +kernel
theorem dX6_valueOf_1 : decode cX6_valueOf 1 = .ok (.ifCond .ne 8, 3) := by decide +kernel
theorem dX6_valueOf_4 : decode cX6_valueOf 4 = .ok (.aload_n 0, 1) := by decide +kernel
theorem dX6_valueOf_5 : decode cX6_valueOf 5 = .ok (.getfield 26, 3) := by decide +kernel
theorem dX6_valueOf_8 : decode cX6_valueOf 8 = .ok (.ireturn, 1) := by decide +kernel
theorem dX6_valueOf_9 : decode cX6_valueOf 9 = .ok (.iload_n 1, 1) := by decide +kernel
theorem dX6_valueOf_10 : decode cX6_valueOf 10 = .ok (.iconst 1, 1) := by decide +kernel
theorem dX6_valueOf_11 : decode cX6_valueOf 11 = .ok (.if_icmp .ne 22, 3) := by decide +kernel
theorem dX6_valueOf_14 : decode cX6_valueOf 14 = .ok (.iload_n 2, 1) := by decide +kernel
theorem dX6_valueOf_15 : decode cX6_valueOf 15 = .ok (.invokestatic 205, 3) := by decide +kernel
theorem dX6_valueOf_18 : decode cX6_valueOf 18 = .ok (.ifCond .eq 12, 3) := by decide +kernel
theorem dX6_valueOf_21 : decode cX6_valueOf 21 = .ok (.aload_n 0, 1) := by decide +kernel
theorem dX6_valueOf_22 : decode cX6_valueOf 22 = .ok (.getfield 9, 3) := by decide +kernel
theorem dX6_valueOf_25 : decode cX6_valueOf 25 = .ok (.iload_n 2, 1) := by decide +kernel
theorem dX6_valueOf_26 : decode cX6_valueOf 26 = .ok (.iaload, 1) := by decide +kernel
theorem dX6_valueOf_27 : decode cX6_valueOf 27 = .ok (.goto 5, 3) := by decide +kernel
theorem dX6_valueOf_30 : decode cX6_valueOf 30 = .ok (.bipush (-2), 2) := by decide +kernel
theorem dX6_valueOf_32 : decode cX6_valueOf 32 = .ok (.ireturn, 1) := by decide +kernel
theorem dX6_valueOf_33 : decode cX6_valueOf 33 = .ok (.aload_n 0, 1) := by decide +kernel
theorem dX6_valueOf_34 : decode cX6_valueOf 34 = .ok (.iload_n 2, 1) := by decide +kernel
theorem dX6_valueOf_35 : decode cX6_valueOf 35 = .ok (.invokevirtual 129, 3) := by decide +kernel
theorem dX6_valueOf_38 : decode cX6_valueOf 38 = .ok (.astore_n 3, 1) := by decide +kernel
theorem dX6_valueOf_39 : decode cX6_valueOf 39 = .ok (.aload_n 3, 1) := by decide +kernel
theorem dX6_valueOf_40 : decode cX6_valueOf 40 = .ok (.ifnonnull 6, 3) := by decide +kernel
theorem dX6_valueOf_43 : decode cX6_valueOf 43 = .ok (.bipush (-2), 2) := by decide +kernel
theorem dX6_valueOf_45 : decode cX6_valueOf 45 = .ok (.ireturn, 1) := by decide +kernel
theorem dX6_valueOf_46 : decode cX6_valueOf 46 = .ok (.iload_n 1, 1) := by decide +kernel
theorem dX6_valueOf_47 : decode cX6_valueOf 47 = .ok (.tableswitch 49 2 5 #[29, 34, 39, 44], 29) := by decide +kernel
theorem dX6_valueOf_76 : decode cX6_valueOf 76 = .ok (.aload_n 3, 1) := by decide +kernel
theorem dX6_valueOf_77 : decode cX6_valueOf 77 = .ok (.getfield 318, 3) := by decide +kernel
theorem dX6_valueOf_80 : decode cX6_valueOf 80 = .ok (.ireturn, 1) := by decide +kernel
theorem dX6_valueOf_81 : decode cX6_valueOf 81 = .ok (.aload_n 3, 1) := by decide +kernel
theorem dX6_valueOf_82 : decode cX6_valueOf 82 = .ok (.getfield 195, 3) := by decide +kernel
theorem dX6_valueOf_85 : decode cX6_valueOf 85 = .ok (.ireturn, 1) := by decide +kernel
theorem dX6_valueOf_86 : decode cX6_valueOf 86 = .ok (.aload_n 3, 1) := by decide +kernel
theorem dX6_valueOf_87 : decode cX6_valueOf 87 = .ok (.getfield 220, 3) := by decide +kernel
theorem dX6_valueOf_90 : decode cX6_valueOf 90 = .ok (.ireturn, 1) := by decide +kernel
theorem dX6_valueOf_91 : decode cX6_valueOf 91 = .ok (.aload_n 3, 1) := by decide +kernel
theorem dX6_valueOf_92 : decode cX6_valueOf 92 = .ok (.getfield 172, 3) := by decide +kernel
theorem dX6_valueOf_95 : decode cX6_valueOf 95 = .ok (.ireturn, 1) := by decide +kernel
theorem dX6_valueOf_96 : decode cX6_valueOf 96 = .ok (.aload_n 3, 1) := by decide +kernel
theorem dX6_valueOf_97 : decode cX6_valueOf 97 = .ok (.getfield 176, 3) := by decide +kernel
theorem dX6_valueOf_100 : decode cX6_valueOf 100 = .ok (.ireturn, 1) := by decide +kernel
theorem dX6_keep_0 : decode cX6_keep 0 = .ok (.iload_n 1, 1) := by decide +kernel
theorem dX6_keep_1 : decode cX6_keep 1 = .ok (.ifCond .ne 11, 3) := by decide +kernel
theorem dX6_keep_4 : decode cX6_keep 4 = .ok (.aload_n 0, 1) := by decide +kernel
theorem dX6_keep_5 : decode cX6_keep 5 = .ok (.iload_n 3, 1) := by decide +kernel
theorem dX6_keep_6 : decode cX6_keep 6 = .ok (.putfield 26, 3) := by decide +kernel
theorem dX6_keep_9 : decode cX6_keep 9 = .ok (.goto 35, 3) := by decide +kernel
theorem dX6_keep_12 : decode cX6_keep 12 = .ok (.iload_n 1, 1) := by decide +kernel
theorem dX6_keep_13 : decode cX6_keep 13 = .ok (.iconst 1, 1) := by decide +kernel
theorem dX6_keep_14 : decode cX6_keep 14 = .ok (.if_icmp .ne 20, 3) := by decide +kernel
theorem dX6_keep_17 : decode cX6_keep 17 = .ok (.iload_n 2, 1) := by decide +kernel
theorem dX6_keep_18 : decode cX6_keep 18 = .ok (.invokestatic 205, 3) := by decide +kernel
theorem dX6_keep_21 : decode cX6_keep 21 = .ok (.ifCond .eq 23, 3) := by decide +kernel
theorem dX6_keep_24 : decode cX6_keep 24 = .ok (.aload_n 0, 1) := by decide +kernel
theorem dX6_keep_25 : decode cX6_keep 25 = .ok (.getfield 9, 3) := by decide +kernel
theorem dX6_keep_28 : decode cX6_keep 28 = .ok (.iload_n 2, 1) := by decide +kernel
theorem dX6_keep_29 : decode cX6_keep 29 = .ok (.iload_n 3, 1) := by decide +kernel
theorem dX6_keep_30 : decode cX6_keep 30 = .ok (.iastore, 1) := by decide +kernel
theorem dX6_keep_31 : decode cX6_keep 31 = .ok (.goto 13, 3) := by decide +kernel
theorem dX6_keep_34 : decode cX6_keep 34 = .ok (.iload_n 1, 1) := by decide +kernel
theorem dX6_keep_35 : decode cX6_keep 35 = .ok (.aload_n 0, 1) := by decide +kernel
theorem dX6_keep_36 : decode cX6_keep 36 = .ok (.iload_n 2, 1) := by decide +kernel
theorem dX6_keep_37 : decode cX6_keep 37 = .ok (.invokevirtual 129, 3) := by decide +kernel
theorem dX6_keep_40 : decode cX6_keep 40 = .ok (.iload_n 3, 1) := by decide +kernel
theorem dX6_keep_41 : decode cX6_keep 41 = .ok (.invokestatic 332, 3) := by decide +kernel
theorem dX6_keep_44 : decode cX6_keep 44 = .ok (.return_, 1) := by decide +kernel
theorem dX6_keepOfWalker_0 : decode cX6_keepOfWalker 0 = .ok (.aload_n 1, 1) := by decide +kernel
theorem dX6_keepOfWalker_1 : decode cX6_keepOfWalker 1 = .ok (.ifnonnull 4, 3) := by decide +kernel
theorem dX6_keepOfWalker_4 : decode cX6_keepOfWalker 4 = .ok (.return_, 1) := by decide +kernel
theorem dX6_keepOfWalker_5 : decode cX6_keepOfWalker 5 = .ok (.iload_n 0, 1) := by decide +kernel
theorem dX6_keepOfWalker_6 : decode cX6_keepOfWalker 6 = .ok (.tableswitch 62 2 5 #[30, 38, 46, 54], 30) := by decide +kernel
theorem dX6_keepOfWalker_36 : decode cX6_keepOfWalker 36 = .ok (.aload_n 1, 1) := by decide +kernel
theorem dX6_keepOfWalker_37 : decode cX6_keepOfWalker 37 = .ok (.iload_n 2, 1) := by decide +kernel
theorem dX6_keepOfWalker_38 : decode cX6_keepOfWalker 38 = .ok (.putfield 318, 3) := by decide +kernel
theorem dX6_keepOfWalker_41 : decode cX6_keepOfWalker 41 = .ok (.goto 32, 3) := by decide +kernel
theorem dX6_keepOfWalker_44 : decode cX6_keepOfWalker 44 = .ok (.aload_n 1, 1) := by decide +kernel
theorem dX6_keepOfWalker_45 : decode cX6_keepOfWalker 45 = .ok (.iload_n 2, 1) := by decide +kernel
theorem dX6_keepOfWalker_46 : decode cX6_keepOfWalker 46 = .ok (.putfield 195, 3) := by decide +kernel
theorem dX6_keepOfWalker_49 : decode cX6_keepOfWalker 49 = .ok (.goto 24, 3) := by decide +kernel
theorem dX6_keepOfWalker_52 : decode cX6_keepOfWalker 52 = .ok (.aload_n 1, 1) := by decide +kernel
theorem dX6_keepOfWalker_53 : decode cX6_keepOfWalker 53 = .ok (.iload_n 2, 1) := by decide +kernel
theorem dX6_keepOfWalker_54 : decode cX6_keepOfWalker 54 = .ok (.putfield 220, 3) := by decide +kernel
theorem dX6_keepOfWalker_57 : decode cX6_keepOfWalker 57 = .ok (.goto 16, 3) := by decide +kernel
theorem dX6_keepOfWalker_60 : decode cX6_keepOfWalker 60 = .ok (.aload_n 1, 1) := by decide +kernel
theorem dX6_keepOfWalker_61 : decode cX6_keepOfWalker 61 = .ok (.iload_n 2, 1) := by decide +kernel
theorem dX6_keepOfWalker_62 : decode cX6_keepOfWalker 62 = .ok (.putfield 172, 3) := by decide +kernel
theorem dX6_keepOfWalker_65 : decode cX6_keepOfWalker 65 = .ok (.goto 8, 3) := by decide +kernel
theorem dX6_keepOfWalker_68 : decode cX6_keepOfWalker 68 = .ok (.aload_n 1, 1) := by decide +kernel
theorem dX6_keepOfWalker_69 : decode cX6_keepOfWalker 69 = .ok (.iload_n 2, 1) := by decide +kernel
theorem dX6_keepOfWalker_70 : decode cX6_keepOfWalker 70 = .ok (.putfield 176, 3) := by decide +kernel
theorem dX6_keepOfWalker_73 : decode cX6_keepOfWalker 73 = .ok (.return_, 1) := by decide +kernel
theorem dX6_think_0 : decode cX6_think 0 = .ok (.aload_n 0, 1) := by decide +kernel
theorem dX6_think_1 : decode cX6_think 1 = .ok (.aload_n 1, 1) := by decide +kernel
theorem dX6_think_2 : decode cX6_think 2 = .ok (.aload_n 1, 1) := by decide +kernel
theorem dX6_think_3 : decode cX6_think 3 = .ok (.getfield 220, 3) := by decide +kernel
theorem dX6_think_6 : decode cX6_think 6 = .ok (.invokevirtual 226, 3) := by decide +kernel
theorem dX6_think_9 : decode cX6_think 9 = .ok (.return_, 1) := by decide +kernel
theorem dX6_thinkTold_0 : decode cX6_thinkTold 0 = .ok (.aload_n 0, 1) := by decide +kernel
theorem dX6_thinkTold_1 : decode cX6_thinkTold 1 = .ok (.getfield 98, 3) := by decide +kernel
theorem dX6_thinkTold_4 : decode cX6_thinkTold 4 = .ok (.aload_n 1, 1) := by decide +kernel
theorem dX6_thinkTold_5 : decode cX6_thinkTold 5 = .ok (.aload_n 0, 1) := by decide +kernel
theorem dX6_thinkTold_6 : decode cX6_thinkTold 6 = .ok (.getfield 31, 3) := by decide +kernel
theorem dX6_thinkTold_9 : decode cX6_thinkTold 9 = .ok (.aload_n 0, 1) := by decide +kernel
theorem dX6_thinkTold_10 : decode cX6_thinkTold 10 = .ok (.getfield 38, 3) := by decide +kernel
theorem dX6_thinkTold_13 : decode cX6_thinkTold 13 = .ok (.aaload, 1) := by decide +kernel
theorem dX6_thinkTold_14 : decode cX6_thinkTold 14 = .ok (.aload_n 0, 1) := by decide +kernel
theorem dX6_thinkTold_15 : decode cX6_thinkTold 15 = .ok (.getfield 26, 3) := by decide +kernel
theorem dX6_thinkTold_18 : decode cX6_thinkTold 18 = .ok (.invokevirtual 336, 3) := by decide +kernel
theorem dX6_thinkTold_21 : decode cX6_thinkTold 21 = .ok (.aload_n 0, 1) := by decide +kernel
theorem dX6_thinkTold_22 : decode cX6_thinkTold 22 = .ok (.getfield 98, 3) := by decide +kernel
theorem dX6_thinkTold_25 : decode cX6_thinkTold 25 = .ok (.aload_n 1, 1) := by decide +kernel
theorem dX6_thinkTold_26 : decode cX6_thinkTold 26 = .ok (.getfield 195, 3) := by decide +kernel
theorem dX6_thinkTold_29 : decode cX6_thinkTold 29 = .ok (.iload_n 2, 1) := by decide +kernel
theorem dX6_thinkTold_30 : decode cX6_thinkTold 30 = .ok (.aload_n 0, 1) := by decide +kernel
theorem dX6_thinkTold_31 : decode cX6_thinkTold 31 = .ok (.getfield 9, 3) := by decide +kernel
theorem dX6_thinkTold_34 : decode cX6_thinkTold 34 = .ok (.invokevirtual 340, 3) := by decide +kernel
theorem dX6_thinkTold_37 : decode cX6_thinkTold 37 = .ok (.return_, 1) := by decide +kernel
theorem dX6_thinkOtherwise_0 : decode cX6_thinkOtherwise 0 = .ok (.aload_n 0, 1) := by decide +kernel
theorem dX6_thinkOtherwise_1 : decode cX6_thinkOtherwise 1 = .ok (.getfield 98, 3) := by decide +kernel
theorem dX6_thinkOtherwise_4 : decode cX6_thinkOtherwise 4 = .ok (.aload_n 1, 1) := by decide +kernel
theorem dX6_thinkOtherwise_5 : decode cX6_thinkOtherwise 5 = .ok (.aload_n 0, 1) := by decide +kernel
theorem dX6_thinkOtherwise_6 : decode cX6_thinkOtherwise 6 = .ok (.getfield 31, 3) := by decide +kernel
theorem dX6_thinkOtherwise_9 : decode cX6_thinkOtherwise 9 = .ok (.aload_n 0, 1) := by decide +kernel
theorem dX6_thinkOtherwise_10 : decode cX6_thinkOtherwise 10 = .ok (.getfield 38, 3) := by decide +kernel
theorem dX6_thinkOtherwise_13 : decode cX6_thinkOtherwise 13 = .ok (.aaload, 1) := by decide +kernel
theorem dX6_thinkOtherwise_14 : decode cX6_thinkOtherwise 14 = .ok (.aload_n 0, 1) := by decide +kernel
theorem dX6_thinkOtherwise_15 : decode cX6_thinkOtherwise 15 = .ok (.getfield 26, 3) := by decide +kernel
theorem dX6_thinkOtherwise_18 : decode cX6_thinkOtherwise 18 = .ok (.invokevirtual 336, 3) := by decide +kernel
theorem dX6_thinkOtherwise_21 : decode cX6_thinkOtherwise 21 = .ok (.aload_n 0, 1) := by decide +kernel
theorem dX6_thinkOtherwise_22 : decode cX6_thinkOtherwise 22 = .ok (.getfield 98, 3) := by decide +kernel
theorem dX6_thinkOtherwise_25 : decode cX6_thinkOtherwise 25 = .ok (.aload_n 1, 1) := by decide +kernel
theorem dX6_thinkOtherwise_26 : decode cX6_thinkOtherwise 26 = .ok (.getfield 195, 3) := by decide +kernel
theorem dX6_thinkOtherwise_29 : decode cX6_thinkOtherwise 29 = .ok (.aload_n 1, 1) := by decide +kernel
theorem dX6_thinkOtherwise_30 : decode cX6_thinkOtherwise 30 = .ok (.getfield 220, 3) := by decide +kernel
theorem dX6_thinkOtherwise_33 : decode cX6_thinkOtherwise 33 = .ok (.aload_n 0, 1) := by decide +kernel
theorem dX6_thinkOtherwise_34 : decode cX6_thinkOtherwise 34 = .ok (.getfield 13, 3) := by decide +kernel
theorem dX6_thinkOtherwise_37 : decode cX6_thinkOtherwise 37 = .ok (.invokevirtual 340, 3) := by decide +kernel
theorem dX6_thinkOtherwise_40 : decode cX6_thinkOtherwise 40 = .ok (.return_, 1) := by decide +kernel
theorem dX6_weighAsNow_0 : decode cX6_weighAsNow 0 = .ok (.aload_n 0, 1) := by decide +kernel
theorem dX6_weighAsNow_1 : decode cX6_weighAsNow 1 = .ok (.getfield 9, 3) := by decide +kernel
theorem dX6_weighAsNow_4 : decode cX6_weighAsNow 4 = .ok (.iconst 0, 1) := by decide +kernel
theorem dX6_weighAsNow_5 : decode cX6_weighAsNow 5 = .ok (.aload_n 0, 1) := by decide +kernel
theorem dX6_weighAsNow_6 : decode cX6_weighAsNow 6 = .ok (.getfield 13, 3) := by decide +kernel
theorem dX6_weighAsNow_9 : decode cX6_weighAsNow 9 = .ok (.iconst 0, 1) := by decide +kernel
theorem dX6_weighAsNow_10 : decode cX6_weighAsNow 10 = .ok (.bipush 8, 2) := by decide +kernel
theorem dX6_weighAsNow_12 : decode cX6_weighAsNow 12 = .ok (.invokestatic 286, 3) := by decide +kernel
theorem dX6_weighAsNow_15 : decode cX6_weighAsNow 15 = .ok (.return_, 1) := by decide +kernel
theorem dX6_draw_0 : decode cX6_draw 0 = .ok (.iload_n 1, 1) := by decide +kernel
theorem dX6_draw_1 : decode cX6_draw 1 = .ok (.istore_n 2, 1) := by decide +kernel
theorem dX6_draw_2 : decode cX6_draw 2 = .ok (.iconst 0, 1) := by decide +kernel
theorem dX6_draw_3 : decode cX6_draw 3 = .ok (.istore_n 3, 1) := by decide +kernel
theorem dX6_draw_4 : decode cX6_draw 4 = .ok (.iload_n 3, 1) := by decide +kernel
theorem dX6_draw_5 : decode cX6_draw 5 = .ok (.bipush 8, 2) := by decide +kernel
theorem dX6_draw_7 : decode cX6_draw 7 = .ok (.if_icmp .ge 32, 3) := by decide +kernel
theorem dX6_draw_10 : decode cX6_draw 10 = .ok (.iload_n 2, 1) := by decide +kernel
theorem dX6_draw_11 : decode cX6_draw 11 = .ok (.ldc_w 344, 3) := by decide +kernel
theorem dX6_draw_14 : decode cX6_draw 14 = .ok (.imul, 1) := by decide +kernel
theorem dX6_draw_15 : decode cX6_draw 15 = .ok (.sipush 12345, 3) := by decide +kernel
theorem dX6_draw_18 : decode cX6_draw 18 = .ok (.iadd, 1) := by decide +kernel
theorem dX6_draw_19 : decode cX6_draw 19 = .ok (.istore_n 2, 1) := by decide +kernel
theorem dX6_draw_20 : decode cX6_draw 20 = .ok (.aload_n 0, 1) := by decide +kernel
theorem dX6_draw_21 : decode cX6_draw 21 = .ok (.getfield 13, 3) := by decide +kernel
theorem dX6_draw_24 : decode cX6_draw 24 = .ok (.iload_n 3, 1) := by decide +kernel
theorem dX6_draw_25 : decode cX6_draw 25 = .ok (.iload_n 2, 1) := by decide +kernel
theorem dX6_draw_26 : decode cX6_draw 26 = .ok (.bipush 9, 2) := by decide +kernel
theorem dX6_draw_28 : decode cX6_draw 28 = .ok (.iushr, 1) := by decide +kernel
theorem dX6_draw_29 : decode cX6_draw 29 = .ok (.bipush 30, 2) := by decide +kernel
theorem dX6_draw_31 : decode cX6_draw 31 = .ok (.irem, 1) := by decide +kernel
theorem dX6_draw_32 : decode cX6_draw 32 = .ok (.iastore, 1) := by decide +kernel
theorem dX6_draw_33 : decode cX6_draw 33 = .ok (.iinc 3 1, 3) := by decide +kernel
theorem dX6_draw_36 : decode cX6_draw 36 = .ok (.goto (-32), 3) := by decide +kernel
theorem dX6_draw_39 : decode cX6_draw 39 = .ok (.return_, 1) := by decide +kernel
theorem dX6_stepsOfAll_0 : decode cX6_stepsOfAll 0 = .ok (.iconst 0, 1) := by decide +kernel
theorem dX6_stepsOfAll_1 : decode cX6_stepsOfAll 1 = .ok (.istore_n 2, 1) := by decide +kernel
theorem dX6_stepsOfAll_2 : decode cX6_stepsOfAll 2 = .ok (.iconst 0, 1) := by decide +kernel
theorem dX6_stepsOfAll_3 : decode cX6_stepsOfAll 3 = .ok (.istore_n 3, 1) := by decide +kernel
theorem dX6_stepsOfAll_4 : decode cX6_stepsOfAll 4 = .ok (.iload_n 3, 1) := by decide +kernel
theorem dX6_stepsOfAll_5 : decode cX6_stepsOfAll 5 = .ok (.aload_n 0, 1) := by decide +kernel
theorem dX6_stepsOfAll_6 : decode cX6_stepsOfAll 6 = .ok (.getfield 22, 3) := by decide +kernel
theorem dX6_stepsOfAll_9 : decode cX6_stepsOfAll 9 = .ok (.if_icmp .ge 30, 3) := by decide +kernel
theorem dX6_stepsOfAll_12 : decode cX6_stepsOfAll 12 = .ok (.aload_n 0, 1) := by decide +kernel
theorem dX6_stepsOfAll_13 : decode cX6_stepsOfAll 13 = .ok (.aload_n 0, 1) := by decide +kernel
theorem dX6_stepsOfAll_14 : decode cX6_stepsOfAll 14 = .ok (.getfield 18, 3) := by decide +kernel
theorem dX6_stepsOfAll_17 : decode cX6_stepsOfAll 17 = .ok (.iload_n 3, 1) := by decide +kernel
theorem dX6_stepsOfAll_18 : decode cX6_stepsOfAll 18 = .ok (.aaload, 1) := by decide +kernel
theorem dX6_stepsOfAll_19 : decode cX6_stepsOfAll 19 = .ok (.invokevirtual 211, 3) := by decide +kernel
theorem dX6_stepsOfAll_22 : decode cX6_stepsOfAll 22 = .ok (.iload_n 2, 1) := by decide +kernel
theorem dX6_stepsOfAll_23 : decode cX6_stepsOfAll 23 = .ok (.aload_n 0, 1) := by decide +kernel
theorem dX6_stepsOfAll_24 : decode cX6_stepsOfAll 24 = .ok (.getfield 98, 3) := by decide +kernel
theorem dX6_stepsOfAll_27 : decode cX6_stepsOfAll 27 = .ok (.iload_n 1, 1) := by decide +kernel
theorem dX6_stepsOfAll_28 : decode cX6_stepsOfAll 28 = .ok (.invokevirtual 180, 3) := by decide +kernel
theorem dX6_stepsOfAll_31 : decode cX6_stepsOfAll 31 = .ok (.iadd, 1) := by decide +kernel
theorem dX6_stepsOfAll_32 : decode cX6_stepsOfAll 32 = .ok (.istore_n 2, 1) := by decide +kernel
theorem dX6_stepsOfAll_33 : decode cX6_stepsOfAll 33 = .ok (.iinc 3 1, 3) := by decide +kernel
theorem dX6_stepsOfAll_36 : decode cX6_stepsOfAll 36 = .ok (.goto (-32), 3) := by decide +kernel
theorem dX6_stepsOfAll_39 : decode cX6_stepsOfAll 39 = .ok (.iload_n 2, 1) := by decide +kernel
theorem dX6_stepsOfAll_40 : decode cX6_stepsOfAll 40 = .ok (.ireturn, 1) := by decide +kernel
theorem dX6_eachIsHeldUp_0 : decode cX6_eachIsHeldUp 0 = .ok (.iconst 0, 1) := by decide +kernel
theorem dX6_eachIsHeldUp_1 : decode cX6_eachIsHeldUp 1 = .ok (.istore_n 1, 1) := by decide +kernel
theorem dX6_eachIsHeldUp_2 : decode cX6_eachIsHeldUp 2 = .ok (.iload_n 1, 1) := by decide +kernel
theorem dX6_eachIsHeldUp_3 : decode cX6_eachIsHeldUp 3 = .ok (.aload_n 0, 1) := by decide +kernel
theorem dX6_eachIsHeldUp_4 : decode cX6_eachIsHeldUp 4 = .ok (.getfield 22, 3) := by decide +kernel
theorem dX6_eachIsHeldUp_7 : decode cX6_eachIsHeldUp 7 = .ok (.if_icmp .ge 33, 3) := by decide +kernel
theorem dX6_eachIsHeldUp_10 : decode cX6_eachIsHeldUp 10 = .ok (.aload_n 0, 1) := by decide +kernel
theorem dX6_eachIsHeldUp_11 : decode cX6_eachIsHeldUp 11 = .ok (.aload_n 0, 1) := by decide +kernel
theorem dX6_eachIsHeldUp_12 : decode cX6_eachIsHeldUp 12 = .ok (.getfield 18, 3) := by decide +kernel
theorem dX6_eachIsHeldUp_15 : decode cX6_eachIsHeldUp 15 = .ok (.iload_n 1, 1) := by decide +kernel
theorem dX6_eachIsHeldUp_16 : decode cX6_eachIsHeldUp 16 = .ok (.aaload, 1) := by decide +kernel
theorem dX6_eachIsHeldUp_17 : decode cX6_eachIsHeldUp 17 = .ok (.invokevirtual 211, 3) := by decide +kernel
theorem dX6_eachIsHeldUp_20 : decode cX6_eachIsHeldUp 20 = .ok (.aload_n 0, 1) := by decide +kernel
theorem dX6_eachIsHeldUp_21 : decode cX6_eachIsHeldUp 21 = .ok (.getfield 98, 3) := by decide +kernel
theorem dX6_eachIsHeldUp_24 : decode cX6_eachIsHeldUp 24 = .ok (.bipush 10, 2) := by decide +kernel
theorem dX6_eachIsHeldUp_26 : decode cX6_eachIsHeldUp 26 = .ok (.invokevirtual 345, 3) := by decide +kernel
theorem dX6_eachIsHeldUp_29 : decode cX6_eachIsHeldUp 29 = .ok (.ifCond .ne 5, 3) := by decide +kernel
theorem dX6_eachIsHeldUp_32 : decode cX6_eachIsHeldUp 32 = .ok (.iconst 0, 1) := by decide +kernel
theorem dX6_eachIsHeldUp_33 : decode cX6_eachIsHeldUp 33 = .ok (.ireturn, 1) := by decide +kernel
theorem dX6_eachIsHeldUp_34 : decode cX6_eachIsHeldUp 34 = .ok (.iinc 1 1, 3) := by decide +kernel
theorem dX6_eachIsHeldUp_37 : decode cX6_eachIsHeldUp 37 = .ok (.goto (-35), 3) := by decide +kernel
theorem dX6_eachIsHeldUp_40 : decode cX6_eachIsHeldUp 40 = .ok (.iconst 1, 1) := by decide +kernel
theorem dX6_eachIsHeldUp_41 : decode cX6_eachIsHeldUp 41 = .ok (.ireturn, 1) := by decide +kernel
theorem dX6_forgetSteps_0 : decode cX6_forgetSteps 0 = .ok (.aload_n 0, 1) := by decide +kernel
theorem dX6_forgetSteps_1 : decode cX6_forgetSteps 1 = .ok (.getfield 48, 3) := by decide +kernel
theorem dX6_forgetSteps_4 : decode cX6_forgetSteps 4 = .ok (.iconst (-1), 1) := by decide +kernel
theorem dX6_forgetSteps_5 : decode cX6_forgetSteps 5 = .ok (.invokestatic 64, 3) := by decide +kernel
theorem dX6_forgetSteps_8 : decode cX6_forgetSteps 8 = .ok (.return_, 1) := by decide +kernel
theorem dX6_stepIfTold_0 : decode cX6_stepIfTold 0 = .ok (.aload_n 0, 1) := by decide +kernel
theorem dX6_stepIfTold_1 : decode cX6_stepIfTold 1 = .ok (.aload_n 1, 1) := by decide +kernel
theorem dX6_stepIfTold_2 : decode cX6_stepIfTold 2 = .ok (.iload_n 2, 1) := by decide +kernel
theorem dX6_stepIfTold_3 : decode cX6_stepIfTold 3 = .ok (.invokevirtual 226, 3) := by decide +kernel
theorem dX6_stepIfTold_6 : decode cX6_stepIfTold 6 = .ok (.aload_n 0, 1) := by decide +kernel
theorem dX6_stepIfTold_7 : decode cX6_stepIfTold 7 = .ok (.getfield 98, 3) := by decide +kernel
theorem dX6_stepIfTold_10 : decode cX6_stepIfTold 10 = .ok (.getfield 140, 3) := by decide +kernel
theorem dX6_stepIfTold_13 : decode cX6_stepIfTold 13 = .ok (.istore 4, 2) := by decide +kernel
theorem dX6_stepIfTold_15 : decode cX6_stepIfTold 15 = .ok (.iload 4, 2) := by decide +kernel
theorem dX6_stepIfTold_17 : decode cX6_stepIfTold 17 = .ok (.ifCond .lt 13, 3) := by decide +kernel
theorem dX6_stepIfTold_20 : decode cX6_stepIfTold 20 = .ok (.iload 4, 2) := by decide +kernel
theorem dX6_stepIfTold_22 : decode cX6_stepIfTold 22 = .ok (.aload_n 0, 1) := by decide +kernel
theorem dX6_stepIfTold_23 : decode cX6_stepIfTold 23 = .ok (.getfield 48, 3) := by decide +kernel
theorem dX6_stepIfTold_26 : decode cX6_stepIfTold 26 = .ok (.arraylength, 1) := by decide +kernel
theorem dX6_stepIfTold_27 : decode cX6_stepIfTold 27 = .ok (.if_icmp .lt 12, 3) := by decide +kernel
theorem dX6_stepIfTold_30 : decode cX6_stepIfTold 30 = .ok (.aload_n 0, 1) := by decide +kernel
theorem dX6_stepIfTold_31 : decode cX6_stepIfTold 31 = .ok (.getfield 98, 3) := by decide +kernel
theorem dX6_stepIfTold_34 : decode cX6_stepIfTold 34 = .ok (.iload_n 3, 1) := by decide +kernel
theorem dX6_stepIfTold_35 : decode cX6_stepIfTold 35 = .ok (.invokevirtual 180, 3) := by decide +kernel
theorem dX6_stepIfTold_38 : decode cX6_stepIfTold 38 = .ok (.ireturn, 1) := by decide +kernel
theorem dX6_stepIfTold_39 : decode cX6_stepIfTold 39 = .ok (.aload_n 0, 1) := by decide +kernel
theorem dX6_stepIfTold_40 : decode cX6_stepIfTold 40 = .ok (.getfield 48, 3) := by decide +kernel

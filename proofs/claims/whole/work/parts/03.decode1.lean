theorem dX6_stepIfTold_43 : decode cX6_stepIfTold 43 = .ok (.iload 4, 2) := by decide +kernel
theorem dX6_stepIfTold_45 : decode cX6_stepIfTold 45 = .ok (.iaload, 1) := by decide +kernel
theorem dX6_stepIfTold_46 : decode cX6_stepIfTold 46 = .ok (.iconst (-1), 1) := by decide +kernel
theorem dX6_stepIfTold_47 : decode cX6_stepIfTold 47 = .ok (.if_icmp .ne 18, 3) := by decide +kernel
theorem dX6_stepIfTold_50 : decode cX6_stepIfTold 50 = .ok (.aload_n 0, 1) := by decide +kernel
theorem dX6_stepIfTold_51 : decode cX6_stepIfTold 51 = .ok (.getfield 48, 3) := by decide +kernel
theorem dX6_stepIfTold_54 : decode cX6_stepIfTold 54 = .ok (.iload 4, 2) := by decide +kernel
theorem dX6_stepIfTold_56 : decode cX6_stepIfTold 56 = .ok (.aload_n 0, 1) := by decide +kernel
theorem dX6_stepIfTold_57 : decode cX6_stepIfTold 57 = .ok (.getfield 98, 3) := by decide +kernel
theorem dX6_stepIfTold_60 : decode cX6_stepIfTold 60 = .ok (.iload_n 3, 1) := by decide +kernel
theorem dX6_stepIfTold_61 : decode cX6_stepIfTold 61 = .ok (.invokevirtual 180, 3) := by decide +kernel
theorem dX6_stepIfTold_64 : decode cX6_stepIfTold 64 = .ok (.iastore, 1) := by decide +kernel
theorem dX6_stepIfTold_65 : decode cX6_stepIfTold 65 = .ok (.aload_n 0, 1) := by decide +kernel
theorem dX6_stepIfTold_66 : decode cX6_stepIfTold 66 = .ok (.getfield 48, 3) := by decide +kernel
theorem dX6_stepIfTold_69 : decode cX6_stepIfTold 69 = .ok (.iload 4, 2) := by decide +kernel
theorem dX6_stepIfTold_71 : decode cX6_stepIfTold 71 = .ok (.iaload, 1) := by decide +kernel
theorem dX6_stepIfTold_72 : decode cX6_stepIfTold 72 = .ok (.ireturn, 1) := by decide +kernel
theorem dX6_countInSocks_0 : decode cX6_countInSocks 0 = .ok (.iconst 0, 1) := by decide +kernel
theorem dX6_countInSocks_1 : decode cX6_countInSocks 1 = .ok (.istore_n 1, 1) := by decide +kernel
theorem dX6_countInSocks_2 : decode cX6_countInSocks 2 = .ok (.iconst 0, 1) := by decide +kernel
theorem dX6_countInSocks_3 : decode cX6_countInSocks 3 = .ok (.istore_n 2, 1) := by decide +kernel
theorem dX6_countInSocks_4 : decode cX6_countInSocks 4 = .ok (.iload_n 2, 1) := by decide +kernel
theorem dX6_countInSocks_5 : decode cX6_countInSocks 5 = .ok (.aload_n 0, 1) := by decide +kernel
theorem dX6_countInSocks_6 : decode cX6_countInSocks 6 = .ok (.getfield 22, 3) := by decide +kernel
theorem dX6_countInSocks_9 : decode cX6_countInSocks 9 = .ok (.if_icmp .ge 32, 3) := by decide +kernel
theorem dX6_countInSocks_12 : decode cX6_countInSocks 12 = .ok (.aload_n 0, 1) := by decide +kernel
theorem dX6_countInSocks_13 : decode cX6_countInSocks 13 = .ok (.aload_n 0, 1) := by decide +kernel
theorem dX6_countInSocks_14 : decode cX6_countInSocks 14 = .ok (.getfield 18, 3) := by decide +kernel
theorem dX6_countInSocks_17 : decode cX6_countInSocks 17 = .ok (.iload_n 2, 1) := by decide +kernel
theorem dX6_countInSocks_18 : decode cX6_countInSocks 18 = .ok (.aaload, 1) := by decide +kernel
theorem dX6_countInSocks_19 : decode cX6_countInSocks 19 = .ok (.invokevirtual 133, 3) := by decide +kernel
theorem dX6_countInSocks_22 : decode cX6_countInSocks 22 = .ok (.iload_n 1, 1) := by decide +kernel
theorem dX6_countInSocks_23 : decode cX6_countInSocks 23 = .ok (.aload_n 0, 1) := by decide +kernel
theorem dX6_countInSocks_24 : decode cX6_countInSocks 24 = .ok (.getfield 98, 3) := by decide +kernel
theorem dX6_countInSocks_27 : decode cX6_countInSocks 27 = .ok (.invokevirtual 160, 3) := by decide +kernel
theorem dX6_countInSocks_30 : decode cX6_countInSocks 30 = .ok (.invokestatic 156, 3) := by decide +kernel
theorem dX6_countInSocks_33 : decode cX6_countInSocks 33 = .ok (.iadd, 1) := by decide +kernel
theorem dX6_countInSocks_34 : decode cX6_countInSocks 34 = .ok (.istore_n 1, 1) := by decide +kernel
theorem dX6_countInSocks_35 : decode cX6_countInSocks 35 = .ok (.iinc 2 1, 3) := by decide +kernel
theorem dX6_countInSocks_38 : decode cX6_countInSocks 38 = .ok (.goto (-34), 3) := by decide +kernel
theorem dX6_countInSocks_41 : decode cX6_countInSocks 41 = .ok (.iload_n 1, 1) := by decide +kernel
theorem dX6_countInSocks_42 : decode cX6_countInSocks 42 = .ok (.ireturn, 1) := by decide +kernel
theorem dX6_countStopped_0 : decode cX6_countStopped 0 = .ok (.iconst 0, 1) := by decide +kernel
theorem dX6_countStopped_1 : decode cX6_countStopped 1 = .ok (.istore_n 1, 1) := by decide +kernel
theorem dX6_countStopped_2 : decode cX6_countStopped 2 = .ok (.iconst 0, 1) := by decide +kernel
theorem dX6_countStopped_3 : decode cX6_countStopped 3 = .ok (.istore_n 2, 1) := by decide +kernel
theorem dX6_countStopped_4 : decode cX6_countStopped 4 = .ok (.iload_n 2, 1) := by decide +kernel
theorem dX6_countStopped_5 : decode cX6_countStopped 5 = .ok (.aload_n 0, 1) := by decide +kernel
theorem dX6_countStopped_6 : decode cX6_countStopped 6 = .ok (.getfield 22, 3) := by decide +kernel
theorem dX6_countStopped_9 : decode cX6_countStopped 9 = .ok (.if_icmp .ge 32, 3) := by decide +kernel
theorem dX6_countStopped_12 : decode cX6_countStopped 12 = .ok (.aload_n 0, 1) := by decide +kernel
theorem dX6_countStopped_13 : decode cX6_countStopped 13 = .ok (.aload_n 0, 1) := by decide +kernel
theorem dX6_countStopped_14 : decode cX6_countStopped 14 = .ok (.getfield 18, 3) := by decide +kernel
theorem dX6_countStopped_17 : decode cX6_countStopped 17 = .ok (.iload_n 2, 1) := by decide +kernel
theorem dX6_countStopped_18 : decode cX6_countStopped 18 = .ok (.aaload, 1) := by decide +kernel
theorem dX6_countStopped_19 : decode cX6_countStopped 19 = .ok (.invokevirtual 133, 3) := by decide +kernel
theorem dX6_countStopped_22 : decode cX6_countStopped 22 = .ok (.iload_n 1, 1) := by decide +kernel
theorem dX6_countStopped_23 : decode cX6_countStopped 23 = .ok (.aload_n 0, 1) := by decide +kernel
theorem dX6_countStopped_24 : decode cX6_countStopped 24 = .ok (.getfield 98, 3) := by decide +kernel
theorem dX6_countStopped_27 : decode cX6_countStopped 27 = .ok (.invokevirtual 152, 3) := by decide +kernel
theorem dX6_countStopped_30 : decode cX6_countStopped 30 = .ok (.invokestatic 156, 3) := by decide +kernel
theorem dX6_countStopped_33 : decode cX6_countStopped 33 = .ok (.iadd, 1) := by decide +kernel
theorem dX6_countStopped_34 : decode cX6_countStopped 34 = .ok (.istore_n 1, 1) := by decide +kernel
theorem dX6_countStopped_35 : decode cX6_countStopped 35 = .ok (.iinc 2 1, 3) := by decide +kernel
theorem dX6_countStopped_38 : decode cX6_countStopped 38 = .ok (.goto (-34), 3) := by decide +kernel
theorem dX6_countStopped_41 : decode cX6_countStopped 41 = .ok (.iload_n 1, 1) := by decide +kernel
theorem dX6_countStopped_42 : decode cX6_countStopped 42 = .ok (.ireturn, 1) := by decide +kernel
theorem dX6_kindsBy_0 : decode cX6_kindsBy 0 = .ok (.iconst 0, 1) := by decide +kernel
theorem dX6_kindsBy_1 : decode cX6_kindsBy 1 = .ok (.istore_n 3, 1) := by decide +kernel
theorem dX6_kindsBy_2 : decode cX6_kindsBy 2 = .ok (.iconst 0, 1) := by decide +kernel
theorem dX6_kindsBy_3 : decode cX6_kindsBy 3 = .ok (.istore 4, 2) := by decide +kernel
theorem dX6_kindsBy_5 : decode cX6_kindsBy 5 = .ok (.iload 4, 2) := by decide +kernel
theorem dX6_kindsBy_7 : decode cX6_kindsBy 7 = .ok (.bipush 6, 2) := by decide +kernel
theorem dX6_kindsBy_9 : decode cX6_kindsBy 9 = .ok (.if_icmp .ge 49, 3) := by decide +kernel
theorem dX6_kindsBy_12 : decode cX6_kindsBy 12 = .ok (.aload_n 0, 1) := by decide +kernel
theorem dX6_kindsBy_13 : decode cX6_kindsBy 13 = .ok (.aload_n 2, 1) := by decide +kernel
theorem dX6_kindsBy_14 : decode cX6_kindsBy 14 = .ok (.invokevirtual 133, 3) := by decide +kernel
theorem dX6_kindsBy_17 : decode cX6_kindsBy 17 = .ok (.aload_n 0, 1) := by decide +kernel
theorem dX6_kindsBy_18 : decode cX6_kindsBy 18 = .ok (.getfield 98, 3) := by decide +kernel
theorem dX6_kindsBy_21 : decode cX6_kindsBy 21 = .ok (.iload 4, 2) := by decide +kernel
theorem dX6_kindsBy_23 : decode cX6_kindsBy 23 = .ok (.putfield 348, 3) := by decide +kernel
theorem dX6_kindsBy_26 : decode cX6_kindsBy 26 = .ok (.iload_n 3, 1) := by decide +kernel
theorem dX6_kindsBy_27 : decode cX6_kindsBy 27 = .ok (.aload_n 0, 1) := by decide +kernel
theorem dX6_kindsBy_28 : decode cX6_kindsBy 28 = .ok (.getfield 98, 3) := by decide +kernel
theorem dX6_kindsBy_31 : decode cX6_kindsBy 31 = .ok (.aload_n 1, 1) := by decide +kernel
theorem dX6_kindsBy_32 : decode cX6_kindsBy 32 = .ok (.invokevirtual 237, 3) := by decide +kernel
theorem dX6_kindsBy_35 : decode cX6_kindsBy 35 = .ok (.iconst (-1), 1) := by decide +kernel
theorem dX6_kindsBy_36 : decode cX6_kindsBy 36 = .ok (.if_icmp .ne 7, 3) := by decide +kernel
theorem dX6_kindsBy_39 : decode cX6_kindsBy 39 = .ok (.iconst 1, 1) := by decide +kernel
theorem dX6_kindsBy_40 : decode cX6_kindsBy 40 = .ok (.goto 4, 3) := by decide +kernel
theorem dX6_kindsBy_43 : decode cX6_kindsBy 43 = .ok (.iconst 0, 1) := by decide +kernel
theorem dX6_kindsBy_44 : decode cX6_kindsBy 44 = .ok (.invokestatic 156, 3) := by decide +kernel
theorem dX6_kindsBy_47 : decode cX6_kindsBy 47 = .ok (.iload 4, 2) := by decide +kernel
theorem dX6_kindsBy_49 : decode cX6_kindsBy 49 = .ok (.ishl, 1) := by decide +kernel
theorem dX6_kindsBy_50 : decode cX6_kindsBy 50 = .ok (.ior, 1) := by decide +kernel
theorem dX6_kindsBy_51 : decode cX6_kindsBy 51 = .ok (.istore_n 3, 1) := by decide +kernel
theorem dX6_kindsBy_52 : decode cX6_kindsBy 52 = .ok (.iinc 4 1, 3) := by decide +kernel
theorem dX6_kindsBy_55 : decode cX6_kindsBy 55 = .ok (.goto (-50), 3) := by decide +kernel
theorem dX6_kindsBy_58 : decode cX6_kindsBy 58 = .ok (.iload_n 3, 1) := by decide +kernel
theorem dX6_kindsBy_59 : decode cX6_kindsBy 59 = .ok (.ireturn, 1) := by decide +kernel
theorem dX6_numbersBy_0 : decode cX6_numbersBy 0 = .ok (.iconst 0, 1) := by decide +kernel
theorem dX6_numbersBy_1 : decode cX6_numbersBy 1 = .ok (.istore_n 3, 1) := by decide +kernel
theorem dX6_numbersBy_2 : decode cX6_numbersBy 2 = .ok (.iconst 0, 1) := by decide +kernel
theorem dX6_numbersBy_3 : decode cX6_numbersBy 3 = .ok (.istore 4, 2) := by decide +kernel
theorem dX6_numbersBy_5 : decode cX6_numbersBy 5 = .ok (.iload 4, 2) := by decide +kernel
theorem dX6_numbersBy_7 : decode cX6_numbersBy 7 = .ok (.bipush 10, 2) := by decide +kernel
theorem dX6_numbersBy_9 : decode cX6_numbersBy 9 = .ok (.if_icmp .ge 49, 3) := by decide +kernel
theorem dX6_numbersBy_12 : decode cX6_numbersBy 12 = .ok (.aload_n 0, 1) := by decide +kernel
theorem dX6_numbersBy_13 : decode cX6_numbersBy 13 = .ok (.aload_n 2, 1) := by decide +kernel
theorem dX6_numbersBy_14 : decode cX6_numbersBy 14 = .ok (.invokevirtual 133, 3) := by decide +kernel
theorem dX6_numbersBy_17 : decode cX6_numbersBy 17 = .ok (.aload_n 0, 1) := by decide +kernel
theorem dX6_numbersBy_18 : decode cX6_numbersBy 18 = .ok (.getfield 98, 3) := by decide +kernel
theorem dX6_numbersBy_21 : decode cX6_numbersBy 21 = .ok (.iload 4, 2) := by decide +kernel
theorem dX6_numbersBy_23 : decode cX6_numbersBy 23 = .ok (.putfield 349, 3) := by decide +kernel
theorem dX6_numbersBy_26 : decode cX6_numbersBy 26 = .ok (.iload_n 3, 1) := by decide +kernel
theorem dX6_numbersBy_27 : decode cX6_numbersBy 27 = .ok (.aload_n 0, 1) := by decide +kernel
theorem dX6_numbersBy_28 : decode cX6_numbersBy 28 = .ok (.getfield 98, 3) := by decide +kernel
theorem dX6_numbersBy_31 : decode cX6_numbersBy 31 = .ok (.aload_n 1, 1) := by decide +kernel
theorem dX6_numbersBy_32 : decode cX6_numbersBy 32 = .ok (.invokevirtual 237, 3) := by decide +kernel
theorem dX6_numbersBy_35 : decode cX6_numbersBy 35 = .ok (.iconst (-1), 1) := by decide +kernel
theorem dX6_numbersBy_36 : decode cX6_numbersBy 36 = .ok (.if_icmp .ne 7, 3) := by decide +kernel
theorem dX6_numbersBy_39 : decode cX6_numbersBy 39 = .ok (.iconst 1, 1) := by decide +kernel
theorem dX6_numbersBy_40 : decode cX6_numbersBy 40 = .ok (.goto 4, 3) := by decide +kernel
theorem dX6_numbersBy_43 : decode cX6_numbersBy 43 = .ok (.iconst 0, 1) := by decide +kernel
theorem dX6_numbersBy_44 : decode cX6_numbersBy 44 = .ok (.invokestatic 156, 3) := by decide +kernel
theorem dX6_numbersBy_47 : decode cX6_numbersBy 47 = .ok (.iload 4, 2) := by decide +kernel
theorem dX6_numbersBy_49 : decode cX6_numbersBy 49 = .ok (.ishl, 1) := by decide +kernel
theorem dX6_numbersBy_50 : decode cX6_numbersBy 50 = .ok (.ior, 1) := by decide +kernel
theorem dX6_numbersBy_51 : decode cX6_numbersBy 51 = .ok (.istore_n 3, 1) := by decide +kernel
theorem dX6_numbersBy_52 : decode cX6_numbersBy 52 = .ok (.iinc 4 1, 3) := by decide +kernel
theorem dX6_numbersBy_55 : decode cX6_numbersBy 55 = .ok (.goto (-50), 3) := by decide +kernel
theorem dX6_numbersBy_58 : decode cX6_numbersBy 58 = .ok (.iload_n 3, 1) := by decide +kernel
theorem dX6_numbersBy_59 : decode cX6_numbersBy 59 = .ok (.ireturn, 1) := by decide +kernel
theorem dX6_setsBy_0 : decode cX6_setsBy 0 = .ok (.iconst 0, 1) := by decide +kernel
theorem dX6_setsBy_1 : decode cX6_setsBy 1 = .ok (.istore 4, 2) := by decide +kernel
theorem dX6_setsBy_3 : decode cX6_setsBy 3 = .ok (.iconst (-1), 1) := by decide +kernel
theorem dX6_setsBy_4 : decode cX6_setsBy 4 = .ok (.istore 5, 2) := by decide +kernel
theorem dX6_setsBy_6 : decode cX6_setsBy 6 = .ok (.iconst 0, 1) := by decide +kernel
theorem dX6_setsBy_7 : decode cX6_setsBy 7 = .ok (.istore 6, 2) := by decide +kernel
theorem dX6_setsBy_9 : decode cX6_setsBy 9 = .ok (.iload 6, 2) := by decide +kernel
theorem dX6_setsBy_11 : decode cX6_setsBy 11 = .ok (.sipush 256, 3) := by decide +kernel
theorem dX6_setsBy_14 : decode cX6_setsBy 14 = .ok (.if_icmp .ge 58, 3) := by decide +kernel
theorem dX6_setsBy_17 : decode cX6_setsBy 17 = .ok (.iload 6, 2) := by decide +kernel
theorem dX6_setsBy_19 : decode cX6_setsBy 19 = .ok (.aload_n 2, 1) := by decide +kernel
theorem dX6_setsBy_20 : decode cX6_setsBy 20 = .ok (.getfield 195, 3) := by decide +kernel
theorem dX6_setsBy_23 : decode cX6_setsBy 23 = .ok (.invokestatic 198, 3) := by decide +kernel
theorem dX6_setsBy_26 : decode cX6_setsBy 26 = .ok (.ifCond .eq 40, 3) := by decide +kernel
theorem dX6_setsBy_29 : decode cX6_setsBy 29 = .ok (.aload_n 0, 1) := by decide +kernel
theorem dX6_setsBy_30 : decode cX6_setsBy 30 = .ok (.aload_n 2, 1) := by decide +kernel
theorem dX6_setsBy_31 : decode cX6_setsBy 31 = .ok (.iload 6, 2) := by decide +kernel
theorem dX6_setsBy_33 : decode cX6_setsBy 33 = .ok (.invokevirtual 226, 3) := by decide +kernel
theorem dX6_setsBy_36 : decode cX6_setsBy 36 = .ok (.aload_n 0, 1) := by decide +kernel
theorem dX6_setsBy_37 : decode cX6_setsBy 37 = .ok (.getfield 98, 3) := by decide +kernel
theorem dX6_setsBy_40 : decode cX6_setsBy 40 = .ok (.aload_n 1, 1) := by decide +kernel
theorem dX6_setsBy_41 : decode cX6_setsBy 41 = .ok (.invokevirtual 237, 3) := by decide +kernel
theorem dX6_setsBy_44 : decode cX6_setsBy 44 = .ok (.iconst (-1), 1) := by decide +kernel
theorem dX6_setsBy_45 : decode cX6_setsBy 45 = .ok (.if_icmp .ne 21, 3) := by decide +kernel
theorem dX6_setsBy_48 : decode cX6_setsBy 48 = .ok (.iinc 4 1, 3) := by decide +kernel
theorem dX6_setsBy_51 : decode cX6_setsBy 51 = .ok (.iload 5, 2) := by decide +kernel
theorem dX6_setsBy_53 : decode cX6_setsBy 53 = .ok (.iconst (-1), 1) := by decide +kernel
theorem dX6_setsBy_54 : decode cX6_setsBy 54 = .ok (.if_icmp .ne 8, 3) := by decide +kernel
theorem dX6_setsBy_57 : decode cX6_setsBy 57 = .ok (.iload 6, 2) := by decide +kernel
theorem dX6_setsBy_59 : decode cX6_setsBy 59 = .ok (.goto 5, 3) := by decide +kernel
theorem dX6_setsBy_62 : decode cX6_setsBy 62 = .ok (.iload 5, 2) := by decide +kernel
theorem dX6_setsBy_64 : decode cX6_setsBy 64 = .ok (.istore 5, 2) := by decide +kernel
theorem dX6_setsBy_66 : decode cX6_setsBy 66 = .ok (.iinc 6 1, 3) := by decide +kernel
theorem dX6_setsBy_69 : decode cX6_setsBy 69 = .ok (.goto (-60), 3) := by decide +kernel
theorem dX6_setsBy_72 : decode cX6_setsBy 72 = .ok (.iload_n 3, 1) := by decide +kernel
theorem dX6_setsBy_73 : decode cX6_setsBy 73 = .ok (.ifCond .eq 8, 3) := by decide +kernel
theorem dX6_setsBy_76 : decode cX6_setsBy 76 = .ok (.iload 5, 2) := by decide +kernel
theorem dX6_setsBy_78 : decode cX6_setsBy 78 = .ok (.goto 5, 3) := by decide +kernel
theorem dX6_setsBy_81 : decode cX6_setsBy 81 = .ok (.iload 4, 2) := by decide +kernel
theorem dX6_setsBy_83 : decode cX6_setsBy 83 = .ok (.ireturn, 1) := by decide +kernel
theorem dX6_textsBy_0 : decode cX6_textsBy 0 = .ok (.iconst 0, 1) := by decide +kernel
theorem dX6_textsBy_1 : decode cX6_textsBy 1 = .ok (.istore_n 3, 1) := by decide +kernel
theorem dX6_textsBy_2 : decode cX6_textsBy 2 = .ok (.iconst 0, 1) := by decide +kernel
theorem dX6_textsBy_3 : decode cX6_textsBy 3 = .ok (.istore 4, 2) := by decide +kernel
theorem dX6_textsBy_5 : decode cX6_textsBy 5 = .ok (.iload 4, 2) := by decide +kernel
theorem dX6_textsBy_7 : decode cX6_textsBy 7 = .ok (.aload_n 0, 1) := by decide +kernel
theorem dX6_textsBy_8 : decode cX6_textsBy 8 = .ok (.getfield 35, 3) := by decide +kernel
theorem dX6_textsBy_11 : decode cX6_textsBy 11 = .ok (.if_icmp .ge 54, 3) := by decide +kernel
theorem dX6_textsBy_14 : decode cX6_textsBy 14 = .ok (.aload_n 0, 1) := by decide +kernel
theorem dX6_textsBy_15 : decode cX6_textsBy 15 = .ok (.aload_n 2, 1) := by decide +kernel
theorem dX6_textsBy_16 : decode cX6_textsBy 16 = .ok (.invokevirtual 133, 3) := by decide +kernel
theorem dX6_textsBy_19 : decode cX6_textsBy 19 = .ok (.aload_n 0, 1) := by decide +kernel
theorem dX6_textsBy_20 : decode cX6_textsBy 20 = .ok (.getfield 98, 3) := by decide +kernel
theorem dX6_textsBy_23 : decode cX6_textsBy 23 = .ok (.aload_n 0, 1) := by decide +kernel
theorem dX6_textsBy_24 : decode cX6_textsBy 24 = .ok (.getfield 31, 3) := by decide +kernel
theorem dX6_textsBy_27 : decode cX6_textsBy 27 = .ok (.iload 4, 2) := by decide +kernel
theorem dX6_textsBy_29 : decode cX6_textsBy 29 = .ok (.aaload, 1) := by decide +kernel
theorem dX6_textsBy_30 : decode cX6_textsBy 30 = .ok (.putfield 350, 3) := by decide +kernel
theorem dX6_textsBy_33 : decode cX6_textsBy 33 = .ok (.iload_n 3, 1) := by decide +kernel
theorem dX6_textsBy_34 : decode cX6_textsBy 34 = .ok (.aload_n 0, 1) := by decide +kernel
theorem dX6_textsBy_35 : decode cX6_textsBy 35 = .ok (.getfield 98, 3) := by decide +kernel
theorem dX6_textsBy_38 : decode cX6_textsBy 38 = .ok (.aload_n 1, 1) := by decide +kernel
theorem dX6_textsBy_39 : decode cX6_textsBy 39 = .ok (.invokevirtual 237, 3) := by decide +kernel
theorem dX6_textsBy_42 : decode cX6_textsBy 42 = .ok (.iconst (-1), 1) := by decide +kernel
theorem dX6_textsBy_43 : decode cX6_textsBy 43 = .ok (.if_icmp .ne 7, 3) := by decide +kernel
theorem dX6_textsBy_46 : decode cX6_textsBy 46 = .ok (.iconst 1, 1) := by decide +kernel
theorem dX6_textsBy_47 : decode cX6_textsBy 47 = .ok (.goto 4, 3) := by decide +kernel
theorem dX6_textsBy_50 : decode cX6_textsBy 50 = .ok (.iconst 0, 1) := by decide +kernel
theorem dX6_textsBy_51 : decode cX6_textsBy 51 = .ok (.invokestatic 156, 3) := by decide +kernel
theorem dX6_textsBy_54 : decode cX6_textsBy 54 = .ok (.iload 4, 2) := by decide +kernel
theorem dX6_textsBy_56 : decode cX6_textsBy 56 = .ok (.ishl, 1) := by decide +kernel
theorem dX6_textsBy_57 : decode cX6_textsBy 57 = .ok (.ior, 1) := by decide +kernel
theorem dX6_textsBy_58 : decode cX6_textsBy 58 = .ok (.istore_n 3, 1) := by decide +kernel
theorem dX6_textsBy_59 : decode cX6_textsBy 59 = .ok (.iinc 4 1, 3) := by decide +kernel
theorem dX6_textsBy_62 : decode cX6_textsBy 62 = .ok (.goto (-57), 3) := by decide +kernel
theorem dX6_textsBy_65 : decode cX6_textsBy 65 = .ok (.iload_n 3, 1) := by decide +kernel
theorem dX6_textsBy_66 : decode cX6_textsBy 66 = .ok (.ireturn, 1) := by decide +kernel
theorem dX6_stepsBy_0 : decode cX6_stepsBy 0 = .ok (.iconst 0, 1) := by decide +kernel
theorem dX6_stepsBy_1 : decode cX6_stepsBy 1 = .ok (.istore 4, 2) := by decide +kernel
theorem dX6_stepsBy_3 : decode cX6_stepsBy 3 = .ok (.iconst (-1), 1) := by decide +kernel
theorem dX6_stepsBy_4 : decode cX6_stepsBy 4 = .ok (.istore 5, 2) := by decide +kernel
theorem dX6_stepsBy_6 : decode cX6_stepsBy 6 = .ok (.iconst 0, 1) := by decide +kernel
theorem dX6_stepsBy_7 : decode cX6_stepsBy 7 = .ok (.istore 6, 2) := by decide +kernel
theorem dX6_stepsBy_9 : decode cX6_stepsBy 9 = .ok (.iload 6, 2) := by decide +kernel
theorem dX6_stepsBy_11 : decode cX6_stepsBy 11 = .ok (.sipush 999, 3) := by decide +kernel
theorem dX6_stepsBy_14 : decode cX6_stepsBy 14 = .ok (.if_icmp .gt 53, 3) := by decide +kernel
theorem dX6_stepsBy_17 : decode cX6_stepsBy 17 = .ok (.aload_n 0, 1) := by decide +kernel
theorem dX6_stepsBy_18 : decode cX6_stepsBy 18 = .ok (.aload_n 2, 1) := by decide +kernel
theorem dX6_stepsBy_19 : decode cX6_stepsBy 19 = .ok (.invokevirtual 133, 3) := by decide +kernel
theorem dX6_stepsBy_22 : decode cX6_stepsBy 22 = .ok (.aload_n 0, 1) := by decide +kernel
theorem dX6_stepsBy_23 : decode cX6_stepsBy 23 = .ok (.getfield 98, 3) := by decide +kernel
theorem dX6_stepsBy_26 : decode cX6_stepsBy 26 = .ok (.iload 6, 2) := by decide +kernel
theorem dX6_stepsBy_28 : decode cX6_stepsBy 28 = .ok (.putfield 169, 3) := by decide +kernel
theorem dX6_stepsBy_31 : decode cX6_stepsBy 31 = .ok (.aload_n 0, 1) := by decide +kernel
theorem dX6_stepsBy_32 : decode cX6_stepsBy 32 = .ok (.getfield 98, 3) := by decide +kernel
theorem dX6_stepsBy_35 : decode cX6_stepsBy 35 = .ok (.aload_n 1, 1) := by decide +kernel
theorem dX6_stepsBy_36 : decode cX6_stepsBy 36 = .ok (.invokevirtual 237, 3) := by decide +kernel
theorem dX6_stepsBy_39 : decode cX6_stepsBy 39 = .ok (.iconst (-1), 1) := by decide +kernel
theorem dX6_stepsBy_40 : decode cX6_stepsBy 40 = .ok (.if_icmp .ne 21, 3) := by decide +kernel
theorem dX6_stepsBy_43 : decode cX6_stepsBy 43 = .ok (.iinc 4 1, 3) := by decide +kernel
theorem dX6_stepsBy_46 : decode cX6_stepsBy 46 = .ok (.iload 5, 2) := by decide +kernel
theorem dX6_stepsBy_48 : decode cX6_stepsBy 48 = .ok (.iconst (-1), 1) := by decide +kernel
theorem dX6_stepsBy_49 : decode cX6_stepsBy 49 = .ok (.if_icmp .ne 8, 3) := by decide +kernel
theorem dX6_stepsBy_52 : decode cX6_stepsBy 52 = .ok (.iload 6, 2) := by decide +kernel
theorem dX6_stepsBy_54 : decode cX6_stepsBy 54 = .ok (.goto 5, 3) := by decide +kernel
theorem dX6_stepsBy_57 : decode cX6_stepsBy 57 = .ok (.iload 5, 2) := by decide +kernel
theorem dX6_stepsBy_59 : decode cX6_stepsBy 59 = .ok (.istore 5, 2) := by decide +kernel
theorem dX6_stepsBy_61 : decode cX6_stepsBy 61 = .ok (.iinc 6 1, 3) := by decide +kernel
theorem dX6_stepsBy_64 : decode cX6_stepsBy 64 = .ok (.goto (-55), 3) := by decide +kernel
theorem dX6_stepsBy_67 : decode cX6_stepsBy 67 = .ok (.iload_n 3, 1) := by decide +kernel
theorem dX6_stepsBy_68 : decode cX6_stepsBy 68 = .ok (.ifCond .eq 8, 3) := by decide +kernel
theorem dX6_stepsBy_71 : decode cX6_stepsBy 71 = .ok (.iload 5, 2) := by decide +kernel
theorem dX6_stepsBy_73 : decode cX6_stepsBy 73 = .ok (.goto 5, 3) := by decide +kernel
theorem dX6_stepsBy_76 : decode cX6_stepsBy 76 = .ok (.iload 4, 2) := by decide +kernel
theorem dX6_stepsBy_78 : decode cX6_stepsBy 78 = .ok (.ireturn, 1) := by decide +kernel
theorem dX7_in_0 : decode cX7_in 0 = .ok (.lload_n 0, 1) := by decide +kernel
theorem dX7_in_1 : decode cX7_in 1 = .ok (.lload_n 2, 1) := by decide +kernel
theorem dX7_in_2 : decode cX7_in 2 = .ok (.lcmp, 1) := by decide +kernel
theorem dX7_in_3 : decode cX7_in 3 = .ok (.ifCond .lt 14, 3) := by decide +kernel
theorem dX7_in_6 : decode cX7_in 6 = .ok (.lload_n 0, 1) := by decide +kernel
theorem dX7_in_7 : decode cX7_in 7 = .ok (.lload 4, 2) := by decide +kernel
theorem dX7_in_9 : decode cX7_in 9 = .ok (.lcmp, 1) := by decide +kernel
theorem dX7_in_10 : decode cX7_in 10 = .ok (.ifCond .gt 7, 3) := by decide +kernel
theorem dX7_in_13 : decode cX7_in 13 = .ok (.iconst 1, 1) := by decide +kernel
theorem dX7_in_14 : decode cX7_in 14 = .ok (.goto 4, 3) := by decide +kernel
theorem dX7_in_17 : decode cX7_in 17 = .ok (.iconst 0, 1) := by decide +kernel
theorem dX7_in_18 : decode cX7_in 18 = .ok (.ireturn, 1) := by decide +kernel
theorem dX7_within_0 : decode cX7_within 0 = .ok (.iload_n 0, 1) := by decide +kernel
theorem dX7_within_1 : decode cX7_within 1 = .ok (.iload_n 1, 1) := by decide +kernel
theorem dX7_within_2 : decode cX7_within 2 = .ok (.if_icmp .ge 7, 3) := by decide +kernel
theorem dX7_within_5 : decode cX7_within 5 = .ok (.iload_n 1, 1) := by decide +kernel
theorem dX7_within_6 : decode cX7_within 6 = .ok (.goto 13, 3) := by decide +kernel
theorem dX7_within_9 : decode cX7_within 9 = .ok (.iload_n 0, 1) := by decide +kernel
theorem dX7_within_10 : decode cX7_within 10 = .ok (.iload_n 2, 1) := by decide +kernel
theorem dX7_within_11 : decode cX7_within 11 = .ok (.if_icmp .le 7, 3) := by decide +kernel
theorem dX7_within_14 : decode cX7_within 14 = .ok (.iload_n 2, 1) := by decide +kernel
theorem dX7_within_15 : decode cX7_within 15 = .ok (.goto 4, 3) := by decide +kernel
theorem dX7_within_18 : decode cX7_within 18 = .ok (.iload_n 0, 1) := by decide +kernel
theorem dX7_within_19 : decode cX7_within 19 = .ok (.ireturn, 1) := by decide +kernel
theorem dX7_init_0 : decode cX7_init 0 = .ok (.aload_n 0, 1) := by decide +kernel
theorem dX7_init_1 : decode cX7_init 1 = .ok (.invokespecial 7, 3) := by decide +kernel
theorem dX7_init_4 : decode cX7_init 4 = .ok (.aload_n 0, 1) := by decide +kernel
theorem dX7_init_5 : decode cX7_init 5 = .ok (.sipush 960, 3) := by decide +kernel
theorem dX7_init_8 : decode cX7_init 8 = .ok (.newarray .int, 2) := by decide +kernel
theorem dX7_init_10 : decode cX7_init 10 = .ok (.putfield 13, 3) := by decide +kernel
theorem dX7_init_13 : decode cX7_init 13 = .ok (.aload_n 0, 1) := by decide +kernel
theorem dX7_init_14 : decode cX7_init 14 = .ok (.bipush 6, 2) := by decide +kernel
theorem dX7_init_16 : decode cX7_init 16 = .ok (.newarray .int, 2) := by decide +kernel
theorem dX7_init_18 : decode cX7_init 18 = .ok (.putfield 17, 3) := by decide +kernel
theorem dX7_init_21 : decode cX7_init 21 = .ok (.aload_n 0, 1) := by decide +kernel
theorem dX7_init_22 : decode cX7_init 22 = .ok (.sipush 160, 3) := by decide +kernel
theorem dX7_init_25 : decode cX7_init 25 = .ok (.newarray .int, 2) := by decide +kernel
theorem dX7_init_27 : decode cX7_init 27 = .ok (.putfield 20, 3) := by decide +kernel
theorem dX7_init_30 : decode cX7_init 30 = .ok (.aload_n 0, 1) := by decide +kernel
theorem dX7_init_31 : decode cX7_init 31 = .ok (.bipush 8, 2) := by decide +kernel
theorem dX7_init_33 : decode cX7_init 33 = .ok (.newarray .int, 2) := by decide +kernel
theorem dX7_init_35 : decode cX7_init 35 = .ok (.putfield 23, 3) := by decide +kernel
theorem dX7_init_38 : decode cX7_init 38 = .ok (.aload_n 0, 1) := by decide +kernel
theorem dX7_init_39 : decode cX7_init 39 = .ok (.bipush 6, 2) := by decide +kernel
theorem dX7_init_41 : decode cX7_init 41 = .ok (.newarray .int, 2) := by decide +kernel
theorem dX7_init_43 : decode cX7_init 43 = .ok (.putfield 26, 3) := by decide +kernel
theorem dX7_init_46 : decode cX7_init 46 = .ok (.aload_n 0, 1) := by decide +kernel
theorem dX7_init_47 : decode cX7_init 47 = .ok (.bipush 30, 2) := by decide +kernel
theorem dX7_init_49 : decode cX7_init 49 = .ok (.newarray .int, 2) := by decide +kernel
theorem dX7_init_51 : decode cX7_init 51 = .ok (.putfield 29, 3) := by decide +kernel
theorem dX7_init_54 : decode cX7_init 54 = .ok (.aload_n 0, 1) := by decide +kernel
theorem dX7_init_55 : decode cX7_init 55 = .ok (.bipush 8, 2) := by decide +kernel
theorem dX7_init_57 : decode cX7_init 57 = .ok (.newarray .int, 2) := by decide +kernel
theorem dX7_init_59 : decode cX7_init 59 = .ok (.putfield 32, 3) := by decide +kernel
theorem dX7_init_62 : decode cX7_init 62 = .ok (.aload_n 0, 1) := by decide +kernel
theorem dX7_init_63 : decode cX7_init 63 = .ok (.bipush 8, 2) := by decide +kernel
theorem dX7_init_65 : decode cX7_init 65 = .ok (.newarray .int, 2) := by decide +kernel
theorem dX7_init_67 : decode cX7_init 67 = .ok (.putfield 35, 3) := by decide +kernel
theorem dX7_init_70 : decode cX7_init 70 = .ok (.aload_n 0, 1) := by decide +kernel
theorem dX7_init_71 : decode cX7_init 71 = .ok (.bipush 30, 2) := by decide +kernel
theorem dX7_init_73 : decode cX7_init 73 = .ok (.newarray .int, 2) := by decide +kernel
theorem dX7_init_75 : decode cX7_init 75 = .ok (.putfield 38, 3) := by decide +kernel
theorem dX7_init_78 : decode cX7_init 78 = .ok (.aload_n 0, 1) := by decide +kernel
theorem dX7_init_79 : decode cX7_init 79 = .ok (.iconst (-1), 1) := by decide +kernel
theorem dX7_init_80 : decode cX7_init 80 = .ok (.putfield 41, 3) := by decide +kernel
theorem dX7_init_83 : decode cX7_init 83 = .ok (.aload_n 0, 1) := by decide +kernel
theorem dX7_init_84 : decode cX7_init 84 = .ok (.iconst 4, 1) := by decide +kernel
theorem dX7_init_85 : decode cX7_init 85 = .ok (.newarray .boolean, 2) := by decide +kernel
theorem dX7_init_87 : decode cX7_init 87 = .ok (.putfield 44, 3) := by decide +kernel
theorem dX7_init_90 : decode cX7_init 90 = .ok (.aload_n 0, 1) := by decide +kernel
theorem dX7_init_91 : decode cX7_init 91 = .ok (.iconst 4, 1) := by decide +kernel
theorem dX7_init_92 : decode cX7_init 92 = .ok (.newarray .int, 2) := by decide +kernel
theorem dX7_init_94 : decode cX7_init 94 = .ok (.putfield 48, 3) := by decide +kernel
theorem dX7_init_97 : decode cX7_init 97 = .ok (.aload_n 0, 1) := by decide +kernel
theorem dX7_init_98 : decode cX7_init 98 = .ok (.iconst 4, 1) := by decide +kernel
theorem dX7_init_99 : decode cX7_init 99 = .ok (.newarray .int, 2) := by decide +kernel
theorem dX7_init_101 : decode cX7_init 101 = .ok (.putfield 51, 3) := by decide +kernel
theorem dX7_init_104 : decode cX7_init 104 = .ok (.aload_n 0, 1) := by decide +kernel
theorem dX7_init_105 : decode cX7_init 105 = .ok (.sipush 160, 3) := by decide +kernel
theorem dX7_init_108 : decode cX7_init 108 = .ok (.newarray .int, 2) := by decide +kernel
theorem dX7_init_110 : decode cX7_init 110 = .ok (.putfield 54, 3) := by decide +kernel
theorem dX7_init_113 : decode cX7_init 113 = .ok (.iconst 0, 1) := by decide +kernel
theorem dX7_init_114 : decode cX7_init 114 = .ok (.istore_n 1, 1) := by decide +kernel
theorem dX7_init_115 : decode cX7_init 115 = .ok (.iload_n 1, 1) := by decide +kernel
theorem dX7_init_116 : decode cX7_init 116 = .ok (.bipush 8, 2) := by decide +kernel
theorem dX7_init_118 : decode cX7_init 118 = .ok (.if_icmp .ge 17, 3) := by decide +kernel
theorem dX7_init_121 : decode cX7_init 121 = .ok (.aload_n 0, 1) := by decide +kernel
theorem dX7_init_122 : decode cX7_init 122 = .ok (.getfield 23, 3) := by decide +kernel
theorem dX7_init_125 : decode cX7_init 125 = .ok (.iload_n 1, 1) := by decide +kernel
theorem dX7_init_126 : decode cX7_init 126 = .ok (.bipush 10, 2) := by decide +kernel
theorem dX7_init_128 : decode cX7_init 128 = .ok (.iastore, 1) := by decide +kernel
theorem dX7_init_129 : decode cX7_init 129 = .ok (.iinc 1 1, 3) := by decide +kernel
theorem dX7_init_132 : decode cX7_init 132 = .ok (.goto (-17), 3) := by decide +kernel
theorem dX7_init_135 : decode cX7_init 135 = .ok (.aload_n 0, 1) := by decide +kernel
theorem dX7_init_136 : decode cX7_init 136 = .ok (.iconst 0, 1) := by decide +kernel
theorem dX7_init_137 : decode cX7_init 137 = .ok (.bipush 108, 2) := by decide +kernel
theorem dX7_init_139 : decode cX7_init 139 = .ok (.bipush 97, 2) := by decide +kernel
theorem dX7_init_141 : decode cX7_init 141 = .ok (.bipush 115, 2) := by decide +kernel
theorem dX7_init_143 : decode cX7_init 143 = .ok (.bipush 116, 2) := by decide +kernel
theorem dX7_init_145 : decode cX7_init 145 = .ok (.bipush 115, 2) := by decide +kernel
theorem dX7_init_147 : decode cX7_init 147 = .ok (.bipush 32, 2) := by decide +kernel
theorem dX7_init_149 : decode cX7_init 149 = .ok (.bipush 116, 2) := by decide +kernel
theorem dX7_init_151 : decode cX7_init 151 = .ok (.bipush 111, 2) := by decide +kernel
theorem dX7_init_153 : decode cX7_init 153 = .ok (.invokevirtual 57, 3) := by decide +kernel
theorem dX7_init_156 : decode cX7_init 156 = .ok (.aload_n 0, 1) := by decide +kernel
theorem dX7_init_157 : decode cX7_init 157 = .ok (.bipush 8, 2) := by decide +kernel
theorem dX7_init_159 : decode cX7_init 159 = .ok (.bipush 108, 2) := by decide +kernel
theorem dX7_init_161 : decode cX7_init 161 = .ok (.bipush 100, 2) := by decide +kernel
theorem dX7_init_163 : decode cX7_init 163 = .ok (.bipush 32, 2) := by decide +kernel
theorem dX7_init_165 : decode cX7_init 165 = .ok (.bipush 42, 2) := by decide +kernel
theorem dX7_init_167 : decode cX7_init 167 = .ok (.bipush 32, 2) := by decide +kernel
theorem dX7_init_169 : decode cX7_init 169 = .ok (.bipush 51, 2) := by decide +kernel
theorem dX7_init_171 : decode cX7_init 171 = .ok (.bipush 32, 2) := by decide +kernel
theorem dX7_init_173 : decode cX7_init 173 = .ok (.bipush 43, 2) := by decide +kernel
theorem dX7_init_175 : decode cX7_init 175 = .ok (.invokevirtual 57, 3) := by decide +kernel
theorem dX7_init_178 : decode cX7_init 178 = .ok (.aload_n 0, 1) := by decide +kernel
theorem dX7_init_179 : decode cX7_init 179 = .ok (.bipush 16, 2) := by decide +kernel
theorem dX7_init_181 : decode cX7_init 181 = .ok (.bipush 32, 2) := by decide +kernel
theorem dX7_init_183 : decode cX7_init 183 = .ok (.bipush 53, 2) := by decide +kernel
theorem dX7_init_185 : decode cX7_init 185 = .ok (.bipush 32, 2) := by decide +kernel
theorem dX7_init_187 : decode cX7_init 187 = .ok (.bipush 59, 2) := by decide +kernel
theorem dX7_init_189 : decode cX7_init 189 = .ok (.bipush 32, 2) := by decide +kernel
theorem dX7_init_191 : decode cX7_init 191 = .ok (.bipush 112, 2) := by decide +kernel
theorem dX7_init_193 : decode cX7_init 193 = .ok (.bipush 97, 2) := by decide +kernel
theorem dX7_init_195 : decode cX7_init 195 = .ok (.bipush 99, 2) := by decide +kernel
theorem dX7_init_197 : decode cX7_init 197 = .ok (.invokevirtual 57, 3) := by decide +kernel
theorem dX7_init_200 : decode cX7_init 200 = .ok (.aload_n 0, 1) := by decide +kernel
theorem dX7_init_201 : decode cX7_init 201 = .ok (.bipush 24, 2) := by decide +kernel
theorem dX7_init_203 : decode cX7_init 203 = .ok (.bipush 101, 2) := by decide +kernel
theorem dX7_init_205 : decode cX7_init 205 = .ok (.bipush 115, 2) := by decide +kernel
theorem dX7_init_207 : decode cX7_init 207 = .ok (.bipush 32, 2) := by decide +kernel
theorem dX7_init_209 : decode cX7_init 209 = .ok (.bipush 49, 2) := by decide +kernel
theorem dX7_init_211 : decode cX7_init 211 = .ok (.bipush 48, 2) := by decide +kernel
theorem dX7_init_213 : decode cX7_init 213 = .ok (.bipush 32, 2) := by decide +kernel
theorem dX7_init_215 : decode cX7_init 215 = .ok (.bipush 45, 2) := by decide +kernel
theorem dX7_init_217 : decode cX7_init 217 = .ok (.bipush 32, 2) := by decide +kernel
theorem dX7_init_219 : decode cX7_init 219 = .ok (.invokevirtual 57, 3) := by decide +kernel
theorem dX7_init_222 : decode cX7_init 222 = .ok (.aload_n 0, 1) := by decide +kernel
theorem dX7_init_223 : decode cX7_init 223 = .ok (.bipush 32, 2) := by decide +kernel
theorem dX7_init_225 : decode cX7_init 225 = .ok (.bipush 117, 2) := by decide +kernel
theorem dX7_init_227 : decode cX7_init 227 = .ok (.bipush 110, 2) := by decide +kernel
theorem dX7_init_229 : decode cX7_init 229 = .ok (.bipush 116, 2) := by decide +kernel
theorem dX7_init_231 : decode cX7_init 231 = .ok (.bipush 111, 2) := by decide +kernel
theorem dX7_init_233 : decode cX7_init 233 = .ok (.bipush 108, 2) := by decide +kernel
theorem dX7_init_235 : decode cX7_init 235 = .ok (.bipush 100, 2) := by decide +kernel
theorem dX7_init_237 : decode cX7_init 237 = .ok (.bipush 32, 2) := by decide +kernel
theorem dX7_init_239 : decode cX7_init 239 = .ok (.bipush 59, 2) := by decide +kernel
theorem dX7_init_241 : decode cX7_init 241 = .ok (.invokevirtual 57, 3) := by decide +kernel
theorem dX7_init_244 : decode cX7_init 244 = .ok (.aload_n 0, 1) := by decide +kernel
theorem dX7_init_245 : decode cX7_init 245 = .ok (.bipush 40, 2) := by decide +kernel
theorem dX7_init_247 : decode cX7_init 247 = .ok (.bipush 32, 2) := by decide +kernel
theorem dX7_init_249 : decode cX7_init 249 = .ok (.bipush 115, 2) := by decide +kernel
theorem dX7_init_251 : decode cX7_init 251 = .ok (.bipush 116, 2) := by decide +kernel
theorem dX7_init_253 : decode cX7_init 253 = .ok (.bipush 111, 2) := by decide +kernel
theorem dX7_init_255 : decode cX7_init 255 = .ok (.bipush 112, 2) := by decide +kernel
theorem dX7_init_257 : decode cX7_init 257 = .ok (.bipush 115, 2) := by decide +kernel
theorem dX7_init_259 : decode cX7_init 259 = .ok (.bipush 32, 2) := by decide +kernel
theorem dX7_init_261 : decode cX7_init 261 = .ok (.bipush 53, 2) := by decide +kernel
theorem dX7_init_263 : decode cX7_init 263 = .ok (.invokevirtual 57, 3) := by decide +kernel
theorem dX7_init_266 : decode cX7_init 266 = .ok (.aload_n 0, 1) := by decide +kernel
theorem dX7_init_267 : decode cX7_init 267 = .ok (.bipush 48, 2) := by decide +kernel
theorem dX7_init_269 : decode cX7_init 269 = .ok (.bipush 48, 2) := by decide +kernel
theorem dX7_init_271 : decode cX7_init 271 = .ok (.bipush 32, 2) := by decide +kernel
theorem dX7_init_273 : decode cX7_init 273 = .ok (.bipush 60, 2) := by decide +kernel
theorem dX7_init_275 : decode cX7_init 275 = .ok (.bipush 32, 2) := by decide +kernel
theorem dX7_init_277 : decode cX7_init 277 = .ok (.bipush 117, 2) := by decide +kernel
theorem dX7_init_279 : decode cX7_init 279 = .ok (.bipush 110, 2) := by decide +kernel
theorem dX7_init_281 : decode cX7_init 281 = .ok (.bipush 116, 2) := by decide +kernel
theorem dX7_init_283 : decode cX7_init 283 = .ok (.bipush 111, 2) := by decide +kernel
theorem dX7_init_285 : decode cX7_init 285 = .ok (.invokevirtual 57, 3) := by decide +kernel
theorem dX7_init_288 : decode cX7_init 288 = .ok (.aload_n 0, 1) := by decide +kernel
theorem dX7_init_289 : decode cX7_init 289 = .ok (.bipush 56, 2) := by decide +kernel
theorem dX7_init_291 : decode cX7_init 291 = .ok (.bipush 108, 2) := by decide +kernel
theorem dX7_init_293 : decode cX7_init 293 = .ok (.bipush 100, 2) := by decide +kernel
theorem dX7_init_295 : decode cX7_init 295 = .ok (.bipush 32, 2) := by decide +kernel
theorem dX7_init_297 : decode cX7_init 297 = .ok (.bipush 59, 2) := by decide +kernel
theorem dX7_init_299 : decode cX7_init 299 = .ok (.bipush 32, 2) := by decide +kernel
theorem dX7_init_301 : decode cX7_init 301 = .ok (.bipush 32, 2) := by decide +kernel
theorem dX7_init_303 : decode cX7_init 303 = .ok (.bipush 32, 2) := by decide +kernel
theorem dX7_init_305 : decode cX7_init 305 = .ok (.bipush 32, 2) := by decide +kernel
theorem dX7_init_307 : decode cX7_init 307 = .ok (.invokevirtual 57, 3) := by decide +kernel
theorem dX7_init_310 : decode cX7_init 310 = .ok (.aload_n 0, 1) := by decide +kernel
theorem dX7_init_311 : decode cX7_init 311 = .ok (.getfield 17, 3) := by decide +kernel
theorem dX7_init_314 : decode cX7_init 314 = .ok (.iconst 0, 1) := by decide +kernel
theorem dX7_init_315 : decode cX7_init 315 = .ok (.bipush 64, 2) := by decide +kernel
theorem dX7_init_317 : decode cX7_init 317 = .ok (.iastore, 1) := by decide +kernel
theorem dX7_init_318 : decode cX7_init 318 = .ok (.aload_n 0, 1) := by decide +kernel
theorem dX7_init_319 : decode cX7_init 319 = .ok (.iconst 1, 1) := by decide +kernel
theorem dX7_init_320 : decode cX7_init 320 = .ok (.putfield 61, 3) := by decide +kernel
theorem dX7_init_323 : decode cX7_init 323 = .ok (.return_, 1) := by decide +kernel
theorem dX7_spell_0 : decode cX7_spell 0 = .ok (.aload_n 0, 1) := by decide +kernel
theorem dX7_spell_1 : decode cX7_spell 1 = .ok (.getfield 13, 3) := by decide +kernel
theorem dX7_spell_4 : decode cX7_spell 4 = .ok (.iload_n 1, 1) := by decide +kernel
theorem dX7_spell_5 : decode cX7_spell 5 = .ok (.iload_n 2, 1) := by decide +kernel
theorem dX7_spell_6 : decode cX7_spell 6 = .ok (.iastore, 1) := by decide +kernel
theorem dX7_spell_7 : decode cX7_spell 7 = .ok (.aload_n 0, 1) := by decide +kernel
theorem dX7_spell_8 : decode cX7_spell 8 = .ok (.getfield 13, 3) := by decide +kernel
theorem dX7_spell_11 : decode cX7_spell 11 = .ok (.iload_n 1, 1) := by decide +kernel
theorem dX7_spell_12 : decode cX7_spell 12 = .ok (.iconst 1, 1) := by decide +kernel
theorem dX7_spell_13 : decode cX7_spell 13 = .ok (.iadd, 1) := by decide +kernel
theorem dX7_spell_14 : decode cX7_spell 14 = .ok (.iload_n 3, 1) := by decide +kernel
theorem dX7_spell_15 : decode cX7_spell 15 = .ok (.iastore, 1) := by decide +kernel
theorem dX7_spell_16 : decode cX7_spell 16 = .ok (.aload_n 0, 1) := by decide +kernel
theorem dX7_spell_17 : decode cX7_spell 17 = .ok (.getfield 13, 3) := by decide +kernel
theorem dX7_spell_20 : decode cX7_spell 20 = .ok (.iload_n 1, 1) := by decide +kernel
theorem dX7_spell_21 : decode cX7_spell 21 = .ok (.iconst 2, 1) := by decide +kernel
theorem dX7_spell_22 : decode cX7_spell 22 = .ok (.iadd, 1) := by decide +kernel
theorem dX7_spell_23 : decode cX7_spell 23 = .ok (.iload 4, 2) := by decide +kernel
theorem dX7_spell_25 : decode cX7_spell 25 = .ok (.iastore, 1) := by decide +kernel
theorem dX7_spell_26 : decode cX7_spell 26 = .ok (.aload_n 0, 1) := by decide +kernel
theorem dX7_spell_27 : decode cX7_spell 27 = .ok (.getfield 13, 3) := by decide +kernel
theorem dX7_spell_30 : decode cX7_spell 30 = .ok (.iload_n 1, 1) := by decide +kernel
theorem dX7_spell_31 : decode cX7_spell 31 = .ok (.iconst 3, 1) := by decide +kernel
theorem dX7_spell_32 : decode cX7_spell 32 = .ok (.iadd, 1) := by decide +kernel
theorem dX7_spell_33 : decode cX7_spell 33 = .ok (.iload 5, 2) := by decide +kernel
theorem dX7_spell_35 : decode cX7_spell 35 = .ok (.iastore, 1) := by decide +kernel
theorem dX7_spell_36 : decode cX7_spell 36 = .ok (.aload_n 0, 1) := by decide +kernel
theorem dX7_spell_37 : decode cX7_spell 37 = .ok (.getfield 13, 3) := by decide +kernel
theorem dX7_spell_40 : decode cX7_spell 40 = .ok (.iload_n 1, 1) := by decide +kernel
theorem dX7_spell_41 : decode cX7_spell 41 = .ok (.iconst 4, 1) := by decide +kernel
theorem dX7_spell_42 : decode cX7_spell 42 = .ok (.iadd, 1) := by decide +kernel
theorem dX7_spell_43 : decode cX7_spell 43 = .ok (.iload 6, 2) := by decide +kernel
theorem dX7_spell_45 : decode cX7_spell 45 = .ok (.iastore, 1) := by decide +kernel
theorem dX7_spell_46 : decode cX7_spell 46 = .ok (.aload_n 0, 1) := by decide +kernel
theorem dX7_spell_47 : decode cX7_spell 47 = .ok (.getfield 13, 3) := by decide +kernel
theorem dX7_spell_50 : decode cX7_spell 50 = .ok (.iload_n 1, 1) := by decide +kernel
theorem dX7_spell_51 : decode cX7_spell 51 = .ok (.iconst 5, 1) := by decide +kernel
theorem dX7_spell_52 : decode cX7_spell 52 = .ok (.iadd, 1) := by decide +kernel
theorem dX7_spell_53 : decode cX7_spell 53 = .ok (.iload 7, 2) := by decide +kernel
theorem dX7_spell_55 : decode cX7_spell 55 = .ok (.iastore, 1) := by decide +kernel
theorem dX7_spell_56 : decode cX7_spell 56 = .ok (.aload_n 0, 1) := by decide +kernel
theorem dX7_spell_57 : decode cX7_spell 57 = .ok (.getfield 13, 3) := by decide +kernel
theorem dX7_spell_60 : decode cX7_spell 60 = .ok (.iload_n 1, 1) := by decide +kernel
theorem dX7_spell_61 : decode cX7_spell 61 = .ok (.bipush 6, 2) := by decide +kernel
theorem dX7_spell_63 : decode cX7_spell 63 = .ok (.iadd, 1) := by decide +kernel
theorem dX7_spell_64 : decode cX7_spell 64 = .ok (.iload 8, 2) := by decide +kernel
theorem dX7_spell_66 : decode cX7_spell 66 = .ok (.iastore, 1) := by decide +kernel
theorem dX7_spell_67 : decode cX7_spell 67 = .ok (.aload_n 0, 1) := by decide +kernel
theorem dX7_spell_68 : decode cX7_spell 68 = .ok (.getfield 13, 3) := by decide +kernel
theorem dX7_spell_71 : decode cX7_spell 71 = .ok (.iload_n 1, 1) := by decide +kernel
theorem dX7_spell_72 : decode cX7_spell 72 = .ok (.bipush 7, 2) := by decide +kernel
theorem dX7_spell_74 : decode cX7_spell 74 = .ok (.iadd, 1) := by decide +kernel
theorem dX7_spell_75 : decode cX7_spell 75 = .ok (.iload 9, 2) := by decide +kernel
theorem dX7_spell_77 : decode cX7_spell 77 = .ok (.iastore, 1) := by decide +kernel
theorem dX7_spell_78 : decode cX7_spell 78 = .ok (.return_, 1) := by decide +kernel
theorem dX7_isOne_0 : decode cX7_isOne 0 = .ok (.iload_n 1, 1) := by decide +kernel
theorem dX7_isOne_1 : decode cX7_isOne 1 = .ok (.i2l, 1) := by decide +kernel
theorem dX7_isOne_2 : decode cX7_isOne 2 = .ok (.lconst 0, 1) := by decide +kernel
theorem dX7_isOne_3 : decode cX7_isOne 3 = .ok (.aload_n 0, 1) := by decide +kernel
theorem dX7_isOne_4 : decode cX7_isOne 4 = .ok (.getfield 64, 3) := by decide +kernel
theorem dX7_isOne_7 : decode cX7_isOne 7 = .ok (.iconst 1, 1) := by decide +kernel
theorem dX7_isOne_8 : decode cX7_isOne 8 = .ok (.isub, 1) := by decide +kernel
theorem dX7_isOne_9 : decode cX7_isOne 9 = .ok (.i2l, 1) := by decide +kernel
theorem dX7_isOne_10 : decode cX7_isOne 10 = .ok (.invokestatic 67, 3) := by decide +kernel
theorem dX7_isOne_13 : decode cX7_isOne 13 = .ok (.ireturn, 1) := by decide +kernel
theorem dX7_mostOf_0 : decode cX7_mostOf 0 = .ok (.iload_n 0, 1) := by decide +kernel
theorem dX7_mostOf_1 : decode cX7_mostOf 1 = .ok (.ifCond .ne 9, 3) := by decide +kernel
theorem dX7_mostOf_4 : decode cX7_mostOf 4 = .ok (.sipush 999, 3) := by decide +kernel
theorem dX7_mostOf_7 : decode cX7_mostOf 7 = .ok (.goto 48, 3) := by decide +kernel
theorem dX7_mostOf_10 : decode cX7_mostOf 10 = .ok (.iload_n 0, 1) := by decide +kernel
theorem dX7_mostOf_11 : decode cX7_mostOf 11 = .ok (.iconst 1, 1) := by decide +kernel
theorem dX7_mostOf_12 : decode cX7_mostOf 12 = .ok (.if_icmp .ne 8, 3) := by decide +kernel
theorem dX7_mostOf_15 : decode cX7_mostOf 15 = .ok (.bipush 99, 2) := by decide +kernel
theorem dX7_mostOf_17 : decode cX7_mostOf 17 = .ok (.goto 38, 3) := by decide +kernel
theorem dX7_mostOf_20 : decode cX7_mostOf 20 = .ok (.iload_n 0, 1) := by decide +kernel
theorem dX7_mostOf_21 : decode cX7_mostOf 21 = .ok (.iconst 2, 1) := by decide +kernel
theorem dX7_mostOf_22 : decode cX7_mostOf 22 = .ok (.if_icmp .ne 8, 3) := by decide +kernel
theorem dX7_mostOf_25 : decode cX7_mostOf 25 = .ok (.bipush 9, 2) := by decide +kernel
theorem dX7_mostOf_27 : decode cX7_mostOf 27 = .ok (.goto 28, 3) := by decide +kernel
theorem dX7_mostOf_30 : decode cX7_mostOf 30 = .ok (.iload_n 0, 1) := by decide +kernel
theorem dX7_mostOf_31 : decode cX7_mostOf 31 = .ok (.iconst 5, 1) := by decide +kernel
theorem dX7_mostOf_32 : decode cX7_mostOf 32 = .ok (.if_icmp .ge 9, 3) := by decide +kernel
theorem dX7_mostOf_35 : decode cX7_mostOf 35 = .ok (.sipush 255, 3) := by decide +kernel
theorem dX7_mostOf_38 : decode cX7_mostOf 38 = .ok (.goto 17, 3) := by decide +kernel
theorem dX7_mostOf_41 : decode cX7_mostOf 41 = .ok (.iload_n 0, 1) := by decide +kernel
theorem dX7_mostOf_42 : decode cX7_mostOf 42 = .ok (.iconst 5, 1) := by decide +kernel
theorem dX7_mostOf_43 : decode cX7_mostOf 43 = .ok (.if_icmp .ne 9, 3) := by decide +kernel
theorem dX7_mostOf_46 : decode cX7_mostOf 46 = .ok (.sipush 999, 3) := by decide +kernel
theorem dX7_mostOf_49 : decode cX7_mostOf 49 = .ok (.goto 6, 3) := by decide +kernel
theorem dX7_mostOf_52 : decode cX7_mostOf 52 = .ok (.sipush 9999, 3) := by decide +kernel
theorem dX7_mostOf_55 : decode cX7_mostOf 55 = .ok (.ireturn, 1) := by decide +kernel
theorem dX7_isOf_0 : decode cX7_isOf 0 = .ok (.iload_n 1, 1) := by decide +kernel
theorem dX7_isOf_1 : decode cX7_isOf 1 = .ok (.ifCond .eq 31, 3) := by decide +kernel
theorem dX7_isOf_4 : decode cX7_isOf 4 = .ok (.iload_n 1, 1) := by decide +kernel
theorem dX7_isOf_5 : decode cX7_isOf 5 = .ok (.iconst 1, 1) := by decide +kernel
theorem dX7_isOf_6 : decode cX7_isOf 6 = .ok (.if_icmp .ne 18, 3) := by decide +kernel
theorem dX7_isOf_9 : decode cX7_isOf 9 = .ok (.iload_n 2, 1) := by decide +kernel
theorem dX7_isOf_10 : decode cX7_isOf 10 = .ok (.i2l, 1) := by decide +kernel
theorem dX7_isOf_11 : decode cX7_isOf 11 = .ok (.lconst 0, 1) := by decide +kernel
theorem dX7_isOf_12 : decode cX7_isOf 12 = .ok (.ldc2_w 71, 3) := by decide +kernel
theorem dX7_isOf_15 : decode cX7_isOf 15 = .ok (.invokestatic 67, 3) := by decide +kernel
theorem dX7_isOf_18 : decode cX7_isOf 18 = .ok (.ifCond .eq 18, 3) := by decide +kernel
theorem dX7_isOf_21 : decode cX7_isOf 21 = .ok (.goto 11, 3) := by decide +kernel
theorem dX7_isOf_24 : decode cX7_isOf 24 = .ok (.aload_n 0, 1) := by decide +kernel
theorem dX7_isOf_25 : decode cX7_isOf 25 = .ok (.iload_n 2, 1) := by decide +kernel
theorem dX7_isOf_26 : decode cX7_isOf 26 = .ok (.invokevirtual 73, 3) := by decide +kernel
theorem dX7_isOf_29 : decode cX7_isOf 29 = .ok (.ifCond .eq 7, 3) := by decide +kernel
theorem dX7_isOf_32 : decode cX7_isOf 32 = .ok (.iconst 1, 1) := by decide +kernel
theorem dX7_isOf_33 : decode cX7_isOf 33 = .ok (.goto 4, 3) := by decide +kernel
theorem dX7_isOf_36 : decode cX7_isOf 36 = .ok (.iconst 0, 1) := by decide +kernel
theorem dX7_isOf_37 : decode cX7_isOf 37 = .ok (.ireturn, 1) := by decide +kernel
theorem dX7_set_0 : decode cX7_set 0 = .ok (.iload_n 1, 1) := by decide +kernel
theorem dX7_set_1 : decode cX7_set 1 = .ok (.i2l, 1) := by decide +kernel
theorem dX7_set_2 : decode cX7_set 2 = .ok (.lconst 0, 1) := by decide +kernel
theorem dX7_set_3 : decode cX7_set 3 = .ok (.ldc2_w 77, 3) := by decide +kernel
theorem dX7_set_6 : decode cX7_set 6 = .ok (.invokestatic 67, 3) := by decide +kernel
theorem dX7_set_9 : decode cX7_set 9 = .ok (.ifCond .eq 26, 3) := by decide +kernel
theorem dX7_set_12 : decode cX7_set 12 = .ok (.aload_n 0, 1) := by decide +kernel
theorem dX7_set_13 : decode cX7_set 13 = .ok (.iload_n 1, 1) := by decide +kernel
theorem dX7_set_14 : decode cX7_set 14 = .ok (.iload_n 2, 1) := by decide +kernel
theorem dX7_set_15 : decode cX7_set 15 = .ok (.invokevirtual 79, 3) := by decide +kernel
theorem dX7_set_18 : decode cX7_set 18 = .ok (.ifCond .eq 17, 3) := by decide +kernel
theorem dX7_set_21 : decode cX7_set 21 = .ok (.iload_n 3, 1) := by decide +kernel
theorem dX7_set_22 : decode cX7_set 22 = .ok (.i2l, 1) := by decide +kernel
theorem dX7_set_23 : decode cX7_set 23 = .ok (.lconst 0, 1) := by decide +kernel
theorem dX7_set_24 : decode cX7_set 24 = .ok (.iload_n 1, 1) := by decide +kernel
theorem dX7_set_25 : decode cX7_set 25 = .ok (.invokestatic 83, 3) := by decide +kernel
theorem dX7_set_28 : decode cX7_set 28 = .ok (.i2l, 1) := by decide +kernel
theorem dX7_set_29 : decode cX7_set 29 = .ok (.invokestatic 67, 3) := by decide +kernel
theorem dX7_set_32 : decode cX7_set 32 = .ok (.ifCond .ne 6, 3) := by decide +kernel
theorem dX7_set_35 : decode cX7_set 35 = .ok (.bipush (-2), 2) := by decide +kernel
theorem dX7_set_37 : decode cX7_set 37 = .ok (.ireturn, 1) := by decide +kernel
theorem dX7_set_38 : decode cX7_set 38 = .ok (.aload_n 0, 1) := by decide +kernel
theorem dX7_set_39 : decode cX7_set 39 = .ok (.iload_n 2, 1) := by decide +kernel
theorem dX7_set_40 : decode cX7_set 40 = .ok (.iload_n 1, 1) := by decide +kernel
theorem dX7_set_41 : decode cX7_set 41 = .ok (.invokevirtual 87, 3) := by decide +kernel
theorem dX7_set_44 : decode cX7_set 44 = .ok (.istore 4, 2) := by decide +kernel
theorem dX7_set_46 : decode cX7_set 46 = .ok (.aload_n 0, 1) := by decide +kernel
theorem dX7_set_47 : decode cX7_set 47 = .ok (.iload_n 1, 1) := by decide +kernel
theorem dX7_set_48 : decode cX7_set 48 = .ok (.iload_n 2, 1) := by decide +kernel
theorem dX7_set_49 : decode cX7_set 49 = .ok (.iload_n 3, 1) := by decide +kernel
theorem dX7_set_50 : decode cX7_set 50 = .ok (.invokevirtual 91, 3) := by decide +kernel
theorem dX7_set_53 : decode cX7_set 53 = .ok (.iload 4, 2) := by decide +kernel
theorem dX7_set_55 : decode cX7_set 55 = .ok (.ireturn, 1) := by decide +kernel
theorem dX7_lays_0 : decode cX7_lays 0 = .ok (.iload_n 1, 1) := by decide +kernel
theorem dX7_lays_1 : decode cX7_lays 1 = .ok (.ifCond .ne 11, 3) := by decide +kernel
theorem dX7_lays_4 : decode cX7_lays 4 = .ok (.aload_n 0, 1) := by decide +kernel
theorem dX7_lays_5 : decode cX7_lays 5 = .ok (.iload_n 3, 1) := by decide +kernel
theorem dX7_lays_6 : decode cX7_lays 6 = .ok (.putfield 95, 3) := by decide +kernel
theorem dX7_lays_9 : decode cX7_lays 9 = .ok (.goto 61, 3) := by decide +kernel
theorem dX7_lays_12 : decode cX7_lays 12 = .ok (.iload_n 1, 1) := by decide +kernel
theorem dX7_lays_13 : decode cX7_lays 13 = .ok (.iconst 1, 1) := by decide +kernel
theorem dX7_lays_14 : decode cX7_lays 14 = .ok (.if_icmp .ne 13, 3) := by decide +kernel
theorem dX7_lays_17 : decode cX7_lays 17 = .ok (.aload_n 0, 1) := by decide +kernel
theorem dX7_lays_18 : decode cX7_lays 18 = .ok (.getfield 23, 3) := by decide +kernel
theorem dX7_lays_21 : decode cX7_lays 21 = .ok (.iload_n 2, 1) := by decide +kernel
theorem dX7_lays_22 : decode cX7_lays 22 = .ok (.iload_n 3, 1) := by decide +kernel
theorem dX7_lays_23 : decode cX7_lays 23 = .ok (.iastore, 1) := by decide +kernel
theorem dX7_lays_24 : decode cX7_lays 24 = .ok (.goto 46, 3) := by decide +kernel
theorem dX7_lays_27 : decode cX7_lays 27 = .ok (.iload_n 1, 1) := by decide +kernel
theorem dX7_lays_28 : decode cX7_lays 28 = .ok (.bipush 7, 2) := by decide +kernel
theorem dX7_lays_30 : decode cX7_lays 30 = .ok (.if_icmp .ge 19, 3) := by decide +kernel
theorem dX7_lays_33 : decode cX7_lays 33 = .ok (.aload_n 0, 1) := by decide +kernel
theorem dX7_lays_34 : decode cX7_lays 34 = .ok (.getfield 29, 3) := by decide +kernel
theorem dX7_lays_37 : decode cX7_lays 37 = .ok (.iconst 5, 1) := by decide +kernel
theorem dX7_lays_38 : decode cX7_lays 38 = .ok (.iload_n 2, 1) := by decide +kernel
theorem dX7_lays_39 : decode cX7_lays 39 = .ok (.imul, 1) := by decide +kernel
theorem dX7_lays_40 : decode cX7_lays 40 = .ok (.iload_n 1, 1) := by decide +kernel
theorem dX7_lays_41 : decode cX7_lays 41 = .ok (.iadd, 1) := by decide +kernel
theorem dX7_lays_42 : decode cX7_lays 42 = .ok (.iconst 2, 1) := by decide +kernel
theorem dX7_lays_43 : decode cX7_lays 43 = .ok (.isub, 1) := by decide +kernel
theorem dX7_lays_44 : decode cX7_lays 44 = .ok (.iload_n 3, 1) := by decide +kernel
theorem dX7_lays_45 : decode cX7_lays 45 = .ok (.iastore, 1) := by decide +kernel
theorem dX7_lays_46 : decode cX7_lays 46 = .ok (.goto 24, 3) := by decide +kernel
theorem dX7_lays_49 : decode cX7_lays 49 = .ok (.iload_n 1, 1) := by decide +kernel
theorem dX7_lays_50 : decode cX7_lays 50 = .ok (.bipush 7, 2) := by decide +kernel
theorem dX7_lays_52 : decode cX7_lays 52 = .ok (.if_icmp .ne 13, 3) := by decide +kernel
theorem dX7_lays_55 : decode cX7_lays 55 = .ok (.aload_n 0, 1) := by decide +kernel
theorem dX7_lays_56 : decode cX7_lays 56 = .ok (.getfield 26, 3) := by decide +kernel
theorem dX7_lays_59 : decode cX7_lays 59 = .ok (.iload_n 2, 1) := by decide +kernel
theorem dX7_lays_60 : decode cX7_lays 60 = .ok (.iload_n 3, 1) := by decide +kernel
theorem dX7_lays_61 : decode cX7_lays 61 = .ok (.iastore, 1) := by decide +kernel
theorem dX7_lays_62 : decode cX7_lays 62 = .ok (.goto 8, 3) := by decide +kernel
theorem dX7_lays_65 : decode cX7_lays 65 = .ok (.aload_n 0, 1) := by decide +kernel
theorem dX7_lays_66 : decode cX7_lays 66 = .ok (.iload_n 3, 1) := by decide +kernel
theorem dX7_lays_67 : decode cX7_lays 67 = .ok (.putfield 98, 3) := by decide +kernel
theorem dX7_lays_70 : decode cX7_lays 70 = .ok (.return_, 1) := by decide +kernel
theorem dX7_walker_0 : decode cX7_walker 0 = .ok (.iload_n 1, 1) := by decide +kernel
theorem dX7_walker_1 : decode cX7_walker 1 = .ok (.i2l, 1) := by decide +kernel
theorem dX7_walker_2 : decode cX7_walker 2 = .ok (.lconst 0, 1) := by decide +kernel
theorem dX7_walker_3 : decode cX7_walker 3 = .ok (.ldc2_w 101, 3) := by decide +kernel
theorem dX7_walker_6 : decode cX7_walker 6 = .ok (.invokestatic 67, 3) := by decide +kernel
theorem dX7_walker_9 : decode cX7_walker 9 = .ok (.ifCond .eq 27, 3) := by decide +kernel
theorem dX7_walker_12 : decode cX7_walker 12 = .ok (.iload_n 2, 1) := by decide +kernel
theorem dX7_walker_13 : decode cX7_walker 13 = .ok (.i2l, 1) := by decide +kernel
theorem dX7_walker_14 : decode cX7_walker 14 = .ok (.lconst 0, 1) := by decide +kernel
theorem dX7_walker_15 : decode cX7_walker 15 = .ok (.ldc2_w 103, 3) := by decide +kernel
theorem dX7_walker_18 : decode cX7_walker 18 = .ok (.invokestatic 67, 3) := by decide +kernel
theorem dX7_walker_21 : decode cX7_walker 21 = .ok (.ifCond .eq 15, 3) := by decide +kernel
theorem dX7_walker_24 : decode cX7_walker 24 = .ok (.iload_n 3, 1) := by decide +kernel
theorem dX7_walker_25 : decode cX7_walker 25 = .ok (.i2l, 1) := by decide +kernel
theorem dX7_walker_26 : decode cX7_walker 26 = .ok (.lconst 0, 1) := by decide +kernel
theorem dX7_walker_27 : decode cX7_walker 27 = .ok (.ldc2_w 105, 3) := by decide +kernel
theorem dX7_walker_30 : decode cX7_walker 30 = .ok (.invokestatic 67, 3) := by decide +kernel
theorem dX7_walker_33 : decode cX7_walker 33 = .ok (.ifCond .ne 6, 3) := by decide +kernel
theorem dX7_walker_36 : decode cX7_walker 36 = .ok (.bipush (-2), 2) := by decide +kernel
theorem dX7_walker_38 : decode cX7_walker 38 = .ok (.ireturn, 1) := by decide +kernel
theorem dX7_walker_39 : decode cX7_walker 39 = .ok (.aload_n 0, 1) := by decide +kernel
theorem dX7_walker_40 : decode cX7_walker 40 = .ok (.getfield 64, 3) := by decide +kernel
theorem dX7_walker_43 : decode cX7_walker 43 = .ok (.bipush 6, 2) := by decide +kernel
theorem dX7_walker_45 : decode cX7_walker 45 = .ok (.if_icmp .ne 6, 3) := by decide +kernel
theorem dX7_walker_48 : decode cX7_walker 48 = .ok (.bipush (-4), 2) := by decide +kernel
theorem dX7_walker_50 : decode cX7_walker 50 = .ok (.ireturn, 1) := by decide +kernel
theorem dX7_walker_51 : decode cX7_walker 51 = .ok (.aload_n 0, 1) := by decide +kernel
theorem dX7_walker_52 : decode cX7_walker 52 = .ok (.getfield 26, 3) := by decide +kernel
theorem dX7_walker_55 : decode cX7_walker 55 = .ok (.aload_n 0, 1) := by decide +kernel
theorem dX7_walker_56 : decode cX7_walker 56 = .ok (.getfield 64, 3) := by decide +kernel
theorem dX7_walker_59 : decode cX7_walker 59 = .ok (.iload_n 1, 1) := by decide +kernel
theorem dX7_walker_60 : decode cX7_walker 60 = .ok (.iastore, 1) := by decide +kernel
theorem dX7_walker_61 : decode cX7_walker 61 = .ok (.aload_n 0, 1) := by decide +kernel
theorem dX7_walker_62 : decode cX7_walker 62 = .ok (.getfield 29, 3) := by decide +kernel
theorem dX7_walker_65 : decode cX7_walker 65 = .ok (.iconst 5, 1) := by decide +kernel
theorem dX7_walker_66 : decode cX7_walker 66 = .ok (.aload_n 0, 1) := by decide +kernel
theorem dX7_walker_67 : decode cX7_walker 67 = .ok (.getfield 64, 3) := by decide +kernel
theorem dX7_walker_70 : decode cX7_walker 70 = .ok (.imul, 1) := by decide +kernel
theorem dX7_walker_71 : decode cX7_walker 71 = .ok (.iload_n 2, 1) := by decide +kernel
theorem dX7_walker_72 : decode cX7_walker 72 = .ok (.iastore, 1) := by decide +kernel
theorem dX7_walker_73 : decode cX7_walker 73 = .ok (.aload_n 0, 1) := by decide +kernel
theorem dX7_walker_74 : decode cX7_walker 74 = .ok (.getfield 29, 3) := by decide +kernel
theorem dX7_walker_77 : decode cX7_walker 77 = .ok (.iconst 5, 1) := by decide +kernel
theorem dX7_walker_78 : decode cX7_walker 78 = .ok (.aload_n 0, 1) := by decide +kernel
theorem dX7_walker_79 : decode cX7_walker 79 = .ok (.getfield 64, 3) := by decide +kernel
theorem dX7_walker_82 : decode cX7_walker 82 = .ok (.imul, 1) := by decide +kernel
theorem dX7_walker_83 : decode cX7_walker 83 = .ok (.iconst 1, 1) := by decide +kernel
theorem dX7_walker_84 : decode cX7_walker 84 = .ok (.iadd, 1) := by decide +kernel
theorem dX7_walker_85 : decode cX7_walker 85 = .ok (.iload_n 3, 1) := by decide +kernel
theorem dX7_walker_86 : decode cX7_walker 86 = .ok (.iastore, 1) := by decide +kernel
theorem dX7_walker_87 : decode cX7_walker 87 = .ok (.aload_n 0, 1) := by decide +kernel
theorem dX7_walker_88 : decode cX7_walker 88 = .ok (.getfield 29, 3) := by decide +kernel
theorem dX7_walker_91 : decode cX7_walker 91 = .ok (.iconst 5, 1) := by decide +kernel
theorem dX7_walker_92 : decode cX7_walker 92 = .ok (.aload_n 0, 1) := by decide +kernel
theorem dX7_walker_93 : decode cX7_walker 93 = .ok (.getfield 64, 3) := by decide +kernel
theorem dX7_walker_96 : decode cX7_walker 96 = .ok (.imul, 1) := by decide +kernel
theorem dX7_walker_97 : decode cX7_walker 97 = .ok (.iconst 2, 1) := by decide +kernel
theorem dX7_walker_98 : decode cX7_walker 98 = .ok (.iadd, 1) := by decide +kernel
theorem dX7_walker_99 : decode cX7_walker 99 = .ok (.iconst 0, 1) := by decide +kernel
theorem dX7_walker_100 : decode cX7_walker 100 = .ok (.iastore, 1) := by decide +kernel
theorem dX7_walker_101 : decode cX7_walker 101 = .ok (.aload_n 0, 1) := by decide +kernel
theorem dX7_walker_102 : decode cX7_walker 102 = .ok (.getfield 29, 3) := by decide +kernel
theorem dX7_walker_105 : decode cX7_walker 105 = .ok (.iconst 5, 1) := by decide +kernel
theorem dX7_walker_106 : decode cX7_walker 106 = .ok (.aload_n 0, 1) := by decide +kernel
theorem dX7_walker_107 : decode cX7_walker 107 = .ok (.getfield 64, 3) := by decide +kernel
theorem dX7_walker_110 : decode cX7_walker 110 = .ok (.imul, 1) := by decide +kernel
theorem dX7_walker_111 : decode cX7_walker 111 = .ok (.iconst 3, 1) := by decide +kernel
theorem dX7_walker_112 : decode cX7_walker 112 = .ok (.iadd, 1) := by decide +kernel
theorem dX7_walker_113 : decode cX7_walker 113 = .ok (.iconst 0, 1) := by decide +kernel
theorem dX7_walker_114 : decode cX7_walker 114 = .ok (.iastore, 1) := by decide +kernel
theorem dX7_walker_115 : decode cX7_walker 115 = .ok (.aload_n 0, 1) := by decide +kernel
theorem dX7_walker_116 : decode cX7_walker 116 = .ok (.getfield 29, 3) := by decide +kernel
theorem dX7_walker_119 : decode cX7_walker 119 = .ok (.iconst 5, 1) := by decide +kernel
theorem dX7_walker_120 : decode cX7_walker 120 = .ok (.aload_n 0, 1) := by decide +kernel
theorem dX7_walker_121 : decode cX7_walker 121 = .ok (.getfield 64, 3) := by decide +kernel
theorem dX7_walker_124 : decode cX7_walker 124 = .ok (.imul, 1) := by decide +kernel
theorem dX7_walker_125 : decode cX7_walker 125 = .ok (.iconst 4, 1) := by decide +kernel
theorem dX7_walker_126 : decode cX7_walker 126 = .ok (.iadd, 1) := by decide +kernel
theorem dX7_walker_127 : decode cX7_walker 127 = .ok (.iconst 0, 1) := by decide +kernel
theorem dX7_walker_128 : decode cX7_walker 128 = .ok (.iastore, 1) := by decide +kernel
theorem dX7_walker_129 : decode cX7_walker 129 = .ok (.aload_n 0, 1) := by decide +kernel
theorem dX7_walker_130 : decode cX7_walker 130 = .ok (.dup, 1) := by decide +kernel
theorem dX7_walker_131 : decode cX7_walker 131 = .ok (.getfield 64, 3) := by decide +kernel
theorem dX7_walker_134 : decode cX7_walker 134 = .ok (.iconst 1, 1) := by decide +kernel
theorem dX7_walker_135 : decode cX7_walker 135 = .ok (.iadd, 1) := by decide +kernel
theorem dX7_walker_136 : decode cX7_walker 136 = .ok (.putfield 64, 3) := by decide +kernel
theorem dX7_walker_139 : decode cX7_walker 139 = .ok (.aload_n 0, 1) := by decide +kernel
theorem dX7_walker_140 : decode cX7_walker 140 = .ok (.getfield 64, 3) := by decide +kernel
theorem dX7_walker_143 : decode cX7_walker 143 = .ok (.iconst 1, 1) := by decide +kernel
theorem dX7_walker_144 : decode cX7_walker 144 = .ok (.isub, 1) := by decide +kernel
theorem dX7_walker_145 : decode cX7_walker 145 = .ok (.ireturn, 1) := by decide +kernel
theorem dX7_told_0 : decode cX7_told 0 = .ok (.iload_n 2, 1) := by decide +kernel
theorem dX7_told_1 : decode cX7_told 1 = .ok (.i2l, 1) := by decide +kernel
theorem dX7_told_2 : decode cX7_told 2 = .ok (.lconst 0, 1) := by decide +kernel
theorem dX7_told_3 : decode cX7_told 3 = .ok (.ldc2_w 107, 3) := by decide +kernel
theorem dX7_told_6 : decode cX7_told 6 = .ok (.invokestatic 67, 3) := by decide +kernel
theorem dX7_told_9 : decode cX7_told 9 = .ok (.ifCond .eq 12, 3) := by decide +kernel
theorem dX7_told_12 : decode cX7_told 12 = .ok (.aload_n 0, 1) := by decide +kernel
theorem dX7_told_13 : decode cX7_told 13 = .ok (.iload_n 2, 1) := by decide +kernel
theorem dX7_told_14 : decode cX7_told 14 = .ok (.iload_n 1, 1) := by decide +kernel
theorem dX7_told_15 : decode cX7_told 15 = .ok (.invokevirtual 79, 3) := by decide +kernel
theorem dX7_told_18 : decode cX7_told 18 = .ok (.ifCond .ne 6, 3) := by decide +kernel
theorem dX7_told_21 : decode cX7_told 21 = .ok (.bipush (-2), 2) := by decide +kernel
theorem dX7_told_23 : decode cX7_told 23 = .ok (.ireturn, 1) := by decide +kernel
theorem dX7_told_24 : decode cX7_told 24 = .ok (.iload_n 2, 1) := by decide +kernel
theorem dX7_told_25 : decode cX7_told 25 = .ok (.iconst 2, 1) := by decide +kernel
theorem dX7_told_26 : decode cX7_told 26 = .ok (.if_icmp .ge 21, 3) := by decide +kernel
theorem dX7_told_29 : decode cX7_told 29 = .ok (.iload_n 2, 1) := by decide +kernel
theorem dX7_told_30 : decode cX7_told 30 = .ok (.ifCond .ne 10, 3) := by decide +kernel
theorem dX7_told_33 : decode cX7_told 33 = .ok (.aload_n 0, 1) := by decide +kernel
theorem dX7_told_34 : decode cX7_told 34 = .ok (.getfield 95, 3) := by decide +kernel
theorem dX7_told_37 : decode cX7_told 37 = .ok (.goto 9, 3) := by decide +kernel
theorem dX7_told_40 : decode cX7_told 40 = .ok (.aload_n 0, 1) := by decide +kernel
theorem dX7_told_41 : decode cX7_told 41 = .ok (.getfield 23, 3) := by decide +kernel
theorem dX7_told_44 : decode cX7_told 44 = .ok (.iload_n 1, 1) := by decide +kernel
theorem dX7_told_45 : decode cX7_told 45 = .ok (.iaload, 1) := by decide +kernel
theorem dX7_told_46 : decode cX7_told 46 = .ok (.ireturn, 1) := by decide +kernel
theorem dX7_told_47 : decode cX7_told 47 = .ok (.iload_n 2, 1) := by decide +kernel
theorem dX7_told_48 : decode cX7_told 48 = .ok (.bipush 7, 2) := by decide +kernel
theorem dX7_told_50 : decode cX7_told 50 = .ok (.if_icmp .ge 16, 3) := by decide +kernel
theorem dX7_told_53 : decode cX7_told 53 = .ok (.aload_n 0, 1) := by decide +kernel
theorem dX7_told_54 : decode cX7_told 54 = .ok (.getfield 29, 3) := by decide +kernel
theorem dX7_told_57 : decode cX7_told 57 = .ok (.iconst 5, 1) := by decide +kernel
theorem dX7_told_58 : decode cX7_told 58 = .ok (.iload_n 1, 1) := by decide +kernel
theorem dX7_told_59 : decode cX7_told 59 = .ok (.imul, 1) := by decide +kernel
theorem dX7_told_60 : decode cX7_told 60 = .ok (.iload_n 2, 1) := by decide +kernel
theorem dX7_told_61 : decode cX7_told 61 = .ok (.iadd, 1) := by decide +kernel
theorem dX7_told_62 : decode cX7_told 62 = .ok (.iconst 2, 1) := by decide +kernel
theorem dX7_told_63 : decode cX7_told 63 = .ok (.isub, 1) := by decide +kernel
theorem dX7_told_64 : decode cX7_told 64 = .ok (.iaload, 1) := by decide +kernel
theorem dX7_told_65 : decode cX7_told 65 = .ok (.ireturn, 1) := by decide +kernel
theorem dX7_told_66 : decode cX7_told 66 = .ok (.iload_n 2, 1) := by decide +kernel
theorem dX7_told_67 : decode cX7_told 67 = .ok (.bipush 7, 2) := by decide +kernel
theorem dX7_told_69 : decode cX7_told 69 = .ok (.if_icmp .ne 10, 3) := by decide +kernel
theorem dX7_told_72 : decode cX7_told 72 = .ok (.aload_n 0, 1) := by decide +kernel
theorem dX7_told_73 : decode cX7_told 73 = .ok (.getfield 26, 3) := by decide +kernel
theorem dX7_told_76 : decode cX7_told 76 = .ok (.iload_n 1, 1) := by decide +kernel
theorem dX7_told_77 : decode cX7_told 77 = .ok (.iaload, 1) := by decide +kernel
theorem dX7_told_78 : decode cX7_told 78 = .ok (.ireturn, 1) := by decide +kernel
theorem dX7_told_79 : decode cX7_told 79 = .ok (.aload_n 0, 1) := by decide +kernel
theorem dX7_told_80 : decode cX7_told 80 = .ok (.iload_n 1, 1) := by decide +kernel
theorem dX7_told_81 : decode cX7_told 81 = .ok (.invokevirtual 109, 3) := by decide +kernel
theorem dX7_told_84 : decode cX7_told 84 = .ok (.iload_n 2, 1) := by decide +kernel
theorem dX7_told_85 : decode cX7_told 85 = .ok (.bipush 8, 2) := by decide +kernel
theorem dX7_told_87 : decode cX7_told 87 = .ok (.if_icmp .ne 10, 3) := by decide +kernel
theorem dX7_told_90 : decode cX7_told 90 = .ok (.aload_n 0, 1) := by decide +kernel
theorem dX7_told_91 : decode cX7_told 91 = .ok (.getfield 113, 3) := by decide +kernel
theorem dX7_told_94 : decode cX7_told 94 = .ok (.goto 83, 3) := by decide +kernel
theorem dX7_told_97 : decode cX7_told 97 = .ok (.iload_n 2, 1) := by decide +kernel
theorem dX7_told_98 : decode cX7_told 98 = .ok (.bipush 9, 2) := by decide +kernel
theorem dX7_told_100 : decode cX7_told 100 = .ok (.if_icmp .ne 10, 3) := by decide +kernel
theorem dX7_told_103 : decode cX7_told 103 = .ok (.aload_n 0, 1) := by decide +kernel
theorem dX7_told_104 : decode cX7_told 104 = .ok (.getfield 116, 3) := by decide +kernel
theorem dX7_told_107 : decode cX7_told 107 = .ok (.goto 70, 3) := by decide +kernel
theorem dX7_told_110 : decode cX7_told 110 = .ok (.iload_n 2, 1) := by decide +kernel
theorem dX7_told_111 : decode cX7_told 111 = .ok (.bipush 10, 2) := by decide +kernel
theorem dX7_told_113 : decode cX7_told 113 = .ok (.if_icmp .ne 11, 3) := by decide +kernel
theorem dX7_told_116 : decode cX7_told 116 = .ok (.aload_n 0, 1) := by decide +kernel
theorem dX7_told_117 : decode cX7_told 117 = .ok (.iload_n 1, 1) := by decide +kernel
theorem dX7_told_118 : decode cX7_told 118 = .ok (.invokevirtual 119, 3) := by decide +kernel
theorem dX7_told_121 : decode cX7_told 121 = .ok (.goto 56, 3) := by decide +kernel
theorem dX7_told_124 : decode cX7_told 124 = .ok (.iload_n 2, 1) := by decide +kernel
theorem dX7_told_125 : decode cX7_told 125 = .ok (.bipush 11, 2) := by decide +kernel
theorem dX7_told_127 : decode cX7_told 127 = .ok (.if_icmp .ne 11, 3) := by decide +kernel
theorem dX7_told_130 : decode cX7_told 130 = .ok (.aload_n 0, 1) := by decide +kernel
theorem dX7_told_131 : decode cX7_told 131 = .ok (.iload_n 1, 1) := by decide +kernel
theorem dX7_told_132 : decode cX7_told 132 = .ok (.invokevirtual 122, 3) := by decide +kernel
theorem dX7_told_135 : decode cX7_told 135 = .ok (.goto 42, 3) := by decide +kernel
theorem dX7_told_138 : decode cX7_told 138 = .ok (.iload_n 2, 1) := by decide +kernel
theorem dX7_told_139 : decode cX7_told 139 = .ok (.bipush 12, 2) := by decide +kernel
theorem dX7_told_141 : decode cX7_told 141 = .ok (.if_icmp .ne 19, 3) := by decide +kernel
theorem dX7_told_144 : decode cX7_told 144 = .ok (.aload_n 0, 1) := by decide +kernel
theorem dX7_told_145 : decode cX7_told 145 = .ok (.iload_n 1, 1) := by decide +kernel
theorem dX7_told_146 : decode cX7_told 146 = .ok (.invokevirtual 125, 3) := by decide +kernel
theorem dX7_told_149 : decode cX7_told 149 = .ok (.ifCond .eq 7, 3) := by decide +kernel
theorem dX7_told_152 : decode cX7_told 152 = .ok (.iconst 1, 1) := by decide +kernel
theorem dX7_told_153 : decode cX7_told 153 = .ok (.goto 24, 3) := by decide +kernel
theorem dX7_told_156 : decode cX7_told 156 = .ok (.iconst 0, 1) := by decide +kernel
theorem dX7_told_157 : decode cX7_told 157 = .ok (.goto 20, 3) := by decide +kernel
theorem dX7_told_160 : decode cX7_told 160 = .ok (.aload_n 0, 1) := by decide +kernel
theorem dX7_told_161 : decode cX7_told 161 = .ok (.getfield 128, 3) := by decide +kernel
theorem dX7_told_164 : decode cX7_told 164 = .ok (.aload_n 0, 1) := by decide +kernel
theorem dX7_told_165 : decode cX7_told 165 = .ok (.iload_n 1, 1) := by decide +kernel
theorem dX7_told_166 : decode cX7_told 166 = .ok (.invokevirtual 119, 3) := by decide +kernel
theorem dX7_told_169 : decode cX7_told 169 = .ok (.if_icmp .lt 7, 3) := by decide +kernel
theorem dX7_told_172 : decode cX7_told 172 = .ok (.iconst 1, 1) := by decide +kernel
theorem dX7_told_173 : decode cX7_told 173 = .ok (.goto 4, 3) := by decide +kernel
theorem dX7_told_176 : decode cX7_told 176 = .ok (.iconst 0, 1) := by decide +kernel
theorem dX7_told_177 : decode cX7_told 177 = .ok (.ireturn, 1) := by decide +kernel
theorem dX7_feed_0 : decode cX7_feed 0 = .ok (.iload_n 1, 1) := by decide +kernel
theorem dX7_feed_1 : decode cX7_feed 1 = .ok (.i2l, 1) := by decide +kernel
theorem dX7_feed_2 : decode cX7_feed 2 = .ok (.lconst 0, 1) := by decide +kernel
theorem dX7_feed_3 : decode cX7_feed 3 = .ok (.ldc2_w 105, 3) := by decide +kernel
theorem dX7_feed_6 : decode cX7_feed 6 = .ok (.invokestatic 67, 3) := by decide +kernel
theorem dX7_feed_9 : decode cX7_feed 9 = .ok (.ifCond .ne 6, 3) := by decide +kernel
theorem dX7_feed_12 : decode cX7_feed 12 = .ok (.bipush (-2), 2) := by decide +kernel
theorem dX7_feed_14 : decode cX7_feed 14 = .ok (.ireturn, 1) := by decide +kernel
theorem dX7_feed_15 : decode cX7_feed 15 = .ok (.aload_n 0, 1) := by decide +kernel
theorem dX7_feed_16 : decode cX7_feed 16 = .ok (.getfield 131, 3) := by decide +kernel
theorem dX7_feed_19 : decode cX7_feed 19 = .ok (.sipush 160, 3) := by decide +kernel
theorem dX7_feed_22 : decode cX7_feed 22 = .ok (.if_icmp .ne 6, 3) := by decide +kernel
theorem dX7_feed_25 : decode cX7_feed 25 = .ok (.bipush (-4), 2) := by decide +kernel
theorem dX7_feed_27 : decode cX7_feed 27 = .ok (.ireturn, 1) := by decide +kernel
theorem dX7_feed_28 : decode cX7_feed 28 = .ok (.aload_n 0, 1) := by decide +kernel
theorem dX7_feed_29 : decode cX7_feed 29 = .ok (.getfield 20, 3) := by decide +kernel
theorem dX7_feed_32 : decode cX7_feed 32 = .ok (.aload_n 0, 1) := by decide +kernel
theorem dX7_feed_33 : decode cX7_feed 33 = .ok (.getfield 131, 3) := by decide +kernel
theorem dX7_feed_36 : decode cX7_feed 36 = .ok (.iload_n 1, 1) := by decide +kernel
theorem dX7_feed_37 : decode cX7_feed 37 = .ok (.iastore, 1) := by decide +kernel
theorem dX7_feed_38 : decode cX7_feed 38 = .ok (.aload_n 0, 1) := by decide +kernel
theorem dX7_feed_39 : decode cX7_feed 39 = .ok (.dup, 1) := by decide +kernel
theorem dX7_feed_40 : decode cX7_feed 40 = .ok (.getfield 131, 3) := by decide +kernel
theorem dX7_feed_43 : decode cX7_feed 43 = .ok (.iconst 1, 1) := by decide +kernel
theorem dX7_feed_44 : decode cX7_feed 44 = .ok (.iadd, 1) := by decide +kernel
theorem dX7_feed_45 : decode cX7_feed 45 = .ok (.putfield 131, 3) := by decide +kernel
theorem dX7_feed_48 : decode cX7_feed 48 = .ok (.aload_n 0, 1) := by decide +kernel
theorem dX7_feed_49 : decode cX7_feed 49 = .ok (.getfield 131, 3) := by decide +kernel
theorem dX7_feed_52 : decode cX7_feed 52 = .ok (.ireturn, 1) := by decide +kernel
theorem dX7_byteAt_0 : decode cX7_byteAt 0 = .ok (.iload_n 1, 1) := by decide +kernel
theorem dX7_byteAt_1 : decode cX7_byteAt 1 = .ok (.aload_n 0, 1) := by decide +kernel
theorem dX7_byteAt_2 : decode cX7_byteAt 2 = .ok (.getfield 134, 3) := by decide +kernel
theorem dX7_byteAt_5 : decode cX7_byteAt 5 = .ok (.if_icmp .ge 17, 3) := by decide +kernel
theorem dX7_byteAt_8 : decode cX7_byteAt 8 = .ok (.aload_n 0, 1) := by decide +kernel
theorem dX7_byteAt_9 : decode cX7_byteAt 9 = .ok (.getfield 13, 3) := by decide +kernel
theorem dX7_byteAt_12 : decode cX7_byteAt 12 = .ok (.aload_n 0, 1) := by decide +kernel
theorem dX7_byteAt_13 : decode cX7_byteAt 13 = .ok (.getfield 137, 3) := by decide +kernel
theorem dX7_byteAt_16 : decode cX7_byteAt 16 = .ok (.iload_n 1, 1) := by decide +kernel
theorem dX7_byteAt_17 : decode cX7_byteAt 17 = .ok (.iadd, 1) := by decide +kernel
theorem dX7_byteAt_18 : decode cX7_byteAt 18 = .ok (.iaload, 1) := by decide +kernel
theorem dX7_byteAt_19 : decode cX7_byteAt 19 = .ok (.goto 4, 3) := by decide +kernel
theorem dX7_byteAt_22 : decode cX7_byteAt 22 = .ok (.iconst (-1), 1) := by decide +kernel
theorem dX7_byteAt_23 : decode cX7_byteAt 23 = .ok (.ireturn, 1) := by decide +kernel
theorem dX7_next_0 : decode cX7_next 0 = .ok (.aload_n 0, 1) := by decide +kernel
theorem dX7_next_1 : decode cX7_next 1 = .ok (.aload_n 0, 1) := by decide +kernel
theorem dX7_next_2 : decode cX7_next 2 = .ok (.getfield 140, 3) := by decide +kernel
theorem dX7_next_5 : decode cX7_next 5 = .ok (.invokevirtual 143, 3) := by decide +kernel
theorem dX7_next_8 : decode cX7_next 8 = .ok (.bipush 32, 2) := by decide +kernel
theorem dX7_next_10 : decode cX7_next 10 = .ok (.if_icmp .eq 16, 3) := by decide +kernel
theorem dX7_next_13 : decode cX7_next 13 = .ok (.aload_n 0, 1) := by decide +kernel
theorem dX7_next_14 : decode cX7_next 14 = .ok (.aload_n 0, 1) := by decide +kernel
theorem dX7_next_15 : decode cX7_next 15 = .ok (.getfield 140, 3) := by decide +kernel
theorem dX7_next_18 : decode cX7_next 18 = .ok (.invokevirtual 143, 3) := by decide +kernel
theorem dX7_next_21 : decode cX7_next 21 = .ok (.bipush 10, 2) := by decide +kernel
theorem dX7_next_23 : decode cX7_next 23 = .ok (.if_icmp .ne 16, 3) := by decide +kernel
theorem dX7_next_26 : decode cX7_next 26 = .ok (.aload_n 0, 1) := by decide +kernel
theorem dX7_next_27 : decode cX7_next 27 = .ok (.dup, 1) := by decide +kernel
theorem dX7_next_28 : decode cX7_next 28 = .ok (.getfield 140, 3) := by decide +kernel
theorem dX7_next_31 : decode cX7_next 31 = .ok (.iconst 1, 1) := by decide +kernel
theorem dX7_next_32 : decode cX7_next 32 = .ok (.iadd, 1) := by decide +kernel
theorem dX7_next_33 : decode cX7_next 33 = .ok (.putfield 140, 3) := by decide +kernel
theorem dX7_next_36 : decode cX7_next 36 = .ok (.goto (-36), 3) := by decide +kernel
theorem dX7_next_39 : decode cX7_next 39 = .ok (.aload_n 0, 1) := by decide +kernel
theorem dX7_next_40 : decode cX7_next 40 = .ok (.aload_n 0, 1) := by decide +kernel
theorem dX7_next_41 : decode cX7_next 41 = .ok (.getfield 140, 3) := by decide +kernel
theorem dX7_next_44 : decode cX7_next 44 = .ok (.putfield 146, 3) := by decide +kernel
theorem dX7_next_47 : decode cX7_next 47 = .ok (.aload_n 0, 1) := by decide +kernel
theorem dX7_next_48 : decode cX7_next 48 = .ok (.aload_n 0, 1) := by decide +kernel
theorem dX7_next_49 : decode cX7_next 49 = .ok (.getfield 140, 3) := by decide +kernel
theorem dX7_next_52 : decode cX7_next 52 = .ok (.invokevirtual 143, 3) := by decide +kernel
theorem dX7_next_55 : decode cX7_next 55 = .ok (.istore_n 1, 1) := by decide +kernel
theorem dX7_next_56 : decode cX7_next 56 = .ok (.aload_n 0, 1) := by decide +kernel
theorem dX7_next_57 : decode cX7_next 57 = .ok (.iconst 4, 1) := by decide +kernel
theorem dX7_next_58 : decode cX7_next 58 = .ok (.putfield 149, 3) := by decide +kernel
theorem dX7_next_61 : decode cX7_next 61 = .ok (.iload_n 1, 1) := by decide +kernel
theorem dX7_next_62 : decode cX7_next 62 = .ok (.ifCond .ge 19, 3) := by decide +kernel
theorem dX7_next_65 : decode cX7_next 65 = .ok (.aload_n 0, 1) := by decide +kernel
theorem dX7_next_66 : decode cX7_next 66 = .ok (.iconst 0, 1) := by decide +kernel
theorem dX7_next_67 : decode cX7_next 67 = .ok (.putfield 149, 3) := by decide +kernel
theorem dX7_next_70 : decode cX7_next 70 = .ok (.aload_n 0, 1) := by decide +kernel
theorem dX7_next_71 : decode cX7_next 71 = .ok (.aload_n 0, 1) := by decide +kernel
theorem dX7_next_72 : decode cX7_next 72 = .ok (.getfield 134, 3) := by decide +kernel
theorem dX7_next_75 : decode cX7_next 75 = .ok (.putfield 146, 3) := by decide +kernel
theorem dX7_next_78 : decode cX7_next 78 = .ok (.goto 243, 3) := by decide +kernel
theorem dX7_next_81 : decode cX7_next 81 = .ok (.iload_n 1, 1) := by decide +kernel
theorem dX7_next_82 : decode cX7_next 82 = .ok (.i2l, 1) := by decide +kernel
theorem dX7_next_83 : decode cX7_next 83 = .ok (.ldc2_w 152, 3) := by decide +kernel
theorem dX7_next_86 : decode cX7_next 86 = .ok (.ldc2_w 154, 3) := by decide +kernel
theorem dX7_next_89 : decode cX7_next 89 = .ok (.invokestatic 67, 3) := by decide +kernel
theorem dX7_next_92 : decode cX7_next 92 = .ok (.ifCond .eq 42, 3) := by decide +kernel
theorem dX7_next_95 : decode cX7_next 95 = .ok (.aload_n 0, 1) := by decide +kernel
theorem dX7_next_96 : decode cX7_next 96 = .ok (.iconst 1, 1) := by decide +kernel
theorem dX7_next_97 : decode cX7_next 97 = .ok (.putfield 149, 3) := by decide +kernel
theorem dX7_next_100 : decode cX7_next 100 = .ok (.aload_n 0, 1) := by decide +kernel
theorem dX7_next_101 : decode cX7_next 101 = .ok (.aload_n 0, 1) := by decide +kernel
theorem dX7_next_102 : decode cX7_next 102 = .ok (.getfield 140, 3) := by decide +kernel
theorem dX7_next_105 : decode cX7_next 105 = .ok (.invokevirtual 143, 3) := by decide +kernel
theorem dX7_next_108 : decode cX7_next 108 = .ok (.i2l, 1) := by decide +kernel
theorem dX7_next_109 : decode cX7_next 109 = .ok (.ldc2_w 152, 3) := by decide +kernel
theorem dX7_next_112 : decode cX7_next 112 = .ok (.ldc2_w 154, 3) := by decide +kernel
theorem dX7_next_115 : decode cX7_next 115 = .ok (.invokestatic 67, 3) := by decide +kernel
theorem dX7_next_118 : decode cX7_next 118 = .ok (.ifCond .eq 203, 3) := by decide +kernel
theorem dX7_next_121 : decode cX7_next 121 = .ok (.aload_n 0, 1) := by decide +kernel
theorem dX7_next_122 : decode cX7_next 122 = .ok (.dup, 1) := by decide +kernel
theorem dX7_next_123 : decode cX7_next 123 = .ok (.getfield 140, 3) := by decide +kernel
theorem dX7_next_126 : decode cX7_next 126 = .ok (.iconst 1, 1) := by decide +kernel
theorem dX7_next_127 : decode cX7_next 127 = .ok (.iadd, 1) := by decide +kernel
theorem dX7_next_128 : decode cX7_next 128 = .ok (.putfield 140, 3) := by decide +kernel
theorem dX7_next_131 : decode cX7_next 131 = .ok (.goto (-31), 3) := by decide +kernel
theorem dX7_next_134 : decode cX7_next 134 = .ok (.iload_n 1, 1) := by decide +kernel
theorem dX7_next_135 : decode cX7_next 135 = .ok (.i2l, 1) := by decide +kernel
theorem dX7_next_136 : decode cX7_next 136 = .ok (.ldc2_w 156, 3) := by decide +kernel
theorem dX7_next_139 : decode cX7_next 139 = .ok (.ldc2_w 158, 3) := by decide +kernel
theorem dX7_next_142 : decode cX7_next 142 = .ok (.invokestatic 67, 3) := by decide +kernel
theorem dX7_next_145 : decode cX7_next 145 = .ok (.ifCond .eq 107, 3) := by decide +kernel
theorem dX7_next_148 : decode cX7_next 148 = .ok (.aload_n 0, 1) := by decide +kernel
theorem dX7_next_149 : decode cX7_next 149 = .ok (.iconst 2, 1) := by decide +kernel
theorem dX7_next_150 : decode cX7_next 150 = .ok (.putfield 149, 3) := by decide +kernel
theorem dX7_next_153 : decode cX7_next 153 = .ok (.aload_n 0, 1) := by decide +kernel
theorem dX7_next_154 : decode cX7_next 154 = .ok (.lconst 0, 1) := by decide +kernel
theorem dX7_next_155 : decode cX7_next 155 = .ok (.putfield 160, 3) := by decide +kernel
theorem dX7_next_158 : decode cX7_next 158 = .ok (.iconst 0, 1) := by decide +kernel
theorem dX7_next_159 : decode cX7_next 159 = .ok (.istore_n 2, 1) := by decide +kernel
theorem dX7_next_160 : decode cX7_next 160 = .ok (.aload_n 0, 1) := by decide +kernel
theorem dX7_next_161 : decode cX7_next 161 = .ok (.aload_n 0, 1) := by decide +kernel
theorem dX7_next_162 : decode cX7_next 162 = .ok (.getfield 140, 3) := by decide +kernel
theorem dX7_next_165 : decode cX7_next 165 = .ok (.invokevirtual 143, 3) := by decide +kernel
theorem dX7_next_168 : decode cX7_next 168 = .ok (.i2l, 1) := by decide +kernel
theorem dX7_next_169 : decode cX7_next 169 = .ok (.ldc2_w 156, 3) := by decide +kernel
theorem dX7_next_172 : decode cX7_next 172 = .ok (.ldc2_w 158, 3) := by decide +kernel
theorem dX7_next_175 : decode cX7_next 175 = .ok (.invokestatic 67, 3) := by decide +kernel
theorem dX7_next_178 : decode cX7_next 178 = .ok (.ifCond .eq 57, 3) := by decide +kernel
theorem dX7_next_181 : decode cX7_next 181 = .ok (.aload_n 0, 1) := by decide +kernel
theorem dX7_next_182 : decode cX7_next 182 = .ok (.iload_n 2, 1) := by decide +kernel
theorem dX7_next_183 : decode cX7_next 183 = .ok (.iconst 4, 1) := by decide +kernel
theorem dX7_next_184 : decode cX7_next 184 = .ok (.if_icmp .ge 28, 3) := by decide +kernel
theorem dX7_next_187 : decode cX7_next 187 = .ok (.ldc2_w 164, 3) := by decide +kernel
theorem dX7_next_190 : decode cX7_next 190 = .ok (.aload_n 0, 1) := by decide +kernel
theorem dX7_next_191 : decode cX7_next 191 = .ok (.getfield 160, 3) := by decide +kernel
theorem dX7_next_194 : decode cX7_next 194 = .ok (.lmul, 1) := by decide +kernel
theorem dX7_next_195 : decode cX7_next 195 = .ok (.aload_n 0, 1) := by decide +kernel
theorem dX7_next_196 : decode cX7_next 196 = .ok (.aload_n 0, 1) := by decide +kernel
theorem dX7_next_197 : decode cX7_next 197 = .ok (.getfield 140, 3) := by decide +kernel
theorem dX7_next_200 : decode cX7_next 200 = .ok (.invokevirtual 143, 3) := by decide +kernel
theorem dX7_next_203 : decode cX7_next 203 = .ok (.i2l, 1) := by decide +kernel
theorem dX7_next_204 : decode cX7_next 204 = .ok (.ladd, 1) := by decide +kernel
theorem dX7_next_205 : decode cX7_next 205 = .ok (.ldc2_w 156, 3) := by decide +kernel
theorem dX7_next_208 : decode cX7_next 208 = .ok (.lsub, 1) := by decide +kernel
theorem dX7_next_209 : decode cX7_next 209 = .ok (.goto 7, 3) := by decide +kernel
theorem dX7_next_212 : decode cX7_next 212 = .ok (.aload_n 0, 1) := by decide +kernel
theorem dX7_next_213 : decode cX7_next 213 = .ok (.getfield 160, 3) := by decide +kernel
theorem dX7_next_216 : decode cX7_next 216 = .ok (.putfield 160, 3) := by decide +kernel
theorem dX7_next_219 : decode cX7_next 219 = .ok (.iinc 2 1, 3) := by decide +kernel
theorem dX7_next_222 : decode cX7_next 222 = .ok (.aload_n 0, 1) := by decide +kernel
theorem dX7_next_223 : decode cX7_next 223 = .ok (.dup, 1) := by decide +kernel
theorem dX7_next_224 : decode cX7_next 224 = .ok (.getfield 140, 3) := by decide +kernel
theorem dX7_next_227 : decode cX7_next 227 = .ok (.iconst 1, 1) := by decide +kernel
theorem dX7_next_228 : decode cX7_next 228 = .ok (.iadd, 1) := by decide +kernel
theorem dX7_next_229 : decode cX7_next 229 = .ok (.putfield 140, 3) := by decide +kernel
theorem dX7_next_232 : decode cX7_next 232 = .ok (.goto (-72), 3) := by decide +kernel
theorem dX7_next_235 : decode cX7_next 235 = .ok (.aload_n 0, 1) := by decide +kernel
theorem dX7_next_236 : decode cX7_next 236 = .ok (.iload_n 2, 1) := by decide +kernel
theorem dX7_next_237 : decode cX7_next 237 = .ok (.iconst 4, 1) := by decide +kernel
theorem dX7_next_238 : decode cX7_next 238 = .ok (.if_icmp .le 7, 3) := by decide +kernel
theorem dX7_next_241 : decode cX7_next 241 = .ok (.iconst 4, 1) := by decide +kernel
theorem dX7_next_242 : decode cX7_next 242 = .ok (.goto 4, 3) := by decide +kernel
theorem dX7_next_245 : decode cX7_next 245 = .ok (.iconst 2, 1) := by decide +kernel
theorem dX7_next_246 : decode cX7_next 246 = .ok (.putfield 149, 3) := by decide +kernel
theorem dX7_next_249 : decode cX7_next 249 = .ok (.goto 72, 3) := by decide +kernel
theorem dX7_next_252 : decode cX7_next 252 = .ok (.iload_n 1, 1) := by decide +kernel
theorem dX7_next_253 : decode cX7_next 253 = .ok (.bipush 40, 2) := by decide +kernel
theorem dX7_next_255 : decode cX7_next 255 = .ok (.if_icmp .eq 45, 3) := by decide +kernel
theorem dX7_next_258 : decode cX7_next 258 = .ok (.iload_n 1, 1) := by decide +kernel
theorem dX7_next_259 : decode cX7_next 259 = .ok (.bipush 41, 2) := by decide +kernel
theorem dX7_next_261 : decode cX7_next 261 = .ok (.if_icmp .eq 39, 3) := by decide +kernel
theorem dX7_next_264 : decode cX7_next 264 = .ok (.iload_n 1, 1) := by decide +kernel
theorem dX7_next_265 : decode cX7_next 265 = .ok (.bipush 59, 2) := by decide +kernel
theorem dX7_next_267 : decode cX7_next 267 = .ok (.if_icmp .eq 33, 3) := by decide +kernel
theorem dX7_next_270 : decode cX7_next 270 = .ok (.iload_n 1, 1) := by decide +kernel
theorem dX7_next_271 : decode cX7_next 271 = .ok (.bipush 43, 2) := by decide +kernel
theorem dX7_next_273 : decode cX7_next 273 = .ok (.if_icmp .eq 27, 3) := by decide +kernel
theorem dX7_next_276 : decode cX7_next 276 = .ok (.iload_n 1, 1) := by decide +kernel
theorem dX7_next_277 : decode cX7_next 277 = .ok (.bipush 45, 2) := by decide +kernel
theorem dX7_next_279 : decode cX7_next 279 = .ok (.if_icmp .eq 21, 3) := by decide +kernel
theorem dX7_next_282 : decode cX7_next 282 = .ok (.iload_n 1, 1) := by decide +kernel
theorem dX7_next_283 : decode cX7_next 283 = .ok (.bipush 42, 2) := by decide +kernel
theorem dX7_next_285 : decode cX7_next 285 = .ok (.if_icmp .eq 15, 3) := by decide +kernel
theorem dX7_next_288 : decode cX7_next 288 = .ok (.iload_n 1, 1) := by decide +kernel
theorem dX7_next_289 : decode cX7_next 289 = .ok (.bipush 60, 2) := by decide +kernel
theorem dX7_next_291 : decode cX7_next 291 = .ok (.if_icmp .eq 9, 3) := by decide +kernel
theorem dX7_next_294 : decode cX7_next 294 = .ok (.iload_n 1, 1) := by decide +kernel
theorem dX7_next_295 : decode cX7_next 295 = .ok (.bipush 61, 2) := by decide +kernel
theorem dX7_next_297 : decode cX7_next 297 = .ok (.if_icmp .ne 24, 3) := by decide +kernel
theorem dX7_next_300 : decode cX7_next 300 = .ok (.aload_n 0, 1) := by decide +kernel
theorem dX7_next_301 : decode cX7_next 301 = .ok (.iconst 3, 1) := by decide +kernel
theorem dX7_next_302 : decode cX7_next 302 = .ok (.putfield 149, 3) := by decide +kernel
theorem dX7_next_305 : decode cX7_next 305 = .ok (.aload_n 0, 1) := by decide +kernel
theorem dX7_next_306 : decode cX7_next 306 = .ok (.iload_n 1, 1) := by decide +kernel
theorem dX7_next_307 : decode cX7_next 307 = .ok (.i2l, 1) := by decide +kernel
theorem dX7_next_308 : decode cX7_next 308 = .ok (.putfield 160, 3) := by decide +kernel
theorem dX7_next_311 : decode cX7_next 311 = .ok (.aload_n 0, 1) := by decide +kernel
theorem dX7_next_312 : decode cX7_next 312 = .ok (.dup, 1) := by decide +kernel
theorem dX7_next_313 : decode cX7_next 313 = .ok (.getfield 140, 3) := by decide +kernel
theorem dX7_next_316 : decode cX7_next 316 = .ok (.iconst 1, 1) := by decide +kernel
theorem dX7_next_317 : decode cX7_next 317 = .ok (.iadd, 1) := by decide +kernel
theorem dX7_next_318 : decode cX7_next 318 = .ok (.putfield 140, 3) := by decide +kernel
theorem dX7_next_321 : decode cX7_next 321 = .ok (.return_, 1) := by decide +kernel
theorem dX7_fail_0 : decode cX7_fail 0 = .ok (.aload_n 0, 1) := by decide +kernel
theorem dX7_fail_1 : decode cX7_fail 1 = .ok (.getfield 166, 3) := by decide +kernel
theorem dX7_fail_4 : decode cX7_fail 4 = .ok (.ifCond .ne 16, 3) := by decide +kernel
theorem dX7_fail_7 : decode cX7_fail 7 = .ok (.aload_n 0, 1) := by decide +kernel
theorem dX7_fail_8 : decode cX7_fail 8 = .ok (.iconst 1, 1) := by decide +kernel
theorem dX7_fail_9 : decode cX7_fail 9 = .ok (.putfield 166, 3) := by decide +kernel
theorem dX7_fail_12 : decode cX7_fail 12 = .ok (.aload_n 0, 1) := by decide +kernel
theorem dX7_fail_13 : decode cX7_fail 13 = .ok (.aload_n 0, 1) := by decide +kernel
theorem dX7_fail_14 : decode cX7_fail 14 = .ok (.getfield 146, 3) := by decide +kernel
theorem dX7_fail_17 : decode cX7_fail 17 = .ok (.putfield 170, 3) := by decide +kernel
theorem dX7_fail_20 : decode cX7_fail 20 = .ok (.return_, 1) := by decide +kernel
theorem dX7_isLetter_0 : decode cX7_isLetter 0 = .ok (.aload_n 0, 1) := by decide +kernel
theorem dX7_isLetter_1 : decode cX7_isLetter 1 = .ok (.getfield 146, 3) := by decide +kernel
theorem dX7_isLetter_4 : decode cX7_isLetter 4 = .ok (.iload_n 1, 1) := by decide +kernel
theorem dX7_isLetter_5 : decode cX7_isLetter 5 = .ok (.iadd, 1) := by decide +kernel
theorem dX7_isLetter_6 : decode cX7_isLetter 6 = .ok (.aload_n 0, 1) := by decide +kernel
theorem dX7_isLetter_7 : decode cX7_isLetter 7 = .ok (.getfield 140, 3) := by decide +kernel
theorem dX7_isLetter_10 : decode cX7_isLetter 10 = .ok (.if_icmp .ge 25, 3) := by decide +kernel
theorem dX7_isLetter_13 : decode cX7_isLetter 13 = .ok (.aload_n 0, 1) := by decide +kernel
theorem dX7_isLetter_14 : decode cX7_isLetter 14 = .ok (.aload_n 0, 1) := by decide +kernel
theorem dX7_isLetter_15 : decode cX7_isLetter 15 = .ok (.getfield 146, 3) := by decide +kernel
theorem dX7_isLetter_18 : decode cX7_isLetter 18 = .ok (.iload_n 1, 1) := by decide +kernel
theorem dX7_isLetter_19 : decode cX7_isLetter 19 = .ok (.iadd, 1) := by decide +kernel
theorem dX7_isLetter_20 : decode cX7_isLetter 20 = .ok (.invokevirtual 143, 3) := by decide +kernel
theorem dX7_isLetter_23 : decode cX7_isLetter 23 = .ok (.iload_n 2, 1) := by decide +kernel
theorem dX7_isLetter_24 : decode cX7_isLetter 24 = .ok (.if_icmp .ne 7, 3) := by decide +kernel
theorem dX7_isLetter_27 : decode cX7_isLetter 27 = .ok (.iconst 1, 1) := by decide +kernel
theorem dX7_isLetter_28 : decode cX7_isLetter 28 = .ok (.goto 16, 3) := by decide +kernel
theorem dX7_isLetter_31 : decode cX7_isLetter 31 = .ok (.iconst 0, 1) := by decide +kernel
theorem dX7_isLetter_32 : decode cX7_isLetter 32 = .ok (.goto 12, 3) := by decide +kernel
theorem dX7_isLetter_35 : decode cX7_isLetter 35 = .ok (.iload_n 2, 1) := by decide +kernel
theorem dX7_isLetter_36 : decode cX7_isLetter 36 = .ok (.ifCond .ne 7, 3) := by decide +kernel
theorem dX7_isLetter_39 : decode cX7_isLetter 39 = .ok (.iconst 1, 1) := by decide +kernel
theorem dX7_isLetter_40 : decode cX7_isLetter 40 = .ok (.goto 4, 3) := by decide +kernel
theorem dX7_isLetter_43 : decode cX7_isLetter 43 = .ok (.iconst 0, 1) := by decide +kernel
theorem dX7_isLetter_44 : decode cX7_isLetter 44 = .ok (.ireturn, 1) := by decide +kernel
theorem dX7_isWord_0 : decode cX7_isWord 0 = .ok (.aload_n 0, 1) := by decide +kernel
theorem dX7_isWord_1 : decode cX7_isWord 1 = .ok (.getfield 166, 3) := by decide +kernel
theorem dX7_isWord_4 : decode cX7_isWord 4 = .ok (.ifCond .ne 108, 3) := by decide +kernel
theorem dX7_isWord_7 : decode cX7_isWord 7 = .ok (.aload_n 0, 1) := by decide +kernel
theorem dX7_isWord_8 : decode cX7_isWord 8 = .ok (.getfield 149, 3) := by decide +kernel
theorem dX7_isWord_11 : decode cX7_isWord 11 = .ok (.iconst 1, 1) := by decide +kernel
theorem dX7_isWord_12 : decode cX7_isWord 12 = .ok (.if_icmp .ne 100, 3) := by decide +kernel
theorem dX7_isWord_15 : decode cX7_isWord 15 = .ok (.aload_n 0, 1) := by decide +kernel
theorem dX7_isWord_16 : decode cX7_isWord 16 = .ok (.getfield 140, 3) := by decide +kernel
theorem dX7_isWord_19 : decode cX7_isWord 19 = .ok (.aload_n 0, 1) := by decide +kernel
theorem dX7_isWord_20 : decode cX7_isWord 20 = .ok (.getfield 146, 3) := by decide +kernel
theorem dX7_isWord_23 : decode cX7_isWord 23 = .ok (.bipush 8, 2) := by decide +kernel
theorem dX7_isWord_25 : decode cX7_isWord 25 = .ok (.iadd, 1) := by decide +kernel
theorem dX7_isWord_26 : decode cX7_isWord 26 = .ok (.if_icmp .gt 86, 3) := by decide +kernel
theorem dX7_isWord_29 : decode cX7_isWord 29 = .ok (.aload_n 0, 1) := by decide +kernel
theorem dX7_isWord_30 : decode cX7_isWord 30 = .ok (.iconst 0, 1) := by decide +kernel
theorem dX7_isWord_31 : decode cX7_isWord 31 = .ok (.iload_n 1, 1) := by decide +kernel
theorem dX7_isWord_32 : decode cX7_isWord 32 = .ok (.invokevirtual 173, 3) := by decide +kernel
theorem dX7_isWord_35 : decode cX7_isWord 35 = .ok (.ifCond .eq 77, 3) := by decide +kernel
theorem dX7_isWord_38 : decode cX7_isWord 38 = .ok (.aload_n 0, 1) := by decide +kernel
theorem dX7_isWord_39 : decode cX7_isWord 39 = .ok (.iconst 1, 1) := by decide +kernel
theorem dX7_isWord_40 : decode cX7_isWord 40 = .ok (.iload_n 2, 1) := by decide +kernel
theorem dX7_isWord_41 : decode cX7_isWord 41 = .ok (.invokevirtual 173, 3) := by decide +kernel
theorem dX7_isWord_44 : decode cX7_isWord 44 = .ok (.ifCond .eq 68, 3) := by decide +kernel
theorem dX7_isWord_47 : decode cX7_isWord 47 = .ok (.aload_n 0, 1) := by decide +kernel
theorem dX7_isWord_48 : decode cX7_isWord 48 = .ok (.iconst 2, 1) := by decide +kernel
theorem dX7_isWord_49 : decode cX7_isWord 49 = .ok (.iload_n 3, 1) := by decide +kernel
theorem dX7_isWord_50 : decode cX7_isWord 50 = .ok (.invokevirtual 173, 3) := by decide +kernel
theorem dX7_isWord_53 : decode cX7_isWord 53 = .ok (.ifCond .eq 59, 3) := by decide +kernel
theorem dX7_isWord_56 : decode cX7_isWord 56 = .ok (.aload_n 0, 1) := by decide +kernel
theorem dX7_isWord_57 : decode cX7_isWord 57 = .ok (.iconst 3, 1) := by decide +kernel
theorem dX7_isWord_58 : decode cX7_isWord 58 = .ok (.iload 4, 2) := by decide +kernel
theorem dX7_isWord_60 : decode cX7_isWord 60 = .ok (.invokevirtual 173, 3) := by decide +kernel
theorem dX7_isWord_63 : decode cX7_isWord 63 = .ok (.ifCond .eq 49, 3) := by decide +kernel
theorem dX7_isWord_66 : decode cX7_isWord 66 = .ok (.aload_n 0, 1) := by decide +kernel
theorem dX7_isWord_67 : decode cX7_isWord 67 = .ok (.iconst 4, 1) := by decide +kernel
theorem dX7_isWord_68 : decode cX7_isWord 68 = .ok (.iload 5, 2) := by decide +kernel
theorem dX7_isWord_70 : decode cX7_isWord 70 = .ok (.invokevirtual 173, 3) := by decide +kernel
theorem dX7_isWord_73 : decode cX7_isWord 73 = .ok (.ifCond .eq 39, 3) := by decide +kernel
theorem dX7_isWord_76 : decode cX7_isWord 76 = .ok (.aload_n 0, 1) := by decide +kernel
theorem dX7_isWord_77 : decode cX7_isWord 77 = .ok (.iconst 5, 1) := by decide +kernel
theorem dX7_isWord_78 : decode cX7_isWord 78 = .ok (.iload 6, 2) := by decide +kernel
theorem dX7_isWord_80 : decode cX7_isWord 80 = .ok (.invokevirtual 173, 3) := by decide +kernel
theorem dX7_isWord_83 : decode cX7_isWord 83 = .ok (.ifCond .eq 29, 3) := by decide +kernel
theorem dX7_isWord_86 : decode cX7_isWord 86 = .ok (.aload_n 0, 1) := by decide +kernel
theorem dX7_isWord_87 : decode cX7_isWord 87 = .ok (.bipush 6, 2) := by decide +kernel
theorem dX7_isWord_89 : decode cX7_isWord 89 = .ok (.iload 7, 2) := by decide +kernel
theorem dX7_isWord_91 : decode cX7_isWord 91 = .ok (.invokevirtual 173, 3) := by decide +kernel
theorem dX7_isWord_94 : decode cX7_isWord 94 = .ok (.ifCond .eq 18, 3) := by decide +kernel
theorem dX7_isWord_97 : decode cX7_isWord 97 = .ok (.aload_n 0, 1) := by decide +kernel
theorem dX7_isWord_98 : decode cX7_isWord 98 = .ok (.bipush 7, 2) := by decide +kernel
theorem dX7_isWord_100 : decode cX7_isWord 100 = .ok (.iload 8, 2) := by decide +kernel
theorem dX7_isWord_102 : decode cX7_isWord 102 = .ok (.invokevirtual 173, 3) := by decide +kernel
theorem dX7_isWord_105 : decode cX7_isWord 105 = .ok (.ifCond .eq 7, 3) := by decide +kernel
theorem dX7_isWord_108 : decode cX7_isWord 108 = .ok (.iconst 1, 1) := by decide +kernel
theorem dX7_isWord_109 : decode cX7_isWord 109 = .ok (.goto 4, 3) := by decide +kernel
theorem dX7_isWord_112 : decode cX7_isWord 112 = .ok (.iconst 0, 1) := by decide +kernel
theorem dX7_isWord_113 : decode cX7_isWord 113 = .ok (.ireturn, 1) := by decide +kernel
theorem dX7_isSign_0 : decode cX7_isSign 0 = .ok (.aload_n 0, 1) := by decide +kernel
theorem dX7_isSign_1 : decode cX7_isSign 1 = .ok (.getfield 166, 3) := by decide +kernel
theorem dX7_isSign_4 : decode cX7_isSign 4 = .ok (.ifCond .ne 25, 3) := by decide +kernel
theorem dX7_isSign_7 : decode cX7_isSign 7 = .ok (.aload_n 0, 1) := by decide +kernel
theorem dX7_isSign_8 : decode cX7_isSign 8 = .ok (.getfield 149, 3) := by decide +kernel
theorem dX7_isSign_11 : decode cX7_isSign 11 = .ok (.iconst 3, 1) := by decide +kernel
theorem dX7_isSign_12 : decode cX7_isSign 12 = .ok (.if_icmp .ne 17, 3) := by decide +kernel
theorem dX7_isSign_15 : decode cX7_isSign 15 = .ok (.aload_n 0, 1) := by decide +kernel
theorem dX7_isSign_16 : decode cX7_isSign 16 = .ok (.getfield 160, 3) := by decide +kernel
theorem dX7_isSign_19 : decode cX7_isSign 19 = .ok (.iload_n 1, 1) := by decide +kernel
theorem dX7_isSign_20 : decode cX7_isSign 20 = .ok (.i2l, 1) := by decide +kernel
theorem dX7_isSign_21 : decode cX7_isSign 21 = .ok (.lcmp, 1) := by decide +kernel
theorem dX7_isSign_22 : decode cX7_isSign 22 = .ok (.ifCond .ne 7, 3) := by decide +kernel
theorem dX7_isSign_25 : decode cX7_isSign 25 = .ok (.iconst 1, 1) := by decide +kernel
theorem dX7_isSign_26 : decode cX7_isSign 26 = .ok (.goto 4, 3) := by decide +kernel
theorem dX7_isSign_29 : decode cX7_isSign 29 = .ok (.iconst 0, 1) := by decide +kernel
theorem dX7_isSign_30 : decode cX7_isSign 30 = .ok (.ireturn, 1) := by decide +kernel
theorem dX7_opens_0 : decode cX7_opens 0 = .ok (.aload_n 0, 1) := by decide +kernel
theorem dX7_opens_1 : decode cX7_opens 1 = .ok (.getfield 176, 3) := by decide +kernel
theorem dX7_opens_4 : decode cX7_opens 4 = .ok (.iconst 5, 1) := by decide +kernel
theorem dX7_opens_5 : decode cX7_opens 5 = .ok (.if_icmp .ne 9, 3) := by decide +kernel
theorem dX7_opens_8 : decode cX7_opens 8 = .ok (.aload_n 0, 1) := by decide +kernel
theorem dX7_opens_9 : decode cX7_opens 9 = .ok (.invokevirtual 179, 3) := by decide +kernel
theorem dX7_opens_12 : decode cX7_opens 12 = .ok (.iconst 0, 1) := by decide +kernel
theorem dX7_opens_13 : decode cX7_opens 13 = .ok (.ireturn, 1) := by decide +kernel
theorem dX7_opens_14 : decode cX7_opens 14 = .ok (.aload_n 0, 1) := by decide +kernel
theorem dX7_opens_15 : decode cX7_opens 15 = .ok (.dup, 1) := by decide +kernel
theorem dX7_opens_16 : decode cX7_opens 16 = .ok (.getfield 176, 3) := by decide +kernel
theorem dX7_opens_19 : decode cX7_opens 19 = .ok (.iconst 1, 1) := by decide +kernel
theorem dX7_opens_20 : decode cX7_opens 20 = .ok (.iadd, 1) := by decide +kernel
theorem dX7_opens_21 : decode cX7_opens 21 = .ok (.putfield 176, 3) := by decide +kernel
theorem dX7_opens_24 : decode cX7_opens 24 = .ok (.aload_n 0, 1) := by decide +kernel
theorem dX7_opens_25 : decode cX7_opens 25 = .ok (.invokevirtual 182, 3) := by decide +kernel
theorem dX7_opens_28 : decode cX7_opens 28 = .ok (.iconst 1, 1) := by decide +kernel
theorem dX7_opens_29 : decode cX7_opens 29 = .ok (.ireturn, 1) := by decide +kernel
theorem dX7_name_0 : decode cX7_name 0 = .ok (.aload_n 0, 1) := by decide +kernel
theorem dX7_name_1 : decode cX7_name 1 = .ok (.bipush 116, 2) := by decide +kernel
theorem dX7_name_3 : decode cX7_name 3 = .ok (.bipush 111, 2) := by decide +kernel
theorem dX7_name_5 : decode cX7_name 5 = .ok (.bipush 108, 2) := by decide +kernel
theorem dX7_name_7 : decode cX7_name 7 = .ok (.bipush 100, 2) := by decide +kernel
theorem dX7_name_9 : decode cX7_name 9 = .ok (.iconst 0, 1) := by decide +kernel
theorem dX7_name_10 : decode cX7_name 10 = .ok (.iconst 0, 1) := by decide +kernel
theorem dX7_name_11 : decode cX7_name 11 = .ok (.iconst 0, 1) := by decide +kernel
theorem dX7_name_12 : decode cX7_name 12 = .ok (.iconst 0, 1) := by decide +kernel
theorem dX7_name_13 : decode cX7_name 13 = .ok (.invokevirtual 185, 3) := by decide +kernel
theorem dX7_name_16 : decode cX7_name 16 = .ok (.ifCond .eq 8, 3) := by decide +kernel
theorem dX7_name_19 : decode cX7_name 19 = .ok (.aload_n 0, 1) := by decide +kernel
theorem dX7_name_20 : decode cX7_name 20 = .ok (.getfield 189, 3) := by decide +kernel
theorem dX7_name_23 : decode cX7_name 23 = .ok (.ireturn, 1) := by decide +kernel
theorem dX7_name_24 : decode cX7_name 24 = .ok (.aload_n 0, 1) := by decide +kernel
theorem dX7_name_25 : decode cX7_name 25 = .ok (.bipush 117, 2) := by decide +kernel
theorem dX7_name_27 : decode cX7_name 27 = .ok (.bipush 110, 2) := by decide +kernel
theorem dX7_name_29 : decode cX7_name 29 = .ok (.bipush 116, 2) := by decide +kernel
theorem dX7_name_31 : decode cX7_name 31 = .ok (.bipush 111, 2) := by decide +kernel
theorem dX7_name_33 : decode cX7_name 33 = .ok (.bipush 108, 2) := by decide +kernel
theorem dX7_name_35 : decode cX7_name 35 = .ok (.bipush 100, 2) := by decide +kernel
theorem dX7_name_37 : decode cX7_name 37 = .ok (.iconst 0, 1) := by decide +kernel
theorem dX7_name_38 : decode cX7_name 38 = .ok (.iconst 0, 1) := by decide +kernel
theorem dX7_name_39 : decode cX7_name 39 = .ok (.invokevirtual 185, 3) := by decide +kernel
theorem dX7_name_42 : decode cX7_name 42 = .ok (.ifCond .eq 8, 3) := by decide +kernel
theorem dX7_name_45 : decode cX7_name 45 = .ok (.aload_n 0, 1) := by decide +kernel
theorem dX7_name_46 : decode cX7_name 46 = .ok (.getfield 192, 3) := by decide +kernel
theorem dX7_name_49 : decode cX7_name 49 = .ok (.ireturn, 1) := by decide +kernel
theorem dX7_name_50 : decode cX7_name 50 = .ok (.aload_n 0, 1) := by decide +kernel
theorem dX7_name_51 : decode cX7_name 51 = .ok (.bipush 115, 2) := by decide +kernel
theorem dX7_name_53 : decode cX7_name 53 = .ok (.bipush 116, 2) := by decide +kernel
theorem dX7_name_55 : decode cX7_name 55 = .ok (.bipush 101, 2) := by decide +kernel
theorem dX7_name_57 : decode cX7_name 57 = .ok (.bipush 112, 2) := by decide +kernel
theorem dX7_name_59 : decode cX7_name 59 = .ok (.iconst 0, 1) := by decide +kernel
theorem dX7_name_60 : decode cX7_name 60 = .ok (.iconst 0, 1) := by decide +kernel
theorem dX7_name_61 : decode cX7_name 61 = .ok (.iconst 0, 1) := by decide +kernel
theorem dX7_name_62 : decode cX7_name 62 = .ok (.iconst 0, 1) := by decide +kernel
theorem dX7_name_63 : decode cX7_name 63 = .ok (.invokevirtual 185, 3) := by decide +kernel
theorem dX7_name_66 : decode cX7_name 66 = .ok (.ifCond .eq 8, 3) := by decide +kernel
theorem dX7_name_69 : decode cX7_name 69 = .ok (.aload_n 0, 1) := by decide +kernel
theorem dX7_name_70 : decode cX7_name 70 = .ok (.getfield 195, 3) := by decide +kernel
theorem dX7_name_73 : decode cX7_name 73 = .ok (.ireturn, 1) := by decide +kernel
theorem dX7_name_74 : decode cX7_name 74 = .ok (.aload_n 0, 1) := by decide +kernel
theorem dX7_name_75 : decode cX7_name 75 = .ok (.bipush 110, 2) := by decide +kernel
theorem dX7_name_77 : decode cX7_name 77 = .ok (.bipush 117, 2) := by decide +kernel
theorem dX7_name_79 : decode cX7_name 79 = .ok (.bipush 109, 2) := by decide +kernel
theorem dX7_name_81 : decode cX7_name 81 = .ok (.bipush 98, 2) := by decide +kernel
theorem dX7_name_83 : decode cX7_name 83 = .ok (.bipush 101, 2) := by decide +kernel
theorem dX7_name_85 : decode cX7_name 85 = .ok (.bipush 114, 2) := by decide +kernel
theorem dX7_name_87 : decode cX7_name 87 = .ok (.iconst 0, 1) := by decide +kernel
theorem dX7_name_88 : decode cX7_name 88 = .ok (.iconst 0, 1) := by decide +kernel
theorem dX7_name_89 : decode cX7_name 89 = .ok (.invokevirtual 185, 3) := by decide +kernel
theorem dX7_name_92 : decode cX7_name 92 = .ok (.ifCond .eq 8, 3) := by decide +kernel
theorem dX7_name_95 : decode cX7_name 95 = .ok (.aload_n 0, 1) := by decide +kernel
theorem dX7_name_96 : decode cX7_name 96 = .ok (.getfield 198, 3) := by decide +kernel
theorem dX7_name_99 : decode cX7_name 99 = .ok (.ireturn, 1) := by decide +kernel
theorem dX7_name_100 : decode cX7_name 100 = .ok (.aload_n 0, 1) := by decide +kernel
theorem dX7_name_101 : decode cX7_name 101 = .ok (.bipush 100, 2) := by decide +kernel
theorem dX7_name_103 : decode cX7_name 103 = .ok (.bipush 97, 2) := by decide +kernel
theorem dX7_name_105 : decode cX7_name 105 = .ok (.bipush 121, 2) := by decide +kernel
theorem dX7_name_107 : decode cX7_name 107 = .ok (.iconst 0, 1) := by decide +kernel
theorem dX7_name_108 : decode cX7_name 108 = .ok (.iconst 0, 1) := by decide +kernel
theorem dX7_name_109 : decode cX7_name 109 = .ok (.iconst 0, 1) := by decide +kernel
theorem dX7_name_110 : decode cX7_name 110 = .ok (.iconst 0, 1) := by decide +kernel
theorem dX7_name_111 : decode cX7_name 111 = .ok (.iconst 0, 1) := by decide +kernel
theorem dX7_name_112 : decode cX7_name 112 = .ok (.invokevirtual 185, 3) := by decide +kernel
theorem dX7_name_115 : decode cX7_name 115 = .ok (.ifCond .eq 8, 3) := by decide +kernel
theorem dX7_name_118 : decode cX7_name 118 = .ok (.aload_n 0, 1) := by decide +kernel
theorem dX7_name_119 : decode cX7_name 119 = .ok (.getfield 201, 3) := by decide +kernel
theorem dX7_name_122 : decode cX7_name 122 = .ok (.ireturn, 1) := by decide +kernel
theorem dX7_name_123 : decode cX7_name 123 = .ok (.aload_n 0, 1) := by decide +kernel
theorem dX7_name_124 : decode cX7_name 124 = .ok (.bipush 119, 2) := by decide +kernel
theorem dX7_name_126 : decode cX7_name 126 = .ok (.bipush 111, 2) := by decide +kernel
theorem dX7_name_128 : decode cX7_name 128 = .ok (.bipush 114, 2) := by decide +kernel
theorem dX7_name_130 : decode cX7_name 130 = .ok (.bipush 110, 2) := by decide +kernel
theorem dX7_name_132 : decode cX7_name 132 = .ok (.iconst 0, 1) := by decide +kernel
theorem dX7_name_133 : decode cX7_name 133 = .ok (.iconst 0, 1) := by decide +kernel
theorem dX7_name_134 : decode cX7_name 134 = .ok (.iconst 0, 1) := by decide +kernel
theorem dX7_name_135 : decode cX7_name 135 = .ok (.iconst 0, 1) := by decide +kernel
theorem dX7_name_136 : decode cX7_name 136 = .ok (.invokevirtual 185, 3) := by decide +kernel
theorem dX7_name_139 : decode cX7_name 139 = .ok (.ifCond .eq 8, 3) := by decide +kernel
theorem dX7_name_142 : decode cX7_name 142 = .ok (.aload_n 0, 1) := by decide +kernel
theorem dX7_name_143 : decode cX7_name 143 = .ok (.getfield 204, 3) := by decide +kernel
theorem dX7_name_146 : decode cX7_name 146 = .ok (.ireturn, 1) := by decide +kernel
theorem dX7_name_147 : decode cX7_name 147 = .ok (.aload_n 0, 1) := by decide +kernel
theorem dX7_name_148 : decode cX7_name 148 = .ok (.invokevirtual 179, 3) := by decide +kernel
theorem dX7_name_151 : decode cX7_name 151 = .ok (.iconst 0, 1) := by decide +kernel
theorem dX7_name_152 : decode cX7_name 152 = .ok (.ireturn, 1) := by decide +kernel
theorem dX7_atom5_0 : decode cX7_atom5 0 = .ok (.iconst 0, 1) := by decide +kernel
theorem dX7_atom5_1 : decode cX7_atom5 1 = .ok (.istore_n 1, 1) := by decide +kernel
theorem dX7_atom5_2 : decode cX7_atom5 2 = .ok (.aload_n 0, 1) := by decide +kernel
theorem dX7_atom5_3 : decode cX7_atom5 3 = .ok (.bipush 45, 2) := by decide +kernel
theorem dX7_atom5_5 : decode cX7_atom5 5 = .ok (.invokevirtual 207, 3) := by decide +kernel
theorem dX7_atom5_8 : decode cX7_atom5 8 = .ok (.ifCond .eq 11, 3) := by decide +kernel
theorem dX7_atom5_11 : decode cX7_atom5 11 = .ok (.aload_n 0, 1) := by decide +kernel
theorem dX7_atom5_12 : decode cX7_atom5 12 = .ok (.invokevirtual 210, 3) := by decide +kernel
theorem dX7_atom5_15 : decode cX7_atom5 15 = .ok (.pop, 1) := by decide +kernel
theorem dX7_atom5_16 : decode cX7_atom5 16 = .ok (.goto 86, 3) := by decide +kernel
theorem dX7_atom5_19 : decode cX7_atom5 19 = .ok (.aload_n 0, 1) := by decide +kernel
theorem dX7_atom5_20 : decode cX7_atom5 20 = .ok (.bipush 40, 2) := by decide +kernel
theorem dX7_atom5_22 : decode cX7_atom5 22 = .ok (.invokevirtual 207, 3) := by decide +kernel
theorem dX7_atom5_25 : decode cX7_atom5 25 = .ok (.ifCond .eq 11, 3) := by decide +kernel
theorem dX7_atom5_28 : decode cX7_atom5 28 = .ok (.aload_n 0, 1) := by decide +kernel
theorem dX7_atom5_29 : decode cX7_atom5 29 = .ok (.invokevirtual 210, 3) := by decide +kernel
theorem dX7_atom5_32 : decode cX7_atom5 32 = .ok (.pop, 1) := by decide +kernel
theorem dX7_atom5_33 : decode cX7_atom5 33 = .ok (.goto 69, 3) := by decide +kernel
theorem dX7_atom5_36 : decode cX7_atom5 36 = .ok (.aload_n 0, 1) := by decide +kernel
theorem dX7_atom5_37 : decode cX7_atom5 37 = .ok (.getfield 166, 3) := by decide +kernel
theorem dX7_atom5_40 : decode cX7_atom5 40 = .ok (.ifCond .ne 24, 3) := by decide +kernel
theorem dX7_atom5_43 : decode cX7_atom5 43 = .ok (.aload_n 0, 1) := by decide +kernel
theorem dX7_atom5_44 : decode cX7_atom5 44 = .ok (.getfield 149, 3) := by decide +kernel
theorem dX7_atom5_47 : decode cX7_atom5 47 = .ok (.iconst 2, 1) := by decide +kernel
theorem dX7_atom5_48 : decode cX7_atom5 48 = .ok (.if_icmp .ne 16, 3) := by decide +kernel
theorem dX7_atom5_51 : decode cX7_atom5 51 = .ok (.aload_n 0, 1) := by decide +kernel
theorem dX7_atom5_52 : decode cX7_atom5 52 = .ok (.getfield 160, 3) := by decide +kernel
theorem dX7_atom5_55 : decode cX7_atom5 55 = .ok (.l2i, 1) := by decide +kernel
theorem dX7_atom5_56 : decode cX7_atom5 56 = .ok (.istore_n 1, 1) := by decide +kernel
theorem dX7_atom5_57 : decode cX7_atom5 57 = .ok (.aload_n 0, 1) := by decide +kernel
theorem dX7_atom5_58 : decode cX7_atom5 58 = .ok (.invokevirtual 182, 3) := by decide +kernel
theorem dX7_atom5_61 : decode cX7_atom5 61 = .ok (.goto 41, 3) := by decide +kernel
theorem dX7_atom5_64 : decode cX7_atom5 64 = .ok (.aload_n 0, 1) := by decide +kernel
theorem dX7_atom5_65 : decode cX7_atom5 65 = .ok (.getfield 166, 3) := by decide +kernel
theorem dX7_atom5_68 : decode cX7_atom5 68 = .ok (.ifCond .ne 30, 3) := by decide +kernel
theorem dX7_atom5_71 : decode cX7_atom5 71 = .ok (.aload_n 0, 1) := by decide +kernel
theorem dX7_atom5_72 : decode cX7_atom5 72 = .ok (.getfield 149, 3) := by decide +kernel
theorem dX7_atom5_75 : decode cX7_atom5 75 = .ok (.iconst 1, 1) := by decide +kernel
theorem dX7_atom5_76 : decode cX7_atom5 76 = .ok (.if_icmp .ne 22, 3) := by decide +kernel
theorem dX7_atom5_79 : decode cX7_atom5 79 = .ok (.aload_n 0, 1) := by decide +kernel
theorem dX7_atom5_80 : decode cX7_atom5 80 = .ok (.invokevirtual 214, 3) := by decide +kernel
theorem dX7_atom5_83 : decode cX7_atom5 83 = .ok (.istore_n 1, 1) := by decide +kernel
theorem dX7_atom5_84 : decode cX7_atom5 84 = .ok (.aload_n 0, 1) := by decide +kernel
theorem dX7_atom5_85 : decode cX7_atom5 85 = .ok (.getfield 166, 3) := by decide +kernel
theorem dX7_atom5_88 : decode cX7_atom5 88 = .ok (.ifCond .ne 14, 3) := by decide +kernel
theorem dX7_atom5_91 : decode cX7_atom5 91 = .ok (.aload_n 0, 1) := by decide +kernel
theorem dX7_atom5_92 : decode cX7_atom5 92 = .ok (.invokevirtual 182, 3) := by decide +kernel
theorem dX7_atom5_95 : decode cX7_atom5 95 = .ok (.goto 7, 3) := by decide +kernel
theorem dX7_atom5_98 : decode cX7_atom5 98 = .ok (.aload_n 0, 1) := by decide +kernel
theorem dX7_atom5_99 : decode cX7_atom5 99 = .ok (.invokevirtual 179, 3) := by decide +kernel
theorem dX7_atom5_102 : decode cX7_atom5 102 = .ok (.iload_n 1, 1) := by decide +kernel
theorem dX7_atom5_103 : decode cX7_atom5 103 = .ok (.ireturn, 1) := by decide +kernel
theorem dX7_term5_0 : decode cX7_term5 0 = .ok (.aload_n 0, 1) := by decide +kernel
theorem dX7_term5_1 : decode cX7_term5 1 = .ok (.invokevirtual 218, 3) := by decide +kernel
theorem dX7_term5_4 : decode cX7_term5 4 = .ok (.istore_n 1, 1) := by decide +kernel
theorem dX7_term5_5 : decode cX7_term5 5 = .ok (.aload_n 0, 1) := by decide +kernel
theorem dX7_term5_6 : decode cX7_term5 6 = .ok (.bipush 42, 2) := by decide +kernel
theorem dX7_term5_8 : decode cX7_term5 8 = .ok (.invokevirtual 207, 3) := by decide +kernel
theorem dX7_term5_11 : decode cX7_term5 11 = .ok (.ifCond .eq 17, 3) := by decide +kernel
theorem dX7_term5_14 : decode cX7_term5 14 = .ok (.aload_n 0, 1) := by decide +kernel
theorem dX7_term5_15 : decode cX7_term5 15 = .ok (.invokevirtual 182, 3) := by decide +kernel
theorem dX7_term5_18 : decode cX7_term5 18 = .ok (.iload_n 1, 1) := by decide +kernel
theorem dX7_term5_19 : decode cX7_term5 19 = .ok (.aload_n 0, 1) := by decide +kernel
theorem dX7_term5_20 : decode cX7_term5 20 = .ok (.invokevirtual 218, 3) := by decide +kernel
theorem dX7_term5_23 : decode cX7_term5 23 = .ok (.imul, 1) := by decide +kernel
theorem dX7_term5_24 : decode cX7_term5 24 = .ok (.istore_n 1, 1) := by decide +kernel
theorem dX7_term5_25 : decode cX7_term5 25 = .ok (.goto (-20), 3) := by decide +kernel
theorem dX7_term5_28 : decode cX7_term5 28 = .ok (.iload_n 1, 1) := by decide +kernel
theorem dX7_term5_29 : decode cX7_term5 29 = .ok (.ireturn, 1) := by decide +kernel
theorem dX7_added5_0 : decode cX7_added5 0 = .ok (.aload_n 0, 1) := by decide +kernel
theorem dX7_added5_1 : decode cX7_added5 1 = .ok (.invokevirtual 221, 3) := by decide +kernel
theorem dX7_added5_4 : decode cX7_added5 4 = .ok (.istore_n 1, 1) := by decide +kernel
theorem dX7_added5_5 : decode cX7_added5 5 = .ok (.aload_n 0, 1) := by decide +kernel
theorem dX7_added5_6 : decode cX7_added5 6 = .ok (.bipush 43, 2) := by decide +kernel
theorem dX7_added5_8 : decode cX7_added5 8 = .ok (.invokevirtual 207, 3) := by decide +kernel
theorem dX7_added5_11 : decode cX7_added5 11 = .ok (.ifCond .ne 12, 3) := by decide +kernel
theorem dX7_added5_14 : decode cX7_added5 14 = .ok (.aload_n 0, 1) := by decide +kernel
theorem dX7_added5_15 : decode cX7_added5 15 = .ok (.bipush 45, 2) := by decide +kernel
theorem dX7_added5_17 : decode cX7_added5 17 = .ok (.invokevirtual 207, 3) := by decide +kernel
theorem dX7_added5_20 : decode cX7_added5 20 = .ok (.ifCond .eq 46, 3) := by decide +kernel
theorem dX7_added5_23 : decode cX7_added5 23 = .ok (.aload_n 0, 1) := by decide +kernel
theorem dX7_added5_24 : decode cX7_added5 24 = .ok (.getfield 160, 3) := by decide +kernel
theorem dX7_added5_27 : decode cX7_added5 27 = .ok (.ldc2_w 224, 3) := by decide +kernel
theorem dX7_added5_30 : decode cX7_added5 30 = .ok (.lcmp, 1) := by decide +kernel
theorem dX7_added5_31 : decode cX7_added5 31 = .ok (.ifCond .ne 7, 3) := by decide +kernel
theorem dX7_added5_34 : decode cX7_added5 34 = .ok (.iconst 1, 1) := by decide +kernel
theorem dX7_added5_35 : decode cX7_added5 35 = .ok (.goto 4, 3) := by decide +kernel
theorem dX7_added5_38 : decode cX7_added5 38 = .ok (.iconst 0, 1) := by decide +kernel
theorem dX7_added5_39 : decode cX7_added5 39 = .ok (.istore_n 2, 1) := by decide +kernel
theorem dX7_added5_40 : decode cX7_added5 40 = .ok (.aload_n 0, 1) := by decide +kernel
theorem dX7_added5_41 : decode cX7_added5 41 = .ok (.invokevirtual 182, 3) := by decide +kernel
theorem dX7_added5_44 : decode cX7_added5 44 = .ok (.aload_n 0, 1) := by decide +kernel
theorem dX7_added5_45 : decode cX7_added5 45 = .ok (.invokevirtual 221, 3) := by decide +kernel
theorem dX7_added5_48 : decode cX7_added5 48 = .ok (.istore_n 3, 1) := by decide +kernel
theorem dX7_added5_49 : decode cX7_added5 49 = .ok (.iload_n 2, 1) := by decide +kernel
theorem dX7_added5_50 : decode cX7_added5 50 = .ok (.ifCond .eq 9, 3) := by decide +kernel
theorem dX7_added5_53 : decode cX7_added5 53 = .ok (.iload_n 1, 1) := by decide +kernel
theorem dX7_added5_54 : decode cX7_added5 54 = .ok (.iload_n 3, 1) := by decide +kernel
theorem dX7_added5_55 : decode cX7_added5 55 = .ok (.iadd, 1) := by decide +kernel
theorem dX7_added5_56 : decode cX7_added5 56 = .ok (.goto 6, 3) := by decide +kernel
theorem dX7_added5_59 : decode cX7_added5 59 = .ok (.iload_n 1, 1) := by decide +kernel
theorem dX7_added5_60 : decode cX7_added5 60 = .ok (.iload_n 3, 1) := by decide +kernel
theorem dX7_added5_61 : decode cX7_added5 61 = .ok (.isub, 1) := by decide +kernel
theorem dX7_added5_62 : decode cX7_added5 62 = .ok (.istore_n 1, 1) := by decide +kernel
theorem dX7_added5_63 : decode cX7_added5 63 = .ok (.goto (-58), 3) := by decide +kernel
theorem dX7_added5_66 : decode cX7_added5 66 = .ok (.iload_n 1, 1) := by decide +kernel
theorem dX7_added5_67 : decode cX7_added5 67 = .ok (.ireturn, 1) := by decide +kernel
theorem dX7_not5_0 : decode cX7_not5 0 = .ok (.aload_n 0, 1) := by decide +kernel
theorem dX7_not5_1 : decode cX7_not5 1 = .ok (.bipush 110, 2) := by decide +kernel
theorem dX7_not5_3 : decode cX7_not5 3 = .ok (.bipush 111, 2) := by decide +kernel
theorem dX7_not5_5 : decode cX7_not5 5 = .ok (.bipush 116, 2) := by decide +kernel
theorem dX7_not5_7 : decode cX7_not5 7 = .ok (.iconst 0, 1) := by decide +kernel
theorem dX7_not5_8 : decode cX7_not5 8 = .ok (.iconst 0, 1) := by decide +kernel
theorem dX7_not5_9 : decode cX7_not5 9 = .ok (.iconst 0, 1) := by decide +kernel
theorem dX7_not5_10 : decode cX7_not5 10 = .ok (.iconst 0, 1) := by decide +kernel
theorem dX7_not5_11 : decode cX7_not5 11 = .ok (.iconst 0, 1) := by decide +kernel
theorem dX7_not5_12 : decode cX7_not5 12 = .ok (.invokevirtual 185, 3) := by decide +kernel
theorem dX7_not5_15 : decode cX7_not5 15 = .ok (.ifCond .eq 10, 3) := by decide +kernel
theorem dX7_not5_18 : decode cX7_not5 18 = .ok (.aload_n 0, 1) := by decide +kernel
theorem dX7_not5_19 : decode cX7_not5 19 = .ok (.invokevirtual 210, 3) := by decide +kernel
theorem dX7_not5_22 : decode cX7_not5 22 = .ok (.pop, 1) := by decide +kernel
theorem dX7_not5_23 : decode cX7_not5 23 = .ok (.iconst 0, 1) := by decide +kernel
theorem dX7_not5_24 : decode cX7_not5 24 = .ok (.ireturn, 1) := by decide +kernel
theorem dX7_not5_25 : decode cX7_not5 25 = .ok (.aload_n 0, 1) := by decide +kernel
theorem dX7_not5_26 : decode cX7_not5 26 = .ok (.invokevirtual 226, 3) := by decide +kernel
theorem dX7_not5_29 : decode cX7_not5 29 = .ok (.istore_n 1, 1) := by decide +kernel
theorem dX7_not5_30 : decode cX7_not5 30 = .ok (.aload_n 0, 1) := by decide +kernel
theorem dX7_not5_31 : decode cX7_not5 31 = .ok (.bipush 60, 2) := by decide +kernel
theorem dX7_not5_33 : decode cX7_not5 33 = .ok (.invokevirtual 207, 3) := by decide +kernel
theorem dX7_not5_36 : decode cX7_not5 36 = .ok (.ifCond .ne 14, 3) := by decide +kernel
theorem dX7_not5_39 : decode cX7_not5 39 = .ok (.aload_n 0, 1) := by decide +kernel
theorem dX7_not5_40 : decode cX7_not5 40 = .ok (.bipush 61, 2) := by decide +kernel
theorem dX7_not5_42 : decode cX7_not5 42 = .ok (.invokevirtual 207, 3) := by decide +kernel
theorem dX7_not5_45 : decode cX7_not5 45 = .ok (.ifCond .ne 5, 3) := by decide +kernel
theorem dX7_not5_48 : decode cX7_not5 48 = .ok (.iload_n 1, 1) := by decide +kernel
theorem dX7_not5_49 : decode cX7_not5 49 = .ok (.ireturn, 1) := by decide +kernel
theorem dX7_not5_50 : decode cX7_not5 50 = .ok (.aload_n 0, 1) := by decide +kernel
theorem dX7_not5_51 : decode cX7_not5 51 = .ok (.getfield 160, 3) := by decide +kernel
theorem dX7_not5_54 : decode cX7_not5 54 = .ok (.ldc2_w 229, 3) := by decide +kernel
theorem dX7_not5_57 : decode cX7_not5 57 = .ok (.lcmp, 1) := by decide +kernel
theorem dX7_not5_58 : decode cX7_not5 58 = .ok (.ifCond .ne 7, 3) := by decide +kernel
theorem dX7_not5_61 : decode cX7_not5 61 = .ok (.iconst 1, 1) := by decide +kernel
theorem dX7_not5_62 : decode cX7_not5 62 = .ok (.goto 4, 3) := by decide +kernel
theorem dX7_not5_65 : decode cX7_not5 65 = .ok (.iconst 0, 1) := by decide +kernel
theorem dX7_not5_66 : decode cX7_not5 66 = .ok (.istore_n 2, 1) := by decide +kernel
theorem dX7_not5_67 : decode cX7_not5 67 = .ok (.aload_n 0, 1) := by decide +kernel
theorem dX7_not5_68 : decode cX7_not5 68 = .ok (.invokevirtual 182, 3) := by decide +kernel
theorem dX7_not5_71 : decode cX7_not5 71 = .ok (.aload_n 0, 1) := by decide +kernel
theorem dX7_not5_72 : decode cX7_not5 72 = .ok (.invokevirtual 226, 3) := by decide +kernel
theorem dX7_not5_75 : decode cX7_not5 75 = .ok (.istore_n 3, 1) := by decide +kernel
theorem dX7_not5_76 : decode cX7_not5 76 = .ok (.iload_n 2, 1) := by decide +kernel
theorem dX7_not5_77 : decode cX7_not5 77 = .ok (.ifCond .eq 11, 3) := by decide +kernel
theorem dX7_not5_80 : decode cX7_not5 80 = .ok (.iload_n 1, 1) := by decide +kernel
theorem dX7_not5_81 : decode cX7_not5 81 = .ok (.iload_n 3, 1) := by decide +kernel
theorem dX7_not5_82 : decode cX7_not5 82 = .ok (.if_icmp .ge 15, 3) := by decide +kernel
theorem dX7_not5_85 : decode cX7_not5 85 = .ok (.goto 8, 3) := by decide +kernel
theorem dX7_not5_88 : decode cX7_not5 88 = .ok (.iload_n 1, 1) := by decide +kernel
theorem dX7_not5_89 : decode cX7_not5 89 = .ok (.iload_n 3, 1) := by decide +kernel
theorem dX7_not5_90 : decode cX7_not5 90 = .ok (.if_icmp .ne 7, 3) := by decide +kernel
theorem dX7_not5_93 : decode cX7_not5 93 = .ok (.iconst 1, 1) := by decide +kernel
theorem dX7_not5_94 : decode cX7_not5 94 = .ok (.goto 4, 3) := by decide +kernel
theorem dX7_not5_97 : decode cX7_not5 97 = .ok (.iconst 0, 1) := by decide +kernel
theorem dX7_not5_98 : decode cX7_not5 98 = .ok (.ireturn, 1) := by decide +kernel
theorem dX7_both5_0 : decode cX7_both5 0 = .ok (.aload_n 0, 1) := by decide +kernel
theorem dX7_both5_1 : decode cX7_both5 1 = .ok (.invokevirtual 231, 3) := by decide +kernel
theorem dX7_both5_4 : decode cX7_both5 4 = .ok (.istore_n 1, 1) := by decide +kernel
theorem dX7_both5_5 : decode cX7_both5 5 = .ok (.aload_n 0, 1) := by decide +kernel
theorem dX7_both5_6 : decode cX7_both5 6 = .ok (.bipush 97, 2) := by decide +kernel
theorem dX7_both5_8 : decode cX7_both5 8 = .ok (.bipush 110, 2) := by decide +kernel
theorem dX7_both5_10 : decode cX7_both5 10 = .ok (.bipush 100, 2) := by decide +kernel
theorem dX7_both5_12 : decode cX7_both5 12 = .ok (.iconst 0, 1) := by decide +kernel
theorem dX7_both5_13 : decode cX7_both5 13 = .ok (.iconst 0, 1) := by decide +kernel
theorem dX7_both5_14 : decode cX7_both5 14 = .ok (.iconst 0, 1) := by decide +kernel
theorem dX7_both5_15 : decode cX7_both5 15 = .ok (.iconst 0, 1) := by decide +kernel
theorem dX7_both5_16 : decode cX7_both5 16 = .ok (.iconst 0, 1) := by decide +kernel
theorem dX7_both5_17 : decode cX7_both5 17 = .ok (.invokevirtual 185, 3) := by decide +kernel
theorem dX7_both5_20 : decode cX7_both5 20 = .ok (.ifCond .eq 29, 3) := by decide +kernel
theorem dX7_both5_23 : decode cX7_both5 23 = .ok (.aload_n 0, 1) := by decide +kernel
theorem dX7_both5_24 : decode cX7_both5 24 = .ok (.invokevirtual 182, 3) := by decide +kernel
theorem dX7_both5_27 : decode cX7_both5 27 = .ok (.aload_n 0, 1) := by decide +kernel
theorem dX7_both5_28 : decode cX7_both5 28 = .ok (.invokevirtual 231, 3) := by decide +kernel
theorem dX7_both5_31 : decode cX7_both5 31 = .ok (.istore_n 2, 1) := by decide +kernel
theorem dX7_both5_32 : decode cX7_both5 32 = .ok (.iload_n 1, 1) := by decide +kernel
theorem dX7_both5_33 : decode cX7_both5 33 = .ok (.ifCond .eq 11, 3) := by decide +kernel
theorem dX7_both5_36 : decode cX7_both5 36 = .ok (.iload_n 2, 1) := by decide +kernel
theorem dX7_both5_37 : decode cX7_both5 37 = .ok (.ifCond .eq 7, 3) := by decide +kernel
theorem dX7_both5_40 : decode cX7_both5 40 = .ok (.iconst 1, 1) := by decide +kernel
theorem dX7_both5_41 : decode cX7_both5 41 = .ok (.goto 4, 3) := by decide +kernel
theorem dX7_both5_44 : decode cX7_both5 44 = .ok (.iconst 0, 1) := by decide +kernel
theorem dX7_both5_45 : decode cX7_both5 45 = .ok (.istore_n 1, 1) := by decide +kernel
theorem dX7_both5_46 : decode cX7_both5 46 = .ok (.goto (-41), 3) := by decide +kernel
theorem dX7_both5_49 : decode cX7_both5 49 = .ok (.iload_n 1, 1) := by decide +kernel
theorem dX7_both5_50 : decode cX7_both5 50 = .ok (.ireturn, 1) := by decide +kernel
theorem dX7_either5_0 : decode cX7_either5 0 = .ok (.aload_n 0, 1) := by decide +kernel
theorem dX7_either5_1 : decode cX7_either5 1 = .ok (.invokevirtual 234, 3) := by decide +kernel
theorem dX7_either5_4 : decode cX7_either5 4 = .ok (.istore_n 1, 1) := by decide +kernel
theorem dX7_either5_5 : decode cX7_either5 5 = .ok (.aload_n 0, 1) := by decide +kernel
theorem dX7_either5_6 : decode cX7_either5 6 = .ok (.bipush 111, 2) := by decide +kernel
theorem dX7_either5_8 : decode cX7_either5 8 = .ok (.bipush 114, 2) := by decide +kernel
theorem dX7_either5_10 : decode cX7_either5 10 = .ok (.iconst 0, 1) := by decide +kernel
theorem dX7_either5_11 : decode cX7_either5 11 = .ok (.iconst 0, 1) := by decide +kernel
theorem dX7_either5_12 : decode cX7_either5 12 = .ok (.iconst 0, 1) := by decide +kernel
theorem dX7_either5_13 : decode cX7_either5 13 = .ok (.iconst 0, 1) := by decide +kernel
theorem dX7_either5_14 : decode cX7_either5 14 = .ok (.iconst 0, 1) := by decide +kernel
theorem dX7_either5_15 : decode cX7_either5 15 = .ok (.iconst 0, 1) := by decide +kernel
theorem dX7_either5_16 : decode cX7_either5 16 = .ok (.invokevirtual 185, 3) := by decide +kernel
theorem dX7_either5_19 : decode cX7_either5 19 = .ok (.ifCond .eq 29, 3) := by decide +kernel
theorem dX7_either5_22 : decode cX7_either5 22 = .ok (.aload_n 0, 1) := by decide +kernel
theorem dX7_either5_23 : decode cX7_either5 23 = .ok (.invokevirtual 182, 3) := by decide +kernel
theorem dX7_either5_26 : decode cX7_either5 26 = .ok (.aload_n 0, 1) := by decide +kernel
theorem dX7_either5_27 : decode cX7_either5 27 = .ok (.invokevirtual 234, 3) := by decide +kernel
theorem dX7_either5_30 : decode cX7_either5 30 = .ok (.istore_n 2, 1) := by decide +kernel
theorem dX7_either5_31 : decode cX7_either5 31 = .ok (.iload_n 1, 1) := by decide +kernel
theorem dX7_either5_32 : decode cX7_either5 32 = .ok (.ifCond .ne 7, 3) := by decide +kernel
theorem dX7_either5_35 : decode cX7_either5 35 = .ok (.iload_n 2, 1) := by decide +kernel
theorem dX7_either5_36 : decode cX7_either5 36 = .ok (.ifCond .eq 7, 3) := by decide +kernel
theorem dX7_either5_39 : decode cX7_either5 39 = .ok (.iconst 1, 1) := by decide +kernel
theorem dX7_either5_40 : decode cX7_either5 40 = .ok (.goto 4, 3) := by decide +kernel
theorem dX7_either5_43 : decode cX7_either5 43 = .ok (.iconst 0, 1) := by decide +kernel
theorem dX7_either5_44 : decode cX7_either5 44 = .ok (.istore_n 1, 1) := by decide +kernel
theorem dX7_either5_45 : decode cX7_either5 45 = .ok (.goto (-40), 3) := by decide +kernel
theorem dX7_either5_48 : decode cX7_either5 48 = .ok (.iload_n 1, 1) := by decide +kernel
theorem dX7_either5_49 : decode cX7_either5 49 = .ok (.ireturn, 1) := by decide +kernel
theorem dX7_atom4_0 : decode cX7_atom4 0 = .ok (.iconst 0, 1) := by decide +kernel
theorem dX7_atom4_1 : decode cX7_atom4 1 = .ok (.istore_n 1, 1) := by decide +kernel
theorem dX7_atom4_2 : decode cX7_atom4 2 = .ok (.aload_n 0, 1) := by decide +kernel
theorem dX7_atom4_3 : decode cX7_atom4 3 = .ok (.bipush 45, 2) := by decide +kernel
theorem dX7_atom4_5 : decode cX7_atom4 5 = .ok (.invokevirtual 207, 3) := by decide +kernel
theorem dX7_atom4_8 : decode cX7_atom4 8 = .ok (.ifCond .eq 29, 3) := by decide +kernel
theorem dX7_atom4_11 : decode cX7_atom4 11 = .ok (.aload_n 0, 1) := by decide +kernel
theorem dX7_atom4_12 : decode cX7_atom4 12 = .ok (.invokevirtual 210, 3) := by decide +kernel
theorem dX7_atom4_15 : decode cX7_atom4 15 = .ok (.ifCond .eq 146, 3) := by decide +kernel
theorem dX7_atom4_18 : decode cX7_atom4 18 = .ok (.aload_n 0, 1) := by decide +kernel
theorem dX7_atom4_19 : decode cX7_atom4 19 = .ok (.invokevirtual 218, 3) := by decide +kernel
theorem dX7_atom4_22 : decode cX7_atom4 22 = .ok (.ineg, 1) := by decide +kernel
theorem dX7_atom4_23 : decode cX7_atom4 23 = .ok (.istore_n 1, 1) := by decide +kernel
theorem dX7_atom4_24 : decode cX7_atom4 24 = .ok (.aload_n 0, 1) := by decide +kernel
theorem dX7_atom4_25 : decode cX7_atom4 25 = .ok (.dup, 1) := by decide +kernel
theorem dX7_atom4_26 : decode cX7_atom4 26 = .ok (.getfield 176, 3) := by decide +kernel
theorem dX7_atom4_29 : decode cX7_atom4 29 = .ok (.iconst 1, 1) := by decide +kernel
theorem dX7_atom4_30 : decode cX7_atom4 30 = .ok (.isub, 1) := by decide +kernel
theorem dX7_atom4_31 : decode cX7_atom4 31 = .ok (.putfield 176, 3) := by decide +kernel
theorem dX7_atom4_34 : decode cX7_atom4 34 = .ok (.goto 127, 3) := by decide +kernel
theorem dX7_atom4_37 : decode cX7_atom4 37 = .ok (.aload_n 0, 1) := by decide +kernel
theorem dX7_atom4_38 : decode cX7_atom4 38 = .ok (.bipush 40, 2) := by decide +kernel
theorem dX7_atom4_40 : decode cX7_atom4 40 = .ok (.invokevirtual 207, 3) := by decide +kernel
theorem dX7_atom4_43 : decode cX7_atom4 43 = .ok (.ifCond .eq 52, 3) := by decide +kernel
theorem dX7_atom4_46 : decode cX7_atom4 46 = .ok (.aload_n 0, 1) := by decide +kernel
theorem dX7_atom4_47 : decode cX7_atom4 47 = .ok (.invokevirtual 210, 3) := by decide +kernel
theorem dX7_atom4_50 : decode cX7_atom4 50 = .ok (.ifCond .eq 111, 3) := by decide +kernel
theorem dX7_atom4_53 : decode cX7_atom4 53 = .ok (.aload_n 0, 1) := by decide +kernel
theorem dX7_atom4_54 : decode cX7_atom4 54 = .ok (.invokevirtual 237, 3) := by decide +kernel
theorem dX7_atom4_57 : decode cX7_atom4 57 = .ok (.istore_n 1, 1) := by decide +kernel
theorem dX7_atom4_58 : decode cX7_atom4 58 = .ok (.aload_n 0, 1) := by decide +kernel
theorem dX7_atom4_59 : decode cX7_atom4 59 = .ok (.bipush 41, 2) := by decide +kernel
theorem dX7_atom4_61 : decode cX7_atom4 61 = .ok (.invokevirtual 207, 3) := by decide +kernel
theorem dX7_atom4_64 : decode cX7_atom4 64 = .ok (.ifCond .ne 7, 3) := by decide +kernel
theorem dX7_atom4_67 : decode cX7_atom4 67 = .ok (.aload_n 0, 1) := by decide +kernel
theorem dX7_atom4_68 : decode cX7_atom4 68 = .ok (.invokevirtual 179, 3) := by decide +kernel
theorem dX7_atom4_71 : decode cX7_atom4 71 = .ok (.aload_n 0, 1) := by decide +kernel
theorem dX7_atom4_72 : decode cX7_atom4 72 = .ok (.dup, 1) := by decide +kernel
theorem dX7_atom4_73 : decode cX7_atom4 73 = .ok (.getfield 176, 3) := by decide +kernel
theorem dX7_atom4_76 : decode cX7_atom4 76 = .ok (.iconst 1, 1) := by decide +kernel
theorem dX7_atom4_77 : decode cX7_atom4 77 = .ok (.isub, 1) := by decide +kernel
theorem dX7_atom4_78 : decode cX7_atom4 78 = .ok (.putfield 176, 3) := by decide +kernel
theorem dX7_atom4_81 : decode cX7_atom4 81 = .ok (.aload_n 0, 1) := by decide +kernel
theorem dX7_atom4_82 : decode cX7_atom4 82 = .ok (.getfield 166, 3) := by decide +kernel
theorem dX7_atom4_85 : decode cX7_atom4 85 = .ok (.ifCond .ne 76, 3) := by decide +kernel
theorem dX7_atom4_88 : decode cX7_atom4 88 = .ok (.aload_n 0, 1) := by decide +kernel
theorem dX7_atom4_89 : decode cX7_atom4 89 = .ok (.invokevirtual 182, 3) := by decide +kernel
theorem dX7_atom4_92 : decode cX7_atom4 92 = .ok (.goto 69, 3) := by decide +kernel
theorem dX7_atom4_95 : decode cX7_atom4 95 = .ok (.aload_n 0, 1) := by decide +kernel
theorem dX7_atom4_96 : decode cX7_atom4 96 = .ok (.getfield 166, 3) := by decide +kernel
theorem dX7_atom4_99 : decode cX7_atom4 99 = .ok (.ifCond .ne 24, 3) := by decide +kernel
theorem dX7_atom4_102 : decode cX7_atom4 102 = .ok (.aload_n 0, 1) := by decide +kernel
theorem dX7_atom4_103 : decode cX7_atom4 103 = .ok (.getfield 149, 3) := by decide +kernel
theorem dX7_atom4_106 : decode cX7_atom4 106 = .ok (.iconst 2, 1) := by decide +kernel
theorem dX7_atom4_107 : decode cX7_atom4 107 = .ok (.if_icmp .ne 16, 3) := by decide +kernel
theorem dX7_atom4_110 : decode cX7_atom4 110 = .ok (.aload_n 0, 1) := by decide +kernel
theorem dX7_atom4_111 : decode cX7_atom4 111 = .ok (.getfield 160, 3) := by decide +kernel
theorem dX7_atom4_114 : decode cX7_atom4 114 = .ok (.l2i, 1) := by decide +kernel
theorem dX7_atom4_115 : decode cX7_atom4 115 = .ok (.istore_n 1, 1) := by decide +kernel
theorem dX7_atom4_116 : decode cX7_atom4 116 = .ok (.aload_n 0, 1) := by decide +kernel
theorem dX7_atom4_117 : decode cX7_atom4 117 = .ok (.invokevirtual 182, 3) := by decide +kernel
theorem dX7_atom4_120 : decode cX7_atom4 120 = .ok (.goto 41, 3) := by decide +kernel
theorem dX7_atom4_123 : decode cX7_atom4 123 = .ok (.aload_n 0, 1) := by decide +kernel
theorem dX7_atom4_124 : decode cX7_atom4 124 = .ok (.getfield 166, 3) := by decide +kernel
theorem dX7_atom4_127 : decode cX7_atom4 127 = .ok (.ifCond .ne 30, 3) := by decide +kernel
theorem dX7_atom4_130 : decode cX7_atom4 130 = .ok (.aload_n 0, 1) := by decide +kernel
theorem dX7_atom4_131 : decode cX7_atom4 131 = .ok (.getfield 149, 3) := by decide +kernel
theorem dX7_atom4_134 : decode cX7_atom4 134 = .ok (.iconst 1, 1) := by decide +kernel
theorem dX7_atom4_135 : decode cX7_atom4 135 = .ok (.if_icmp .ne 22, 3) := by decide +kernel
theorem dX7_atom4_138 : decode cX7_atom4 138 = .ok (.aload_n 0, 1) := by decide +kernel
theorem dX7_atom4_139 : decode cX7_atom4 139 = .ok (.invokevirtual 214, 3) := by decide +kernel
theorem dX7_atom4_142 : decode cX7_atom4 142 = .ok (.istore_n 1, 1) := by decide +kernel
theorem dX7_atom4_143 : decode cX7_atom4 143 = .ok (.aload_n 0, 1) := by decide +kernel
theorem dX7_atom4_144 : decode cX7_atom4 144 = .ok (.getfield 166, 3) := by decide +kernel
theorem dX7_atom4_147 : decode cX7_atom4 147 = .ok (.ifCond .ne 14, 3) := by decide +kernel
theorem dX7_atom4_150 : decode cX7_atom4 150 = .ok (.aload_n 0, 1) := by decide +kernel
theorem dX7_atom4_151 : decode cX7_atom4 151 = .ok (.invokevirtual 182, 3) := by decide +kernel
theorem dX7_atom4_154 : decode cX7_atom4 154 = .ok (.goto 7, 3) := by decide +kernel
theorem dX7_atom4_157 : decode cX7_atom4 157 = .ok (.aload_n 0, 1) := by decide +kernel
theorem dX7_atom4_158 : decode cX7_atom4 158 = .ok (.invokevirtual 179, 3) := by decide +kernel
theorem dX7_atom4_161 : decode cX7_atom4 161 = .ok (.iload_n 1, 1) := by decide +kernel
theorem dX7_atom4_162 : decode cX7_atom4 162 = .ok (.ireturn, 1) := by decide +kernel
theorem dX7_term4_0 : decode cX7_term4 0 = .ok (.aload_n 0, 1) := by decide +kernel
theorem dX7_term4_1 : decode cX7_term4 1 = .ok (.invokevirtual 240, 3) := by decide +kernel
theorem dX7_term4_4 : decode cX7_term4 4 = .ok (.istore_n 1, 1) := by decide +kernel
theorem dX7_term4_5 : decode cX7_term4 5 = .ok (.aload_n 0, 1) := by decide +kernel
theorem dX7_term4_6 : decode cX7_term4 6 = .ok (.bipush 42, 2) := by decide +kernel
theorem dX7_term4_8 : decode cX7_term4 8 = .ok (.invokevirtual 207, 3) := by decide +kernel
theorem dX7_term4_11 : decode cX7_term4 11 = .ok (.ifCond .eq 17, 3) := by decide +kernel
theorem dX7_term4_14 : decode cX7_term4 14 = .ok (.aload_n 0, 1) := by decide +kernel
theorem dX7_term4_15 : decode cX7_term4 15 = .ok (.invokevirtual 182, 3) := by decide +kernel
theorem dX7_term4_18 : decode cX7_term4 18 = .ok (.iload_n 1, 1) := by decide +kernel
theorem dX7_term4_19 : decode cX7_term4 19 = .ok (.aload_n 0, 1) := by decide +kernel
theorem dX7_term4_20 : decode cX7_term4 20 = .ok (.invokevirtual 240, 3) := by decide +kernel
theorem dX7_term4_23 : decode cX7_term4 23 = .ok (.imul, 1) := by decide +kernel
theorem dX7_term4_24 : decode cX7_term4 24 = .ok (.istore_n 1, 1) := by decide +kernel
theorem dX7_term4_25 : decode cX7_term4 25 = .ok (.goto (-20), 3) := by decide +kernel
theorem dX7_term4_28 : decode cX7_term4 28 = .ok (.iload_n 1, 1) := by decide +kernel
theorem dX7_term4_29 : decode cX7_term4 29 = .ok (.ireturn, 1) := by decide +kernel
theorem dX7_added4_0 : decode cX7_added4 0 = .ok (.aload_n 0, 1) := by decide +kernel
theorem dX7_added4_1 : decode cX7_added4 1 = .ok (.invokevirtual 243, 3) := by decide +kernel
theorem dX7_added4_4 : decode cX7_added4 4 = .ok (.istore_n 1, 1) := by decide +kernel
theorem dX7_added4_5 : decode cX7_added4 5 = .ok (.aload_n 0, 1) := by decide +kernel
theorem dX7_added4_6 : decode cX7_added4 6 = .ok (.bipush 43, 2) := by decide +kernel
theorem dX7_added4_8 : decode cX7_added4 8 = .ok (.invokevirtual 207, 3) := by decide +kernel
theorem dX7_added4_11 : decode cX7_added4 11 = .ok (.ifCond .ne 12, 3) := by decide +kernel
theorem dX7_added4_14 : decode cX7_added4 14 = .ok (.aload_n 0, 1) := by decide +kernel
theorem dX7_added4_15 : decode cX7_added4 15 = .ok (.bipush 45, 2) := by decide +kernel
theorem dX7_added4_17 : decode cX7_added4 17 = .ok (.invokevirtual 207, 3) := by decide +kernel
theorem dX7_added4_20 : decode cX7_added4 20 = .ok (.ifCond .eq 46, 3) := by decide +kernel
theorem dX7_added4_23 : decode cX7_added4 23 = .ok (.aload_n 0, 1) := by decide +kernel
theorem dX7_added4_24 : decode cX7_added4 24 = .ok (.getfield 160, 3) := by decide +kernel
theorem dX7_added4_27 : decode cX7_added4 27 = .ok (.ldc2_w 224, 3) := by decide +kernel
theorem dX7_added4_30 : decode cX7_added4 30 = .ok (.lcmp, 1) := by decide +kernel
theorem dX7_added4_31 : decode cX7_added4 31 = .ok (.ifCond .ne 7, 3) := by decide +kernel
theorem dX7_added4_34 : decode cX7_added4 34 = .ok (.iconst 1, 1) := by decide +kernel
theorem dX7_added4_35 : decode cX7_added4 35 = .ok (.goto 4, 3) := by decide +kernel
theorem dX7_added4_38 : decode cX7_added4 38 = .ok (.iconst 0, 1) := by decide +kernel
theorem dX7_added4_39 : decode cX7_added4 39 = .ok (.istore_n 2, 1) := by decide +kernel
theorem dX7_added4_40 : decode cX7_added4 40 = .ok (.aload_n 0, 1) := by decide +kernel
theorem dX7_added4_41 : decode cX7_added4 41 = .ok (.invokevirtual 182, 3) := by decide +kernel
theorem dX7_added4_44 : decode cX7_added4 44 = .ok (.aload_n 0, 1) := by decide +kernel
theorem dX7_added4_45 : decode cX7_added4 45 = .ok (.invokevirtual 243, 3) := by decide +kernel
theorem dX7_added4_48 : decode cX7_added4 48 = .ok (.istore_n 3, 1) := by decide +kernel
theorem dX7_added4_49 : decode cX7_added4 49 = .ok (.iload_n 2, 1) := by decide +kernel
theorem dX7_added4_50 : decode cX7_added4 50 = .ok (.ifCond .eq 9, 3) := by decide +kernel
theorem dX7_added4_53 : decode cX7_added4 53 = .ok (.iload_n 1, 1) := by decide +kernel
theorem dX7_added4_54 : decode cX7_added4 54 = .ok (.iload_n 3, 1) := by decide +kernel
theorem dX7_added4_55 : decode cX7_added4 55 = .ok (.iadd, 1) := by decide +kernel
theorem dX7_added4_56 : decode cX7_added4 56 = .ok (.goto 6, 3) := by decide +kernel
theorem dX7_added4_59 : decode cX7_added4 59 = .ok (.iload_n 1, 1) := by decide +kernel
theorem dX7_added4_60 : decode cX7_added4 60 = .ok (.iload_n 3, 1) := by decide +kernel
theorem dX7_added4_61 : decode cX7_added4 61 = .ok (.isub, 1) := by decide +kernel
theorem dX7_added4_62 : decode cX7_added4 62 = .ok (.istore_n 1, 1) := by decide +kernel
theorem dX7_added4_63 : decode cX7_added4 63 = .ok (.goto (-58), 3) := by decide +kernel
theorem dX7_added4_66 : decode cX7_added4 66 = .ok (.iload_n 1, 1) := by decide +kernel
theorem dX7_added4_67 : decode cX7_added4 67 = .ok (.ireturn, 1) := by decide +kernel
theorem dX7_not4_0 : decode cX7_not4 0 = .ok (.aload_n 0, 1) := by decide +kernel
theorem dX7_not4_1 : decode cX7_not4 1 = .ok (.bipush 110, 2) := by decide +kernel
theorem dX7_not4_3 : decode cX7_not4 3 = .ok (.bipush 111, 2) := by decide +kernel
theorem dX7_not4_5 : decode cX7_not4 5 = .ok (.bipush 116, 2) := by decide +kernel
theorem dX7_not4_7 : decode cX7_not4 7 = .ok (.iconst 0, 1) := by decide +kernel
theorem dX7_not4_8 : decode cX7_not4 8 = .ok (.iconst 0, 1) := by decide +kernel
theorem dX7_not4_9 : decode cX7_not4 9 = .ok (.iconst 0, 1) := by decide +kernel
theorem dX7_not4_10 : decode cX7_not4 10 = .ok (.iconst 0, 1) := by decide +kernel
theorem dX7_not4_11 : decode cX7_not4 11 = .ok (.iconst 0, 1) := by decide +kernel
theorem dX7_not4_12 : decode cX7_not4 12 = .ok (.invokevirtual 185, 3) := by decide +kernel
theorem dX7_not4_15 : decode cX7_not4 15 = .ok (.ifCond .eq 37, 3) := by decide +kernel
theorem dX7_not4_18 : decode cX7_not4 18 = .ok (.aload_n 0, 1) := by decide +kernel
theorem dX7_not4_19 : decode cX7_not4 19 = .ok (.invokevirtual 210, 3) := by decide +kernel
theorem dX7_not4_22 : decode cX7_not4 22 = .ok (.ifCond .ne 5, 3) := by decide +kernel
theorem dX7_not4_25 : decode cX7_not4 25 = .ok (.iconst 0, 1) := by decide +kernel
theorem dX7_not4_26 : decode cX7_not4 26 = .ok (.ireturn, 1) := by decide +kernel
theorem dX7_not4_27 : decode cX7_not4 27 = .ok (.aload_n 0, 1) := by decide +kernel
theorem dX7_not4_28 : decode cX7_not4 28 = .ok (.invokevirtual 231, 3) := by decide +kernel
theorem dX7_not4_31 : decode cX7_not4 31 = .ok (.istore_n 1, 1) := by decide +kernel
theorem dX7_not4_32 : decode cX7_not4 32 = .ok (.aload_n 0, 1) := by decide +kernel
theorem dX7_not4_33 : decode cX7_not4 33 = .ok (.dup, 1) := by decide +kernel
theorem dX7_not4_34 : decode cX7_not4 34 = .ok (.getfield 176, 3) := by decide +kernel
theorem dX7_not4_37 : decode cX7_not4 37 = .ok (.iconst 1, 1) := by decide +kernel
theorem dX7_not4_38 : decode cX7_not4 38 = .ok (.isub, 1) := by decide +kernel
theorem dX7_not4_39 : decode cX7_not4 39 = .ok (.putfield 176, 3) := by decide +kernel
theorem dX7_not4_42 : decode cX7_not4 42 = .ok (.iload_n 1, 1) := by decide +kernel
theorem dX7_not4_43 : decode cX7_not4 43 = .ok (.ifCond .ne 7, 3) := by decide +kernel
theorem dX7_not4_46 : decode cX7_not4 46 = .ok (.iconst 1, 1) := by decide +kernel
theorem dX7_not4_47 : decode cX7_not4 47 = .ok (.goto 4, 3) := by decide +kernel
theorem dX7_not4_50 : decode cX7_not4 50 = .ok (.iconst 0, 1) := by decide +kernel
theorem dX7_not4_51 : decode cX7_not4 51 = .ok (.ireturn, 1) := by decide +kernel
theorem dX7_not4_52 : decode cX7_not4 52 = .ok (.aload_n 0, 1) := by decide +kernel
theorem dX7_not4_53 : decode cX7_not4 53 = .ok (.invokevirtual 246, 3) := by decide +kernel
theorem dX7_not4_56 : decode cX7_not4 56 = .ok (.istore_n 1, 1) := by decide +kernel
theorem dX7_not4_57 : decode cX7_not4 57 = .ok (.aload_n 0, 1) := by decide +kernel
theorem dX7_not4_58 : decode cX7_not4 58 = .ok (.bipush 60, 2) := by decide +kernel
theorem dX7_not4_60 : decode cX7_not4 60 = .ok (.invokevirtual 207, 3) := by decide +kernel
theorem dX7_not4_63 : decode cX7_not4 63 = .ok (.ifCond .ne 14, 3) := by decide +kernel
theorem dX7_not4_66 : decode cX7_not4 66 = .ok (.aload_n 0, 1) := by decide +kernel
theorem dX7_not4_67 : decode cX7_not4 67 = .ok (.bipush 61, 2) := by decide +kernel
theorem dX7_not4_69 : decode cX7_not4 69 = .ok (.invokevirtual 207, 3) := by decide +kernel
theorem dX7_not4_72 : decode cX7_not4 72 = .ok (.ifCond .ne 5, 3) := by decide +kernel
theorem dX7_not4_75 : decode cX7_not4 75 = .ok (.iload_n 1, 1) := by decide +kernel
theorem dX7_not4_76 : decode cX7_not4 76 = .ok (.ireturn, 1) := by decide +kernel
theorem dX7_not4_77 : decode cX7_not4 77 = .ok (.aload_n 0, 1) := by decide +kernel
theorem dX7_not4_78 : decode cX7_not4 78 = .ok (.getfield 160, 3) := by decide +kernel
theorem dX7_not4_81 : decode cX7_not4 81 = .ok (.ldc2_w 229, 3) := by decide +kernel
theorem dX7_not4_84 : decode cX7_not4 84 = .ok (.lcmp, 1) := by decide +kernel
theorem dX7_not4_85 : decode cX7_not4 85 = .ok (.ifCond .ne 7, 3) := by decide +kernel
theorem dX7_not4_88 : decode cX7_not4 88 = .ok (.iconst 1, 1) := by decide +kernel
theorem dX7_not4_89 : decode cX7_not4 89 = .ok (.goto 4, 3) := by decide +kernel
theorem dX7_not4_92 : decode cX7_not4 92 = .ok (.iconst 0, 1) := by decide +kernel
theorem dX7_not4_93 : decode cX7_not4 93 = .ok (.istore_n 2, 1) := by decide +kernel
theorem dX7_not4_94 : decode cX7_not4 94 = .ok (.aload_n 0, 1) := by decide +kernel
theorem dX7_not4_95 : decode cX7_not4 95 = .ok (.invokevirtual 182, 3) := by decide +kernel
theorem dX7_not4_98 : decode cX7_not4 98 = .ok (.aload_n 0, 1) := by decide +kernel
theorem dX7_not4_99 : decode cX7_not4 99 = .ok (.invokevirtual 246, 3) := by decide +kernel
theorem dX7_not4_102 : decode cX7_not4 102 = .ok (.istore_n 3, 1) := by decide +kernel
theorem dX7_not4_103 : decode cX7_not4 103 = .ok (.iload_n 2, 1) := by decide +kernel
theorem dX7_not4_104 : decode cX7_not4 104 = .ok (.ifCond .eq 11, 3) := by decide +kernel
theorem dX7_not4_107 : decode cX7_not4 107 = .ok (.iload_n 1, 1) := by decide +kernel
theorem dX7_not4_108 : decode cX7_not4 108 = .ok (.iload_n 3, 1) := by decide +kernel
theorem dX7_not4_109 : decode cX7_not4 109 = .ok (.if_icmp .ge 15, 3) := by decide +kernel
theorem dX7_not4_112 : decode cX7_not4 112 = .ok (.goto 8, 3) := by decide +kernel
theorem dX7_not4_115 : decode cX7_not4 115 = .ok (.iload_n 1, 1) := by decide +kernel
theorem dX7_not4_116 : decode cX7_not4 116 = .ok (.iload_n 3, 1) := by decide +kernel
theorem dX7_not4_117 : decode cX7_not4 117 = .ok (.if_icmp .ne 7, 3) := by decide +kernel
theorem dX7_not4_120 : decode cX7_not4 120 = .ok (.iconst 1, 1) := by decide +kernel
theorem dX7_not4_121 : decode cX7_not4 121 = .ok (.goto 4, 3) := by decide +kernel
theorem dX7_not4_124 : decode cX7_not4 124 = .ok (.iconst 0, 1) := by decide +kernel
theorem dX7_not4_125 : decode cX7_not4 125 = .ok (.ireturn, 1) := by decide +kernel
theorem dX7_both4_0 : decode cX7_both4 0 = .ok (.aload_n 0, 1) := by decide +kernel
theorem dX7_both4_1 : decode cX7_both4 1 = .ok (.invokevirtual 249, 3) := by decide +kernel
theorem dX7_both4_4 : decode cX7_both4 4 = .ok (.istore_n 1, 1) := by decide +kernel
theorem dX7_both4_5 : decode cX7_both4 5 = .ok (.aload_n 0, 1) := by decide +kernel
theorem dX7_both4_6 : decode cX7_both4 6 = .ok (.bipush 97, 2) := by decide +kernel
theorem dX7_both4_8 : decode cX7_both4 8 = .ok (.bipush 110, 2) := by decide +kernel
theorem dX7_both4_10 : decode cX7_both4 10 = .ok (.bipush 100, 2) := by decide +kernel
theorem dX7_both4_12 : decode cX7_both4 12 = .ok (.iconst 0, 1) := by decide +kernel
theorem dX7_both4_13 : decode cX7_both4 13 = .ok (.iconst 0, 1) := by decide +kernel
theorem dX7_both4_14 : decode cX7_both4 14 = .ok (.iconst 0, 1) := by decide +kernel
theorem dX7_both4_15 : decode cX7_both4 15 = .ok (.iconst 0, 1) := by decide +kernel
theorem dX7_both4_16 : decode cX7_both4 16 = .ok (.iconst 0, 1) := by decide +kernel
theorem dX7_both4_17 : decode cX7_both4 17 = .ok (.invokevirtual 185, 3) := by decide +kernel
theorem dX7_both4_20 : decode cX7_both4 20 = .ok (.ifCond .eq 29, 3) := by decide +kernel
theorem dX7_both4_23 : decode cX7_both4 23 = .ok (.aload_n 0, 1) := by decide +kernel
theorem dX7_both4_24 : decode cX7_both4 24 = .ok (.invokevirtual 182, 3) := by decide +kernel
theorem dX7_both4_27 : decode cX7_both4 27 = .ok (.aload_n 0, 1) := by decide +kernel
theorem dX7_both4_28 : decode cX7_both4 28 = .ok (.invokevirtual 249, 3) := by decide +kernel
theorem dX7_both4_31 : decode cX7_both4 31 = .ok (.istore_n 2, 1) := by decide +kernel
theorem dX7_both4_32 : decode cX7_both4 32 = .ok (.iload_n 1, 1) := by decide +kernel
theorem dX7_both4_33 : decode cX7_both4 33 = .ok (.ifCond .eq 11, 3) := by decide +kernel
theorem dX7_both4_36 : decode cX7_both4 36 = .ok (.iload_n 2, 1) := by decide +kernel
theorem dX7_both4_37 : decode cX7_both4 37 = .ok (.ifCond .eq 7, 3) := by decide +kernel
theorem dX7_both4_40 : decode cX7_both4 40 = .ok (.iconst 1, 1) := by decide +kernel
theorem dX7_both4_41 : decode cX7_both4 41 = .ok (.goto 4, 3) := by decide +kernel
theorem dX7_both4_44 : decode cX7_both4 44 = .ok (.iconst 0, 1) := by decide +kernel
theorem dX7_both4_45 : decode cX7_both4 45 = .ok (.istore_n 1, 1) := by decide +kernel
theorem dX7_both4_46 : decode cX7_both4 46 = .ok (.goto (-41), 3) := by decide +kernel
theorem dX7_both4_49 : decode cX7_both4 49 = .ok (.iload_n 1, 1) := by decide +kernel
theorem dX7_both4_50 : decode cX7_both4 50 = .ok (.ireturn, 1) := by decide +kernel
theorem dX7_either4_0 : decode cX7_either4 0 = .ok (.aload_n 0, 1) := by decide +kernel
theorem dX7_either4_1 : decode cX7_either4 1 = .ok (.invokevirtual 252, 3) := by decide +kernel
theorem dX7_either4_4 : decode cX7_either4 4 = .ok (.istore_n 1, 1) := by decide +kernel
theorem dX7_either4_5 : decode cX7_either4 5 = .ok (.aload_n 0, 1) := by decide +kernel
theorem dX7_either4_6 : decode cX7_either4 6 = .ok (.bipush 111, 2) := by decide +kernel
theorem dX7_either4_8 : decode cX7_either4 8 = .ok (.bipush 114, 2) := by decide +kernel
theorem dX7_either4_10 : decode cX7_either4 10 = .ok (.iconst 0, 1) := by decide +kernel
theorem dX7_either4_11 : decode cX7_either4 11 = .ok (.iconst 0, 1) := by decide +kernel
theorem dX7_either4_12 : decode cX7_either4 12 = .ok (.iconst 0, 1) := by decide +kernel
theorem dX7_either4_13 : decode cX7_either4 13 = .ok (.iconst 0, 1) := by decide +kernel
theorem dX7_either4_14 : decode cX7_either4 14 = .ok (.iconst 0, 1) := by decide +kernel
theorem dX7_either4_15 : decode cX7_either4 15 = .ok (.iconst 0, 1) := by decide +kernel
theorem dX7_either4_16 : decode cX7_either4 16 = .ok (.invokevirtual 185, 3) := by decide +kernel
theorem dX7_either4_19 : decode cX7_either4 19 = .ok (.ifCond .eq 29, 3) := by decide +kernel
theorem dX7_either4_22 : decode cX7_either4 22 = .ok (.aload_n 0, 1) := by decide +kernel
theorem dX7_either4_23 : decode cX7_either4 23 = .ok (.invokevirtual 182, 3) := by decide +kernel
theorem dX7_either4_26 : decode cX7_either4 26 = .ok (.aload_n 0, 1) := by decide +kernel
theorem dX7_either4_27 : decode cX7_either4 27 = .ok (.invokevirtual 252, 3) := by decide +kernel
theorem dX7_either4_30 : decode cX7_either4 30 = .ok (.istore_n 2, 1) := by decide +kernel
theorem dX7_either4_31 : decode cX7_either4 31 = .ok (.iload_n 1, 1) := by decide +kernel
theorem dX7_either4_32 : decode cX7_either4 32 = .ok (.ifCond .ne 7, 3) := by decide +kernel
theorem dX7_either4_35 : decode cX7_either4 35 = .ok (.iload_n 2, 1) := by decide +kernel
theorem dX7_either4_36 : decode cX7_either4 36 = .ok (.ifCond .eq 7, 3) := by decide +kernel
theorem dX7_either4_39 : decode cX7_either4 39 = .ok (.iconst 1, 1) := by decide +kernel
theorem dX7_either4_40 : decode cX7_either4 40 = .ok (.goto 4, 3) := by decide +kernel
theorem dX7_either4_43 : decode cX7_either4 43 = .ok (.iconst 0, 1) := by decide +kernel
theorem dX7_either4_44 : decode cX7_either4 44 = .ok (.istore_n 1, 1) := by decide +kernel
theorem dX7_either4_45 : decode cX7_either4 45 = .ok (.goto (-40), 3) := by decide +kernel
theorem dX7_either4_48 : decode cX7_either4 48 = .ok (.iload_n 1, 1) := by decide +kernel
theorem dX7_either4_49 : decode cX7_either4 49 = .ok (.ireturn, 1) := by decide +kernel
theorem dX7_atom3_0 : decode cX7_atom3 0 = .ok (.iconst 0, 1) := by decide +kernel
theorem dX7_atom3_1 : decode cX7_atom3 1 = .ok (.istore_n 1, 1) := by decide +kernel
theorem dX7_atom3_2 : decode cX7_atom3 2 = .ok (.aload_n 0, 1) := by decide +kernel
theorem dX7_atom3_3 : decode cX7_atom3 3 = .ok (.bipush 45, 2) := by decide +kernel
theorem dX7_atom3_5 : decode cX7_atom3 5 = .ok (.invokevirtual 207, 3) := by decide +kernel
theorem dX7_atom3_8 : decode cX7_atom3 8 = .ok (.ifCond .eq 29, 3) := by decide +kernel
theorem dX7_atom3_11 : decode cX7_atom3 11 = .ok (.aload_n 0, 1) := by decide +kernel
theorem dX7_atom3_12 : decode cX7_atom3 12 = .ok (.invokevirtual 210, 3) := by decide +kernel
theorem dX7_atom3_15 : decode cX7_atom3 15 = .ok (.ifCond .eq 146, 3) := by decide +kernel
theorem dX7_atom3_18 : decode cX7_atom3 18 = .ok (.aload_n 0, 1) := by decide +kernel
theorem dX7_atom3_19 : decode cX7_atom3 19 = .ok (.invokevirtual 240, 3) := by decide +kernel
theorem dX7_atom3_22 : decode cX7_atom3 22 = .ok (.ineg, 1) := by decide +kernel
theorem dX7_atom3_23 : decode cX7_atom3 23 = .ok (.istore_n 1, 1) := by decide +kernel
theorem dX7_atom3_24 : decode cX7_atom3 24 = .ok (.aload_n 0, 1) := by decide +kernel
theorem dX7_atom3_25 : decode cX7_atom3 25 = .ok (.dup, 1) := by decide +kernel
theorem dX7_atom3_26 : decode cX7_atom3 26 = .ok (.getfield 176, 3) := by decide +kernel
theorem dX7_atom3_29 : decode cX7_atom3 29 = .ok (.iconst 1, 1) := by decide +kernel
theorem dX7_atom3_30 : decode cX7_atom3 30 = .ok (.isub, 1) := by decide +kernel
theorem dX7_atom3_31 : decode cX7_atom3 31 = .ok (.putfield 176, 3) := by decide +kernel
theorem dX7_atom3_34 : decode cX7_atom3 34 = .ok (.goto 127, 3) := by decide +kernel
theorem dX7_atom3_37 : decode cX7_atom3 37 = .ok (.aload_n 0, 1) := by decide +kernel
theorem dX7_atom3_38 : decode cX7_atom3 38 = .ok (.bipush 40, 2) := by decide +kernel
theorem dX7_atom3_40 : decode cX7_atom3 40 = .ok (.invokevirtual 207, 3) := by decide +kernel
theorem dX7_atom3_43 : decode cX7_atom3 43 = .ok (.ifCond .eq 52, 3) := by decide +kernel
theorem dX7_atom3_46 : decode cX7_atom3 46 = .ok (.aload_n 0, 1) := by decide +kernel
theorem dX7_atom3_47 : decode cX7_atom3 47 = .ok (.invokevirtual 210, 3) := by decide +kernel
theorem dX7_atom3_50 : decode cX7_atom3 50 = .ok (.ifCond .eq 111, 3) := by decide +kernel
theorem dX7_atom3_53 : decode cX7_atom3 53 = .ok (.aload_n 0, 1) := by decide +kernel
theorem dX7_atom3_54 : decode cX7_atom3 54 = .ok (.invokevirtual 255, 3) := by decide +kernel
theorem dX7_atom3_57 : decode cX7_atom3 57 = .ok (.istore_n 1, 1) := by decide +kernel
theorem dX7_atom3_58 : decode cX7_atom3 58 = .ok (.aload_n 0, 1) := by decide +kernel
theorem dX7_atom3_59 : decode cX7_atom3 59 = .ok (.bipush 41, 2) := by decide +kernel
theorem dX7_atom3_61 : decode cX7_atom3 61 = .ok (.invokevirtual 207, 3) := by decide +kernel
theorem dX7_atom3_64 : decode cX7_atom3 64 = .ok (.ifCond .ne 7, 3) := by decide +kernel
theorem dX7_atom3_67 : decode cX7_atom3 67 = .ok (.aload_n 0, 1) := by decide +kernel
theorem dX7_atom3_68 : decode cX7_atom3 68 = .ok (.invokevirtual 179, 3) := by decide +kernel
theorem dX7_atom3_71 : decode cX7_atom3 71 = .ok (.aload_n 0, 1) := by decide +kernel
theorem dX7_atom3_72 : decode cX7_atom3 72 = .ok (.dup, 1) := by decide +kernel
theorem dX7_atom3_73 : decode cX7_atom3 73 = .ok (.getfield 176, 3) := by decide +kernel
theorem dX7_atom3_76 : decode cX7_atom3 76 = .ok (.iconst 1, 1) := by decide +kernel
theorem dX7_atom3_77 : decode cX7_atom3 77 = .ok (.isub, 1) := by decide +kernel
theorem dX7_atom3_78 : decode cX7_atom3 78 = .ok (.putfield 176, 3) := by decide +kernel
theorem dX7_atom3_81 : decode cX7_atom3 81 = .ok (.aload_n 0, 1) := by decide +kernel
theorem dX7_atom3_82 : decode cX7_atom3 82 = .ok (.getfield 166, 3) := by decide +kernel
theorem dX7_atom3_85 : decode cX7_atom3 85 = .ok (.ifCond .ne 76, 3) := by decide +kernel
theorem dX7_atom3_88 : decode cX7_atom3 88 = .ok (.aload_n 0, 1) := by decide +kernel
theorem dX7_atom3_89 : decode cX7_atom3 89 = .ok (.invokevirtual 182, 3) := by decide +kernel
theorem dX7_atom3_92 : decode cX7_atom3 92 = .ok (.goto 69, 3) := by decide +kernel
theorem dX7_atom3_95 : decode cX7_atom3 95 = .ok (.aload_n 0, 1) := by decide +kernel
theorem dX7_atom3_96 : decode cX7_atom3 96 = .ok (.getfield 166, 3) := by decide +kernel
theorem dX7_atom3_99 : decode cX7_atom3 99 = .ok (.ifCond .ne 24, 3) := by decide +kernel
theorem dX7_atom3_102 : decode cX7_atom3 102 = .ok (.aload_n 0, 1) := by decide +kernel
theorem dX7_atom3_103 : decode cX7_atom3 103 = .ok (.getfield 149, 3) := by decide +kernel
theorem dX7_atom3_106 : decode cX7_atom3 106 = .ok (.iconst 2, 1) := by decide +kernel
theorem dX7_atom3_107 : decode cX7_atom3 107 = .ok (.if_icmp .ne 16, 3) := by decide +kernel
theorem dX7_atom3_110 : decode cX7_atom3 110 = .ok (.aload_n 0, 1) := by decide +kernel
theorem dX7_atom3_111 : decode cX7_atom3 111 = .ok (.getfield 160, 3) := by decide +kernel
theorem dX7_atom3_114 : decode cX7_atom3 114 = .ok (.l2i, 1) := by decide +kernel
theorem dX7_atom3_115 : decode cX7_atom3 115 = .ok (.istore_n 1, 1) := by decide +kernel
theorem dX7_atom3_116 : decode cX7_atom3 116 = .ok (.aload_n 0, 1) := by decide +kernel
theorem dX7_atom3_117 : decode cX7_atom3 117 = .ok (.invokevirtual 182, 3) := by decide +kernel
theorem dX7_atom3_120 : decode cX7_atom3 120 = .ok (.goto 41, 3) := by decide +kernel
theorem dX7_atom3_123 : decode cX7_atom3 123 = .ok (.aload_n 0, 1) := by decide +kernel
theorem dX7_atom3_124 : decode cX7_atom3 124 = .ok (.getfield 166, 3) := by decide +kernel
theorem dX7_atom3_127 : decode cX7_atom3 127 = .ok (.ifCond .ne 30, 3) := by decide +kernel
theorem dX7_atom3_130 : decode cX7_atom3 130 = .ok (.aload_n 0, 1) := by decide +kernel
theorem dX7_atom3_131 : decode cX7_atom3 131 = .ok (.getfield 149, 3) := by decide +kernel
theorem dX7_atom3_134 : decode cX7_atom3 134 = .ok (.iconst 1, 1) := by decide +kernel
theorem dX7_atom3_135 : decode cX7_atom3 135 = .ok (.if_icmp .ne 22, 3) := by decide +kernel
theorem dX7_atom3_138 : decode cX7_atom3 138 = .ok (.aload_n 0, 1) := by decide +kernel
theorem dX7_atom3_139 : decode cX7_atom3 139 = .ok (.invokevirtual 214, 3) := by decide +kernel
theorem dX7_atom3_142 : decode cX7_atom3 142 = .ok (.istore_n 1, 1) := by decide +kernel
theorem dX7_atom3_143 : decode cX7_atom3 143 = .ok (.aload_n 0, 1) := by decide +kernel
theorem dX7_atom3_144 : decode cX7_atom3 144 = .ok (.getfield 166, 3) := by decide +kernel
theorem dX7_atom3_147 : decode cX7_atom3 147 = .ok (.ifCond .ne 14, 3) := by decide +kernel
theorem dX7_atom3_150 : decode cX7_atom3 150 = .ok (.aload_n 0, 1) := by decide +kernel
theorem dX7_atom3_151 : decode cX7_atom3 151 = .ok (.invokevirtual 182, 3) := by decide +kernel
theorem dX7_atom3_154 : decode cX7_atom3 154 = .ok (.goto 7, 3) := by decide +kernel
theorem dX7_atom3_157 : decode cX7_atom3 157 = .ok (.aload_n 0, 1) := by decide +kernel
theorem dX7_atom3_158 : decode cX7_atom3 158 = .ok (.invokevirtual 179, 3) := by decide +kernel
theorem dX7_atom3_161 : decode cX7_atom3 161 = .ok (.iload_n 1, 1) := by decide +kernel
theorem dX7_atom3_162 : decode cX7_atom3 162 = .ok (.ireturn, 1) := by decide +kernel
theorem dX7_term3_0 : decode cX7_term3 0 = .ok (.aload_n 0, 1) := by decide +kernel
theorem dX7_term3_1 : decode cX7_term3 1 = .ok (.invokevirtual 258, 3) := by decide +kernel
theorem dX7_term3_4 : decode cX7_term3 4 = .ok (.istore_n 1, 1) := by decide +kernel
theorem dX7_term3_5 : decode cX7_term3 5 = .ok (.aload_n 0, 1) := by decide +kernel
theorem dX7_term3_6 : decode cX7_term3 6 = .ok (.bipush 42, 2) := by decide +kernel
theorem dX7_term3_8 : decode cX7_term3 8 = .ok (.invokevirtual 207, 3) := by decide +kernel
theorem dX7_term3_11 : decode cX7_term3 11 = .ok (.ifCond .eq 17, 3) := by decide +kernel
theorem dX7_term3_14 : decode cX7_term3 14 = .ok (.aload_n 0, 1) := by decide +kernel
theorem dX7_term3_15 : decode cX7_term3 15 = .ok (.invokevirtual 182, 3) := by decide +kernel
theorem dX7_term3_18 : decode cX7_term3 18 = .ok (.iload_n 1, 1) := by decide +kernel
theorem dX7_term3_19 : decode cX7_term3 19 = .ok (.aload_n 0, 1) := by decide +kernel
theorem dX7_term3_20 : decode cX7_term3 20 = .ok (.invokevirtual 258, 3) := by decide +kernel
theorem dX7_term3_23 : decode cX7_term3 23 = .ok (.imul, 1) := by decide +kernel
theorem dX7_term3_24 : decode cX7_term3 24 = .ok (.istore_n 1, 1) := by decide +kernel
theorem dX7_term3_25 : decode cX7_term3 25 = .ok (.goto (-20), 3) := by decide +kernel
theorem dX7_term3_28 : decode cX7_term3 28 = .ok (.iload_n 1, 1) := by decide +kernel
theorem dX7_term3_29 : decode cX7_term3 29 = .ok (.ireturn, 1) := by decide +kernel
theorem dX7_added3_0 : decode cX7_added3 0 = .ok (.aload_n 0, 1) := by decide +kernel
theorem dX7_added3_1 : decode cX7_added3 1 = .ok (.invokevirtual 261, 3) := by decide +kernel
theorem dX7_added3_4 : decode cX7_added3 4 = .ok (.istore_n 1, 1) := by decide +kernel
theorem dX7_added3_5 : decode cX7_added3 5 = .ok (.aload_n 0, 1) := by decide +kernel
theorem dX7_added3_6 : decode cX7_added3 6 = .ok (.bipush 43, 2) := by decide +kernel
theorem dX7_added3_8 : decode cX7_added3 8 = .ok (.invokevirtual 207, 3) := by decide +kernel
theorem dX7_added3_11 : decode cX7_added3 11 = .ok (.ifCond .ne 12, 3) := by decide +kernel
theorem dX7_added3_14 : decode cX7_added3 14 = .ok (.aload_n 0, 1) := by decide +kernel
theorem dX7_added3_15 : decode cX7_added3 15 = .ok (.bipush 45, 2) := by decide +kernel
theorem dX7_added3_17 : decode cX7_added3 17 = .ok (.invokevirtual 207, 3) := by decide +kernel
theorem dX7_added3_20 : decode cX7_added3 20 = .ok (.ifCond .eq 46, 3) := by decide +kernel
theorem dX7_added3_23 : decode cX7_added3 23 = .ok (.aload_n 0, 1) := by decide +kernel
theorem dX7_added3_24 : decode cX7_added3 24 = .ok (.getfield 160, 3) := by decide +kernel
theorem dX7_added3_27 : decode cX7_added3 27 = .ok (.ldc2_w 224, 3) := by decide +kernel
theorem dX7_added3_30 : decode cX7_added3 30 = .ok (.lcmp, 1) := by decide +kernel
theorem dX7_added3_31 : decode cX7_added3 31 = .ok (.ifCond .ne 7, 3) := by decide +kernel
theorem dX7_added3_34 : decode cX7_added3 34 = .ok (.iconst 1, 1) := by decide +kernel
theorem dX7_added3_35 : decode cX7_added3 35 = .ok (.goto 4, 3) := by decide +kernel
theorem dX7_added3_38 : decode cX7_added3 38 = .ok (.iconst 0, 1) := by decide +kernel
theorem dX7_added3_39 : decode cX7_added3 39 = .ok (.istore_n 2, 1) := by decide +kernel
theorem dX7_added3_40 : decode cX7_added3 40 = .ok (.aload_n 0, 1) := by decide +kernel
theorem dX7_added3_41 : decode cX7_added3 41 = .ok (.invokevirtual 182, 3) := by decide +kernel
theorem dX7_added3_44 : decode cX7_added3 44 = .ok (.aload_n 0, 1) := by decide +kernel
theorem dX7_added3_45 : decode cX7_added3 45 = .ok (.invokevirtual 261, 3) := by decide +kernel
theorem dX7_added3_48 : decode cX7_added3 48 = .ok (.istore_n 3, 1) := by decide +kernel
theorem dX7_added3_49 : decode cX7_added3 49 = .ok (.iload_n 2, 1) := by decide +kernel
theorem dX7_added3_50 : decode cX7_added3 50 = .ok (.ifCond .eq 9, 3) := by decide +kernel
theorem dX7_added3_53 : decode cX7_added3 53 = .ok (.iload_n 1, 1) := by decide +kernel
theorem dX7_added3_54 : decode cX7_added3 54 = .ok (.iload_n 3, 1) := by decide +kernel
theorem dX7_added3_55 : decode cX7_added3 55 = .ok (.iadd, 1) := by decide +kernel
theorem dX7_added3_56 : decode cX7_added3 56 = .ok (.goto 6, 3) := by decide +kernel
theorem dX7_added3_59 : decode cX7_added3 59 = .ok (.iload_n 1, 1) := by decide +kernel
theorem dX7_added3_60 : decode cX7_added3 60 = .ok (.iload_n 3, 1) := by decide +kernel
theorem dX7_added3_61 : decode cX7_added3 61 = .ok (.isub, 1) := by decide +kernel
theorem dX7_added3_62 : decode cX7_added3 62 = .ok (.istore_n 1, 1) := by decide +kernel
theorem dX7_added3_63 : decode cX7_added3 63 = .ok (.goto (-58), 3) := by decide +kernel
theorem dX7_added3_66 : decode cX7_added3 66 = .ok (.iload_n 1, 1) := by decide +kernel
theorem dX7_added3_67 : decode cX7_added3 67 = .ok (.ireturn, 1) := by decide +kernel
theorem dX7_not3_0 : decode cX7_not3 0 = .ok (.aload_n 0, 1) := by decide +kernel
theorem dX7_not3_1 : decode cX7_not3 1 = .ok (.bipush 110, 2) := by decide +kernel
theorem dX7_not3_3 : decode cX7_not3 3 = .ok (.bipush 111, 2) := by decide +kernel
theorem dX7_not3_5 : decode cX7_not3 5 = .ok (.bipush 116, 2) := by decide +kernel
theorem dX7_not3_7 : decode cX7_not3 7 = .ok (.iconst 0, 1) := by decide +kernel
theorem dX7_not3_8 : decode cX7_not3 8 = .ok (.iconst 0, 1) := by decide +kernel
theorem dX7_not3_9 : decode cX7_not3 9 = .ok (.iconst 0, 1) := by decide +kernel
theorem dX7_not3_10 : decode cX7_not3 10 = .ok (.iconst 0, 1) := by decide +kernel
theorem dX7_not3_11 : decode cX7_not3 11 = .ok (.iconst 0, 1) := by decide +kernel
theorem dX7_not3_12 : decode cX7_not3 12 = .ok (.invokevirtual 185, 3) := by decide +kernel
theorem dX7_not3_15 : decode cX7_not3 15 = .ok (.ifCond .eq 37, 3) := by decide +kernel
theorem dX7_not3_18 : decode cX7_not3 18 = .ok (.aload_n 0, 1) := by decide +kernel
theorem dX7_not3_19 : decode cX7_not3 19 = .ok (.invokevirtual 210, 3) := by decide +kernel
theorem dX7_not3_22 : decode cX7_not3 22 = .ok (.ifCond .ne 5, 3) := by decide +kernel
theorem dX7_not3_25 : decode cX7_not3 25 = .ok (.iconst 0, 1) := by decide +kernel
theorem dX7_not3_26 : decode cX7_not3 26 = .ok (.ireturn, 1) := by decide +kernel
theorem dX7_not3_27 : decode cX7_not3 27 = .ok (.aload_n 0, 1) := by decide +kernel
theorem dX7_not3_28 : decode cX7_not3 28 = .ok (.invokevirtual 249, 3) := by decide +kernel
theorem dX7_not3_31 : decode cX7_not3 31 = .ok (.istore_n 1, 1) := by decide +kernel
theorem dX7_not3_32 : decode cX7_not3 32 = .ok (.aload_n 0, 1) := by decide +kernel
theorem dX7_not3_33 : decode cX7_not3 33 = .ok (.dup, 1) := by decide +kernel
theorem dX7_not3_34 : decode cX7_not3 34 = .ok (.getfield 176, 3) := by decide +kernel
theorem dX7_not3_37 : decode cX7_not3 37 = .ok (.iconst 1, 1) := by decide +kernel
theorem dX7_not3_38 : decode cX7_not3 38 = .ok (.isub, 1) := by decide +kernel
theorem dX7_not3_39 : decode cX7_not3 39 = .ok (.putfield 176, 3) := by decide +kernel
theorem dX7_not3_42 : decode cX7_not3 42 = .ok (.iload_n 1, 1) := by decide +kernel
theorem dX7_not3_43 : decode cX7_not3 43 = .ok (.ifCond .ne 7, 3) := by decide +kernel
theorem dX7_not3_46 : decode cX7_not3 46 = .ok (.iconst 1, 1) := by decide +kernel
theorem dX7_not3_47 : decode cX7_not3 47 = .ok (.goto 4, 3) := by decide +kernel
theorem dX7_not3_50 : decode cX7_not3 50 = .ok (.iconst 0, 1) := by decide +kernel
theorem dX7_not3_51 : decode cX7_not3 51 = .ok (.ireturn, 1) := by decide +kernel
theorem dX7_not3_52 : decode cX7_not3 52 = .ok (.aload_n 0, 1) := by decide +kernel
theorem dX7_not3_53 : decode cX7_not3 53 = .ok (.invokevirtual 264, 3) := by decide +kernel
theorem dX7_not3_56 : decode cX7_not3 56 = .ok (.istore_n 1, 1) := by decide +kernel
theorem dX7_not3_57 : decode cX7_not3 57 = .ok (.aload_n 0, 1) := by decide +kernel
theorem dX7_not3_58 : decode cX7_not3 58 = .ok (.bipush 60, 2) := by decide +kernel
theorem dX7_not3_60 : decode cX7_not3 60 = .ok (.invokevirtual 207, 3) := by decide +kernel
theorem dX7_not3_63 : decode cX7_not3 63 = .ok (.ifCond .ne 14, 3) := by decide +kernel
theorem dX7_not3_66 : decode cX7_not3 66 = .ok (.aload_n 0, 1) := by decide +kernel
theorem dX7_not3_67 : decode cX7_not3 67 = .ok (.bipush 61, 2) := by decide +kernel
theorem dX7_not3_69 : decode cX7_not3 69 = .ok (.invokevirtual 207, 3) := by decide +kernel
theorem dX7_not3_72 : decode cX7_not3 72 = .ok (.ifCond .ne 5, 3) := by decide +kernel
theorem dX7_not3_75 : decode cX7_not3 75 = .ok (.iload_n 1, 1) := by decide +kernel
theorem dX7_not3_76 : decode cX7_not3 76 = .ok (.ireturn, 1) := by decide +kernel
theorem dX7_not3_77 : decode cX7_not3 77 = .ok (.aload_n 0, 1) := by decide +kernel
theorem dX7_not3_78 : decode cX7_not3 78 = .ok (.getfield 160, 3) := by decide +kernel
theorem dX7_not3_81 : decode cX7_not3 81 = .ok (.ldc2_w 229, 3) := by decide +kernel
theorem dX7_not3_84 : decode cX7_not3 84 = .ok (.lcmp, 1) := by decide +kernel
theorem dX7_not3_85 : decode cX7_not3 85 = .ok (.ifCond .ne 7, 3) := by decide +kernel
theorem dX7_not3_88 : decode cX7_not3 88 = .ok (.iconst 1, 1) := by decide +kernel
theorem dX7_not3_89 : decode cX7_not3 89 = .ok (.goto 4, 3) := by decide +kernel
theorem dX7_not3_92 : decode cX7_not3 92 = .ok (.iconst 0, 1) := by decide +kernel
theorem dX7_not3_93 : decode cX7_not3 93 = .ok (.istore_n 2, 1) := by decide +kernel
theorem dX7_not3_94 : decode cX7_not3 94 = .ok (.aload_n 0, 1) := by decide +kernel
theorem dX7_not3_95 : decode cX7_not3 95 = .ok (.invokevirtual 182, 3) := by decide +kernel
theorem dX7_not3_98 : decode cX7_not3 98 = .ok (.aload_n 0, 1) := by decide +kernel
theorem dX7_not3_99 : decode cX7_not3 99 = .ok (.invokevirtual 264, 3) := by decide +kernel
theorem dX7_not3_102 : decode cX7_not3 102 = .ok (.istore_n 3, 1) := by decide +kernel
theorem dX7_not3_103 : decode cX7_not3 103 = .ok (.iload_n 2, 1) := by decide +kernel
theorem dX7_not3_104 : decode cX7_not3 104 = .ok (.ifCond .eq 11, 3) := by decide +kernel
theorem dX7_not3_107 : decode cX7_not3 107 = .ok (.iload_n 1, 1) := by decide +kernel
theorem dX7_not3_108 : decode cX7_not3 108 = .ok (.iload_n 3, 1) := by decide +kernel
theorem dX7_not3_109 : decode cX7_not3 109 = .ok (.if_icmp .ge 15, 3) := by decide +kernel
theorem dX7_not3_112 : decode cX7_not3 112 = .ok (.goto 8, 3) := by decide +kernel
theorem dX7_not3_115 : decode cX7_not3 115 = .ok (.iload_n 1, 1) := by decide +kernel
theorem dX7_not3_116 : decode cX7_not3 116 = .ok (.iload_n 3, 1) := by decide +kernel
theorem dX7_not3_117 : decode cX7_not3 117 = .ok (.if_icmp .ne 7, 3) := by decide +kernel
theorem dX7_not3_120 : decode cX7_not3 120 = .ok (.iconst 1, 1) := by decide +kernel
theorem dX7_not3_121 : decode cX7_not3 121 = .ok (.goto 4, 3) := by decide +kernel
theorem dX7_not3_124 : decode cX7_not3 124 = .ok (.iconst 0, 1) := by decide +kernel
theorem dX7_not3_125 : decode cX7_not3 125 = .ok (.ireturn, 1) := by decide +kernel
theorem dX7_both3_0 : decode cX7_both3 0 = .ok (.aload_n 0, 1) := by decide +kernel
theorem dX7_both3_1 : decode cX7_both3 1 = .ok (.invokevirtual 267, 3) := by decide +kernel
theorem dX7_both3_4 : decode cX7_both3 4 = .ok (.istore_n 1, 1) := by decide +kernel
theorem dX7_both3_5 : decode cX7_both3 5 = .ok (.aload_n 0, 1) := by decide +kernel
theorem dX7_both3_6 : decode cX7_both3 6 = .ok (.bipush 97, 2) := by decide +kernel
theorem dX7_both3_8 : decode cX7_both3 8 = .ok (.bipush 110, 2) := by decide +kernel
theorem dX7_both3_10 : decode cX7_both3 10 = .ok (.bipush 100, 2) := by decide +kernel
theorem dX7_both3_12 : decode cX7_both3 12 = .ok (.iconst 0, 1) := by decide +kernel
theorem dX7_both3_13 : decode cX7_both3 13 = .ok (.iconst 0, 1) := by decide +kernel
theorem dX7_both3_14 : decode cX7_both3 14 = .ok (.iconst 0, 1) := by decide +kernel
theorem dX7_both3_15 : decode cX7_both3 15 = .ok (.iconst 0, 1) := by decide +kernel
theorem dX7_both3_16 : decode cX7_both3 16 = .ok (.iconst 0, 1) := by decide +kernel
theorem dX7_both3_17 : decode cX7_both3 17 = .ok (.invokevirtual 185, 3) := by decide +kernel
theorem dX7_both3_20 : decode cX7_both3 20 = .ok (.ifCond .eq 29, 3) := by decide +kernel
theorem dX7_both3_23 : decode cX7_both3 23 = .ok (.aload_n 0, 1) := by decide +kernel
theorem dX7_both3_24 : decode cX7_both3 24 = .ok (.invokevirtual 182, 3) := by decide +kernel
theorem dX7_both3_27 : decode cX7_both3 27 = .ok (.aload_n 0, 1) := by decide +kernel
theorem dX7_both3_28 : decode cX7_both3 28 = .ok (.invokevirtual 267, 3) := by decide +kernel
theorem dX7_both3_31 : decode cX7_both3 31 = .ok (.istore_n 2, 1) := by decide +kernel
theorem dX7_both3_32 : decode cX7_both3 32 = .ok (.iload_n 1, 1) := by decide +kernel
theorem dX7_both3_33 : decode cX7_both3 33 = .ok (.ifCond .eq 11, 3) := by decide +kernel
theorem dX7_both3_36 : decode cX7_both3 36 = .ok (.iload_n 2, 1) := by decide +kernel
theorem dX7_both3_37 : decode cX7_both3 37 = .ok (.ifCond .eq 7, 3) := by decide +kernel
theorem dX7_both3_40 : decode cX7_both3 40 = .ok (.iconst 1, 1) := by decide +kernel
theorem dX7_both3_41 : decode cX7_both3 41 = .ok (.goto 4, 3) := by decide +kernel
theorem dX7_both3_44 : decode cX7_both3 44 = .ok (.iconst 0, 1) := by decide +kernel
theorem dX7_both3_45 : decode cX7_both3 45 = .ok (.istore_n 1, 1) := by decide +kernel
theorem dX7_both3_46 : decode cX7_both3 46 = .ok (.goto (-41), 3) := by decide +kernel
theorem dX7_both3_49 : decode cX7_both3 49 = .ok (.iload_n 1, 1) := by decide +kernel
theorem dX7_both3_50 : decode cX7_both3 50 = .ok (.ireturn, 1) := by decide +kernel
theorem dX7_either3_0 : decode cX7_either3 0 = .ok (.aload_n 0, 1) := by decide +kernel
theorem dX7_either3_1 : decode cX7_either3 1 = .ok (.invokevirtual 270, 3) := by decide +kernel
theorem dX7_either3_4 : decode cX7_either3 4 = .ok (.istore_n 1, 1) := by decide +kernel
theorem dX7_either3_5 : decode cX7_either3 5 = .ok (.aload_n 0, 1) := by decide +kernel
theorem dX7_either3_6 : decode cX7_either3 6 = .ok (.bipush 111, 2) := by decide +kernel
theorem dX7_either3_8 : decode cX7_either3 8 = .ok (.bipush 114, 2) := by decide +kernel
theorem dX7_either3_10 : decode cX7_either3 10 = .ok (.iconst 0, 1) := by decide +kernel
theorem dX7_either3_11 : decode cX7_either3 11 = .ok (.iconst 0, 1) := by decide +kernel
theorem dX7_either3_12 : decode cX7_either3 12 = .ok (.iconst 0, 1) := by decide +kernel
theorem dX7_either3_13 : decode cX7_either3 13 = .ok (.iconst 0, 1) := by decide +kernel
theorem dX7_either3_14 : decode cX7_either3 14 = .ok (.iconst 0, 1) := by decide +kernel
theorem dX7_either3_15 : decode cX7_either3 15 = .ok (.iconst 0, 1) := by decide +kernel
theorem dX7_either3_16 : decode cX7_either3 16 = .ok (.invokevirtual 185, 3) := by decide +kernel
theorem dX7_either3_19 : decode cX7_either3 19 = .ok (.ifCond .eq 29, 3) := by decide +kernel
theorem dX7_either3_22 : decode cX7_either3 22 = .ok (.aload_n 0, 1) := by decide +kernel
theorem dX7_either3_23 : decode cX7_either3 23 = .ok (.invokevirtual 182, 3) := by decide +kernel
theorem dX7_either3_26 : decode cX7_either3 26 = .ok (.aload_n 0, 1) := by decide +kernel
theorem dX7_either3_27 : decode cX7_either3 27 = .ok (.invokevirtual 270, 3) := by decide +kernel
theorem dX7_either3_30 : decode cX7_either3 30 = .ok (.istore_n 2, 1) := by decide +kernel
theorem dX7_either3_31 : decode cX7_either3 31 = .ok (.iload_n 1, 1) := by decide +kernel
theorem dX7_either3_32 : decode cX7_either3 32 = .ok (.ifCond .ne 7, 3) := by decide +kernel
theorem dX7_either3_35 : decode cX7_either3 35 = .ok (.iload_n 2, 1) := by decide +kernel
theorem dX7_either3_36 : decode cX7_either3 36 = .ok (.ifCond .eq 7, 3) := by decide +kernel
theorem dX7_either3_39 : decode cX7_either3 39 = .ok (.iconst 1, 1) := by decide +kernel
theorem dX7_either3_40 : decode cX7_either3 40 = .ok (.goto 4, 3) := by decide +kernel
theorem dX7_either3_43 : decode cX7_either3 43 = .ok (.iconst 0, 1) := by decide +kernel
theorem dX7_either3_44 : decode cX7_either3 44 = .ok (.istore_n 1, 1) := by decide +kernel
theorem dX7_either3_45 : decode cX7_either3 45 = .ok (.goto (-40), 3) := by decide +kernel
theorem dX7_either3_48 : decode cX7_either3 48 = .ok (.iload_n 1, 1) := by decide +kernel
theorem dX7_either3_49 : decode cX7_either3 49 = .ok (.ireturn, 1) := by decide +kernel
theorem dX7_atom2_0 : decode cX7_atom2 0 = .ok (.iconst 0, 1) := by decide +kernel
theorem dX7_atom2_1 : decode cX7_atom2 1 = .ok (.istore_n 1, 1) := by decide +kernel
theorem dX7_atom2_2 : decode cX7_atom2 2 = .ok (.aload_n 0, 1) := by decide +kernel
theorem dX7_atom2_3 : decode cX7_atom2 3 = .ok (.bipush 45, 2) := by decide +kernel
theorem dX7_atom2_5 : decode cX7_atom2 5 = .ok (.invokevirtual 207, 3) := by decide +kernel
theorem dX7_atom2_8 : decode cX7_atom2 8 = .ok (.ifCond .eq 29, 3) := by decide +kernel
theorem dX7_atom2_11 : decode cX7_atom2 11 = .ok (.aload_n 0, 1) := by decide +kernel
theorem dX7_atom2_12 : decode cX7_atom2 12 = .ok (.invokevirtual 210, 3) := by decide +kernel
theorem dX7_atom2_15 : decode cX7_atom2 15 = .ok (.ifCond .eq 146, 3) := by decide +kernel
theorem dX7_atom2_18 : decode cX7_atom2 18 = .ok (.aload_n 0, 1) := by decide +kernel
theorem dX7_atom2_19 : decode cX7_atom2 19 = .ok (.invokevirtual 258, 3) := by decide +kernel
theorem dX7_atom2_22 : decode cX7_atom2 22 = .ok (.ineg, 1) := by decide +kernel
theorem dX7_atom2_23 : decode cX7_atom2 23 = .ok (.istore_n 1, 1) := by decide +kernel
theorem dX7_atom2_24 : decode cX7_atom2 24 = .ok (.aload_n 0, 1) := by decide +kernel
theorem dX7_atom2_25 : decode cX7_atom2 25 = .ok (.dup, 1) := by decide +kernel
theorem dX7_atom2_26 : decode cX7_atom2 26 = .ok (.getfield 176, 3) := by decide +kernel
theorem dX7_atom2_29 : decode cX7_atom2 29 = .ok (.iconst 1, 1) := by decide +kernel
theorem dX7_atom2_30 : decode cX7_atom2 30 = .ok (.isub, 1) := by decide +kernel
theorem dX7_atom2_31 : decode cX7_atom2 31 = .ok (.putfield 176, 3) := by decide +kernel
theorem dX7_atom2_34 : decode cX7_atom2 34 = .ok (.goto 127, 3) := by decide +kernel
theorem dX7_atom2_37 : decode cX7_atom2 37 = .ok (.aload_n 0, 1) := by decide +kernel
theorem dX7_atom2_38 : decode cX7_atom2 38 = .ok (.bipush 40, 2) := by decide +kernel
theorem dX7_atom2_40 : decode cX7_atom2 40 = .ok (.invokevirtual 207, 3) := by decide +kernel
theorem dX7_atom2_43 : decode cX7_atom2 43 = .ok (.ifCond .eq 52, 3) := by decide +kernel
theorem dX7_atom2_46 : decode cX7_atom2 46 = .ok (.aload_n 0, 1) := by decide +kernel
theorem dX7_atom2_47 : decode cX7_atom2 47 = .ok (.invokevirtual 210, 3) := by decide +kernel
theorem dX7_atom2_50 : decode cX7_atom2 50 = .ok (.ifCond .eq 111, 3) := by decide +kernel
theorem dX7_atom2_53 : decode cX7_atom2 53 = .ok (.aload_n 0, 1) := by decide +kernel
theorem dX7_atom2_54 : decode cX7_atom2 54 = .ok (.invokevirtual 273, 3) := by decide +kernel
theorem dX7_atom2_57 : decode cX7_atom2 57 = .ok (.istore_n 1, 1) := by decide +kernel
theorem dX7_atom2_58 : decode cX7_atom2 58 = .ok (.aload_n 0, 1) := by decide +kernel
theorem dX7_atom2_59 : decode cX7_atom2 59 = .ok (.bipush 41, 2) := by decide +kernel
theorem dX7_atom2_61 : decode cX7_atom2 61 = .ok (.invokevirtual 207, 3) := by decide +kernel
theorem dX7_atom2_64 : decode cX7_atom2 64 = .ok (.ifCond .ne 7, 3) := by decide +kernel
theorem dX7_atom2_67 : decode cX7_atom2 67 = .ok (.aload_n 0, 1) := by decide +kernel
theorem dX7_atom2_68 : decode cX7_atom2 68 = .ok (.invokevirtual 179, 3) := by decide +kernel
theorem dX7_atom2_71 : decode cX7_atom2 71 = .ok (.aload_n 0, 1) := by decide +kernel
theorem dX7_atom2_72 : decode cX7_atom2 72 = .ok (.dup, 1) := by decide +kernel
theorem dX7_atom2_73 : decode cX7_atom2 73 = .ok (.getfield 176, 3) := by decide +kernel
theorem dX7_atom2_76 : decode cX7_atom2 76 = .ok (.iconst 1, 1) := by decide +kernel
theorem dX7_atom2_77 : decode cX7_atom2 77 = .ok (.isub, 1) := by decide +kernel
theorem dX7_atom2_78 : decode cX7_atom2 78 = .ok (.putfield 176, 3) := by decide +kernel
theorem dX7_atom2_81 : decode cX7_atom2 81 = .ok (.aload_n 0, 1) := by decide +kernel
theorem dX7_atom2_82 : decode cX7_atom2 82 = .ok (.getfield 166, 3) := by decide +kernel
theorem dX7_atom2_85 : decode cX7_atom2 85 = .ok (.ifCond .ne 76, 3) := by decide +kernel
theorem dX7_atom2_88 : decode cX7_atom2 88 = .ok (.aload_n 0, 1) := by decide +kernel
theorem dX7_atom2_89 : decode cX7_atom2 89 = .ok (.invokevirtual 182, 3) := by decide +kernel
theorem dX7_atom2_92 : decode cX7_atom2 92 = .ok (.goto 69, 3) := by decide +kernel
theorem dX7_atom2_95 : decode cX7_atom2 95 = .ok (.aload_n 0, 1) := by decide +kernel
theorem dX7_atom2_96 : decode cX7_atom2 96 = .ok (.getfield 166, 3) := by decide +kernel
theorem dX7_atom2_99 : decode cX7_atom2 99 = .ok (.ifCond .ne 24, 3) := by decide +kernel
theorem dX7_atom2_102 : decode cX7_atom2 102 = .ok (.aload_n 0, 1) := by decide +kernel
theorem dX7_atom2_103 : decode cX7_atom2 103 = .ok (.getfield 149, 3) := by decide +kernel
theorem dX7_atom2_106 : decode cX7_atom2 106 = .ok (.iconst 2, 1) := by decide +kernel
theorem dX7_atom2_107 : decode cX7_atom2 107 = .ok (.if_icmp .ne 16, 3) := by decide +kernel
theorem dX7_atom2_110 : decode cX7_atom2 110 = .ok (.aload_n 0, 1) := by decide +kernel
theorem dX7_atom2_111 : decode cX7_atom2 111 = .ok (.getfield 160, 3) := by decide +kernel
theorem dX7_atom2_114 : decode cX7_atom2 114 = .ok (.l2i, 1) := by decide +kernel
theorem dX7_atom2_115 : decode cX7_atom2 115 = .ok (.istore_n 1, 1) := by decide +kernel
theorem dX7_atom2_116 : decode cX7_atom2 116 = .ok (.aload_n 0, 1) := by decide +kernel
theorem dX7_atom2_117 : decode cX7_atom2 117 = .ok (.invokevirtual 182, 3) := by decide +kernel
theorem dX7_atom2_120 : decode cX7_atom2 120 = .ok (.goto 41, 3) := by decide +kernel
theorem dX7_atom2_123 : decode cX7_atom2 123 = .ok (.aload_n 0, 1) := by decide +kernel
theorem dX7_atom2_124 : decode cX7_atom2 124 = .ok (.getfield 166, 3) := by decide +kernel
theorem dX7_atom2_127 : decode cX7_atom2 127 = .ok (.ifCond .ne 30, 3) := by decide +kernel
theorem dX7_atom2_130 : decode cX7_atom2 130 = .ok (.aload_n 0, 1) := by decide +kernel
theorem dX7_atom2_131 : decode cX7_atom2 131 = .ok (.getfield 149, 3) := by decide +kernel
theorem dX7_atom2_134 : decode cX7_atom2 134 = .ok (.iconst 1, 1) := by decide +kernel
theorem dX7_atom2_135 : decode cX7_atom2 135 = .ok (.if_icmp .ne 22, 3) := by decide +kernel
theorem dX7_atom2_138 : decode cX7_atom2 138 = .ok (.aload_n 0, 1) := by decide +kernel
theorem dX7_atom2_139 : decode cX7_atom2 139 = .ok (.invokevirtual 214, 3) := by decide +kernel
theorem dX7_atom2_142 : decode cX7_atom2 142 = .ok (.istore_n 1, 1) := by decide +kernel
theorem dX7_atom2_143 : decode cX7_atom2 143 = .ok (.aload_n 0, 1) := by decide +kernel
theorem dX7_atom2_144 : decode cX7_atom2 144 = .ok (.getfield 166, 3) := by decide +kernel
theorem dX7_atom2_147 : decode cX7_atom2 147 = .ok (.ifCond .ne 14, 3) := by decide +kernel
theorem dX7_atom2_150 : decode cX7_atom2 150 = .ok (.aload_n 0, 1) := by decide +kernel
theorem dX7_atom2_151 : decode cX7_atom2 151 = .ok (.invokevirtual 182, 3) := by decide +kernel
theorem dX7_atom2_154 : decode cX7_atom2 154 = .ok (.goto 7, 3) := by decide +kernel
theorem dX7_atom2_157 : decode cX7_atom2 157 = .ok (.aload_n 0, 1) := by decide +kernel
theorem dX7_atom2_158 : decode cX7_atom2 158 = .ok (.invokevirtual 179, 3) := by decide +kernel
theorem dX7_atom2_161 : decode cX7_atom2 161 = .ok (.iload_n 1, 1) := by decide +kernel
theorem dX7_atom2_162 : decode cX7_atom2 162 = .ok (.ireturn, 1) := by decide +kernel
theorem dX7_term2_0 : decode cX7_term2 0 = .ok (.aload_n 0, 1) := by decide +kernel
theorem dX7_term2_1 : decode cX7_term2 1 = .ok (.invokevirtual 276, 3) := by decide +kernel
theorem dX7_term2_4 : decode cX7_term2 4 = .ok (.istore_n 1, 1) := by decide +kernel
theorem dX7_term2_5 : decode cX7_term2 5 = .ok (.aload_n 0, 1) := by decide +kernel
theorem dX7_term2_6 : decode cX7_term2 6 = .ok (.bipush 42, 2) := by decide +kernel
theorem dX7_term2_8 : decode cX7_term2 8 = .ok (.invokevirtual 207, 3) := by decide +kernel
theorem dX7_term2_11 : decode cX7_term2 11 = .ok (.ifCond .eq 17, 3) := by decide +kernel
theorem dX7_term2_14 : decode cX7_term2 14 = .ok (.aload_n 0, 1) := by decide +kernel
theorem dX7_term2_15 : decode cX7_term2 15 = .ok (.invokevirtual 182, 3) := by decide +kernel
theorem dX7_term2_18 : decode cX7_term2 18 = .ok (.iload_n 1, 1) := by decide +kernel
theorem dX7_term2_19 : decode cX7_term2 19 = .ok (.aload_n 0, 1) := by decide +kernel
theorem dX7_term2_20 : decode cX7_term2 20 = .ok (.invokevirtual 276, 3) := by decide +kernel
theorem dX7_term2_23 : decode cX7_term2 23 = .ok (.imul, 1) := by decide +kernel
theorem dX7_term2_24 : decode cX7_term2 24 = .ok (.istore_n 1, 1) := by decide +kernel
theorem dX7_term2_25 : decode cX7_term2 25 = .ok (.goto (-20), 3) := by decide +kernel
theorem dX7_term2_28 : decode cX7_term2 28 = .ok (.iload_n 1, 1) := by decide +kernel
theorem dX7_term2_29 : decode cX7_term2 29 = .ok (.ireturn, 1) := by decide +kernel
theorem dX7_added2_0 : decode cX7_added2 0 = .ok (.aload_n 0, 1) := by decide +kernel
theorem dX7_added2_1 : decode cX7_added2 1 = .ok (.invokevirtual 279, 3) := by decide +kernel
theorem dX7_added2_4 : decode cX7_added2 4 = .ok (.istore_n 1, 1) := by decide +kernel
theorem dX7_added2_5 : decode cX7_added2 5 = .ok (.aload_n 0, 1) := by decide +kernel
theorem dX7_added2_6 : decode cX7_added2 6 = .ok (.bipush 43, 2) := by decide +kernel
theorem dX7_added2_8 : decode cX7_added2 8 = .ok (.invokevirtual 207, 3) := by decide +kernel
theorem dX7_added2_11 : decode cX7_added2 11 = .ok (.ifCond .ne 12, 3) := by decide +kernel
theorem dX7_added2_14 : decode cX7_added2 14 = .ok (.aload_n 0, 1) := by decide +kernel
theorem dX7_added2_15 : decode cX7_added2 15 = .ok (.bipush 45, 2) := by decide +kernel
theorem dX7_added2_17 : decode cX7_added2 17 = .ok (.invokevirtual 207, 3) := by decide +kernel
theorem dX7_added2_20 : decode cX7_added2 20 = .ok (.ifCond .eq 46, 3) := by decide +kernel
theorem dX7_added2_23 : decode cX7_added2 23 = .ok (.aload_n 0, 1) := by decide +kernel
theorem dX7_added2_24 : decode cX7_added2 24 = .ok (.getfield 160, 3) := by decide +kernel
theorem dX7_added2_27 : decode cX7_added2 27 = .ok (.ldc2_w 224, 3) := by decide +kernel
theorem dX7_added2_30 : decode cX7_added2 30 = .ok (.lcmp, 1) := by decide +kernel
theorem dX7_added2_31 : decode cX7_added2 31 = .ok (.ifCond .ne 7, 3) := by decide +kernel
theorem dX7_added2_34 : decode cX7_added2 34 = .ok (.iconst 1, 1) := by decide +kernel
theorem dX7_added2_35 : decode cX7_added2 35 = .ok (.goto 4, 3) := by decide +kernel
theorem dX7_added2_38 : decode cX7_added2 38 = .ok (.iconst 0, 1) := by decide +kernel
theorem dX7_added2_39 : decode cX7_added2 39 = .ok (.istore_n 2, 1) := by decide +kernel
theorem dX7_added2_40 : decode cX7_added2 40 = .ok (.aload_n 0, 1) := by decide +kernel
theorem dX7_added2_41 : decode cX7_added2 41 = .ok (.invokevirtual 182, 3) := by decide +kernel
theorem dX7_added2_44 : decode cX7_added2 44 = .ok (.aload_n 0, 1) := by decide +kernel
theorem dX7_added2_45 : decode cX7_added2 45 = .ok (.invokevirtual 279, 3) := by decide +kernel
theorem dX7_added2_48 : decode cX7_added2 48 = .ok (.istore_n 3, 1) := by decide +kernel
theorem dX7_added2_49 : decode cX7_added2 49 = .ok (.iload_n 2, 1) := by decide +kernel
theorem dX7_added2_50 : decode cX7_added2 50 = .ok (.ifCond .eq 9, 3) := by decide +kernel
theorem dX7_added2_53 : decode cX7_added2 53 = .ok (.iload_n 1, 1) := by decide +kernel
theorem dX7_added2_54 : decode cX7_added2 54 = .ok (.iload_n 3, 1) := by decide +kernel
theorem dX7_added2_55 : decode cX7_added2 55 = .ok (.iadd, 1) := by decide +kernel
theorem dX7_added2_56 : decode cX7_added2 56 = .ok (.goto 6, 3) := by decide +kernel
theorem dX7_added2_59 : decode cX7_added2 59 = .ok (.iload_n 1, 1) := by decide +kernel
theorem dX7_added2_60 : decode cX7_added2 60 = .ok (.iload_n 3, 1) := by decide +kernel
theorem dX7_added2_61 : decode cX7_added2 61 = .ok (.isub, 1) := by decide +kernel
theorem dX7_added2_62 : decode cX7_added2 62 = .ok (.istore_n 1, 1) := by decide +kernel
theorem dX7_added2_63 : decode cX7_added2 63 = .ok (.goto (-58), 3) := by decide +kernel
theorem dX7_added2_66 : decode cX7_added2 66 = .ok (.iload_n 1, 1) := by decide +kernel
theorem dX7_added2_67 : decode cX7_added2 67 = .ok (.ireturn, 1) := by decide +kernel
theorem dX7_not2_0 : decode cX7_not2 0 = .ok (.aload_n 0, 1) := by decide +kernel
theorem dX7_not2_1 : decode cX7_not2 1 = .ok (.bipush 110, 2) := by decide +kernel
theorem dX7_not2_3 : decode cX7_not2 3 = .ok (.bipush 111, 2) := by decide +kernel
theorem dX7_not2_5 : decode cX7_not2 5 = .ok (.bipush 116, 2) := by decide +kernel
theorem dX7_not2_7 : decode cX7_not2 7 = .ok (.iconst 0, 1) := by decide +kernel
theorem dX7_not2_8 : decode cX7_not2 8 = .ok (.iconst 0, 1) := by decide +kernel
theorem dX7_not2_9 : decode cX7_not2 9 = .ok (.iconst 0, 1) := by decide +kernel
theorem dX7_not2_10 : decode cX7_not2 10 = .ok (.iconst 0, 1) := by decide +kernel
theorem dX7_not2_11 : decode cX7_not2 11 = .ok (.iconst 0, 1) := by decide +kernel
theorem dX7_not2_12 : decode cX7_not2 12 = .ok (.invokevirtual 185, 3) := by decide +kernel
theorem dX7_not2_15 : decode cX7_not2 15 = .ok (.ifCond .eq 37, 3) := by decide +kernel
theorem dX7_not2_18 : decode cX7_not2 18 = .ok (.aload_n 0, 1) := by decide +kernel
theorem dX7_not2_19 : decode cX7_not2 19 = .ok (.invokevirtual 210, 3) := by decide +kernel
theorem dX7_not2_22 : decode cX7_not2 22 = .ok (.ifCond .ne 5, 3) := by decide +kernel
theorem dX7_not2_25 : decode cX7_not2 25 = .ok (.iconst 0, 1) := by decide +kernel
theorem dX7_not2_26 : decode cX7_not2 26 = .ok (.ireturn, 1) := by decide +kernel
theorem dX7_not2_27 : decode cX7_not2 27 = .ok (.aload_n 0, 1) := by decide +kernel
theorem dX7_not2_28 : decode cX7_not2 28 = .ok (.invokevirtual 267, 3) := by decide +kernel
theorem dX7_not2_31 : decode cX7_not2 31 = .ok (.istore_n 1, 1) := by decide +kernel
theorem dX7_not2_32 : decode cX7_not2 32 = .ok (.aload_n 0, 1) := by decide +kernel
theorem dX7_not2_33 : decode cX7_not2 33 = .ok (.dup, 1) := by decide +kernel
theorem dX7_not2_34 : decode cX7_not2 34 = .ok (.getfield 176, 3) := by decide +kernel
theorem dX7_not2_37 : decode cX7_not2 37 = .ok (.iconst 1, 1) := by decide +kernel
theorem dX7_not2_38 : decode cX7_not2 38 = .ok (.isub, 1) := by decide +kernel
theorem dX7_not2_39 : decode cX7_not2 39 = .ok (.putfield 176, 3) := by decide +kernel
theorem dX7_not2_42 : decode cX7_not2 42 = .ok (.iload_n 1, 1) := by decide +kernel
theorem dX7_not2_43 : decode cX7_not2 43 = .ok (.ifCond .ne 7, 3) := by decide +kernel
theorem dX7_not2_46 : decode cX7_not2 46 = .ok (.iconst 1, 1) := by decide +kernel
theorem dX7_not2_47 : decode cX7_not2 47 = .ok (.goto 4, 3) := by decide +kernel
theorem dX7_not2_50 : decode cX7_not2 50 = .ok (.iconst 0, 1) := by decide +kernel
theorem dX7_not2_51 : decode cX7_not2 51 = .ok (.ireturn, 1) := by decide +kernel
theorem dX7_not2_52 : decode cX7_not2 52 = .ok (.aload_n 0, 1) := by decide +kernel
theorem dX7_not2_53 : decode cX7_not2 53 = .ok (.invokevirtual 282, 3) := by decide +kernel
theorem dX7_not2_56 : decode cX7_not2 56 = .ok (.istore_n 1, 1) := by decide +kernel
theorem dX7_not2_57 : decode cX7_not2 57 = .ok (.aload_n 0, 1) := by decide +kernel
theorem dX7_not2_58 : decode cX7_not2 58 = .ok (.bipush 60, 2) := by decide +kernel
theorem dX7_not2_60 : decode cX7_not2 60 = .ok (.invokevirtual 207, 3) := by decide +kernel
theorem dX7_not2_63 : decode cX7_not2 63 = .ok (.ifCond .ne 14, 3) := by decide +kernel
theorem dX7_not2_66 : decode cX7_not2 66 = .ok (.aload_n 0, 1) := by decide +kernel
theorem dX7_not2_67 : decode cX7_not2 67 = .ok (.bipush 61, 2) := by decide +kernel
theorem dX7_not2_69 : decode cX7_not2 69 = .ok (.invokevirtual 207, 3) := by decide +kernel
theorem dX7_not2_72 : decode cX7_not2 72 = .ok (.ifCond .ne 5, 3) := by decide +kernel
theorem dX7_not2_75 : decode cX7_not2 75 = .ok (.iload_n 1, 1) := by decide +kernel
theorem dX7_not2_76 : decode cX7_not2 76 = .ok (.ireturn, 1) := by decide +kernel
theorem dX7_not2_77 : decode cX7_not2 77 = .ok (.aload_n 0, 1) := by decide +kernel
theorem dX7_not2_78 : decode cX7_not2 78 = .ok (.getfield 160, 3) := by decide +kernel
theorem dX7_not2_81 : decode cX7_not2 81 = .ok (.ldc2_w 229, 3) := by decide +kernel
theorem dX7_not2_84 : decode cX7_not2 84 = .ok (.lcmp, 1) := by decide +kernel
theorem dX7_not2_85 : decode cX7_not2 85 = .ok (.ifCond .ne 7, 3) := by decide +kernel
theorem dX7_not2_88 : decode cX7_not2 88 = .ok (.iconst 1, 1) := by decide +kernel
theorem dX7_not2_89 : decode cX7_not2 89 = .ok (.goto 4, 3) := by decide +kernel
theorem dX7_not2_92 : decode cX7_not2 92 = .ok (.iconst 0, 1) := by decide +kernel
theorem dX7_not2_93 : decode cX7_not2 93 = .ok (.istore_n 2, 1) := by decide +kernel
theorem dX7_not2_94 : decode cX7_not2 94 = .ok (.aload_n 0, 1) := by decide +kernel
theorem dX7_not2_95 : decode cX7_not2 95 = .ok (.invokevirtual 182, 3) := by decide +kernel
theorem dX7_not2_98 : decode cX7_not2 98 = .ok (.aload_n 0, 1) := by decide +kernel
theorem dX7_not2_99 : decode cX7_not2 99 = .ok (.invokevirtual 282, 3) := by decide +kernel
theorem dX7_not2_102 : decode cX7_not2 102 = .ok (.istore_n 3, 1) := by decide +kernel
theorem dX7_not2_103 : decode cX7_not2 103 = .ok (.iload_n 2, 1) := by decide +kernel
theorem dX7_not2_104 : decode cX7_not2 104 = .ok (.ifCond .eq 11, 3) := by decide +kernel
theorem dX7_not2_107 : decode cX7_not2 107 = .ok (.iload_n 1, 1) := by decide +kernel
theorem dX7_not2_108 : decode cX7_not2 108 = .ok (.iload_n 3, 1) := by decide +kernel
theorem dX7_not2_109 : decode cX7_not2 109 = .ok (.if_icmp .ge 15, 3) := by decide +kernel
theorem dX7_not2_112 : decode cX7_not2 112 = .ok (.goto 8, 3) := by decide +kernel
theorem dX7_not2_115 : decode cX7_not2 115 = .ok (.iload_n 1, 1) := by decide +kernel
theorem dX7_not2_116 : decode cX7_not2 116 = .ok (.iload_n 3, 1) := by decide +kernel
theorem dX7_not2_117 : decode cX7_not2 117 = .ok (.if_icmp .ne 7, 3) := by decide +kernel
theorem dX7_not2_120 : decode cX7_not2 120 = .ok (.iconst 1, 1) := by decide +kernel
theorem dX7_not2_121 : decode cX7_not2 121 = .ok (.goto 4, 3) := by decide +kernel
theorem dX7_not2_124 : decode cX7_not2 124 = .ok (.iconst 0, 1) := by decide +kernel
theorem dX7_not2_125 : decode cX7_not2 125 = .ok (.ireturn, 1) := by decide +kernel
theorem dX7_both2_0 : decode cX7_both2 0 = .ok (.aload_n 0, 1) := by decide +kernel
theorem dX7_both2_1 : decode cX7_both2 1 = .ok (.invokevirtual 285, 3) := by decide +kernel
theorem dX7_both2_4 : decode cX7_both2 4 = .ok (.istore_n 1, 1) := by decide +kernel
theorem dX7_both2_5 : decode cX7_both2 5 = .ok (.aload_n 0, 1) := by decide +kernel
theorem dX7_both2_6 : decode cX7_both2 6 = .ok (.bipush 97, 2) := by decide +kernel
theorem dX7_both2_8 : decode cX7_both2 8 = .ok (.bipush 110, 2) := by decide +kernel
theorem dX7_both2_10 : decode cX7_both2 10 = .ok (.bipush 100, 2) := by decide +kernel
theorem dX7_both2_12 : decode cX7_both2 12 = .ok (.iconst 0, 1) := by decide +kernel
theorem dX7_both2_13 : decode cX7_both2 13 = .ok (.iconst 0, 1) := by decide +kernel
theorem dX7_both2_14 : decode cX7_both2 14 = .ok (.iconst 0, 1) := by decide +kernel
theorem dX7_both2_15 : decode cX7_both2 15 = .ok (.iconst 0, 1) := by decide +kernel
theorem dX7_both2_16 : decode cX7_both2 16 = .ok (.iconst 0, 1) := by decide +kernel
theorem dX7_both2_17 : decode cX7_both2 17 = .ok (.invokevirtual 185, 3) := by decide +kernel
theorem dX7_both2_20 : decode cX7_both2 20 = .ok (.ifCond .eq 29, 3) := by decide +kernel
theorem dX7_both2_23 : decode cX7_both2 23 = .ok (.aload_n 0, 1) := by decide +kernel
theorem dX7_both2_24 : decode cX7_both2 24 = .ok (.invokevirtual 182, 3) := by decide +kernel
theorem dX7_both2_27 : decode cX7_both2 27 = .ok (.aload_n 0, 1) := by decide +kernel
theorem dX7_both2_28 : decode cX7_both2 28 = .ok (.invokevirtual 285, 3) := by decide +kernel
theorem dX7_both2_31 : decode cX7_both2 31 = .ok (.istore_n 2, 1) := by decide +kernel
theorem dX7_both2_32 : decode cX7_both2 32 = .ok (.iload_n 1, 1) := by decide +kernel
theorem dX7_both2_33 : decode cX7_both2 33 = .ok (.ifCond .eq 11, 3) := by decide +kernel
theorem dX7_both2_36 : decode cX7_both2 36 = .ok (.iload_n 2, 1) := by decide +kernel
theorem dX7_both2_37 : decode cX7_both2 37 = .ok (.ifCond .eq 7, 3) := by decide +kernel
theorem dX7_both2_40 : decode cX7_both2 40 = .ok (.iconst 1, 1) := by decide +kernel
theorem dX7_both2_41 : decode cX7_both2 41 = .ok (.goto 4, 3) := by decide +kernel
theorem dX7_both2_44 : decode cX7_both2 44 = .ok (.iconst 0, 1) := by decide +kernel
theorem dX7_both2_45 : decode cX7_both2 45 = .ok (.istore_n 1, 1) := by decide +kernel
theorem dX7_both2_46 : decode cX7_both2 46 = .ok (.goto (-41), 3) := by decide +kernel
theorem dX7_both2_49 : decode cX7_both2 49 = .ok (.iload_n 1, 1) := by decide +kernel
theorem dX7_both2_50 : decode cX7_both2 50 = .ok (.ireturn, 1) := by decide +kernel
theorem dX7_either2_0 : decode cX7_either2 0 = .ok (.aload_n 0, 1) := by decide +kernel
theorem dX7_either2_1 : decode cX7_either2 1 = .ok (.invokevirtual 288, 3) := by decide +kernel
theorem dX7_either2_4 : decode cX7_either2 4 = .ok (.istore_n 1, 1) := by decide +kernel
theorem dX7_either2_5 : decode cX7_either2 5 = .ok (.aload_n 0, 1) := by decide +kernel
theorem dX7_either2_6 : decode cX7_either2 6 = .ok (.bipush 111, 2) := by decide +kernel
theorem dX7_either2_8 : decode cX7_either2 8 = .ok (.bipush 114, 2) := by decide +kernel
theorem dX7_either2_10 : decode cX7_either2 10 = .ok (.iconst 0, 1) := by decide +kernel
theorem dX7_either2_11 : decode cX7_either2 11 = .ok (.iconst 0, 1) := by decide +kernel
theorem dX7_either2_12 : decode cX7_either2 12 = .ok (.iconst 0, 1) := by decide +kernel
theorem dX7_either2_13 : decode cX7_either2 13 = .ok (.iconst 0, 1) := by decide +kernel
theorem dX7_either2_14 : decode cX7_either2 14 = .ok (.iconst 0, 1) := by decide +kernel
theorem dX7_either2_15 : decode cX7_either2 15 = .ok (.iconst 0, 1) := by decide +kernel
theorem dX7_either2_16 : decode cX7_either2 16 = .ok (.invokevirtual 185, 3) := by decide +kernel
theorem dX7_either2_19 : decode cX7_either2 19 = .ok (.ifCond .eq 29, 3) := by decide +kernel
theorem dX7_either2_22 : decode cX7_either2 22 = .ok (.aload_n 0, 1) := by decide +kernel
theorem dX7_either2_23 : decode cX7_either2 23 = .ok (.invokevirtual 182, 3) := by decide +kernel
theorem dX7_either2_26 : decode cX7_either2 26 = .ok (.aload_n 0, 1) := by decide +kernel
theorem dX7_either2_27 : decode cX7_either2 27 = .ok (.invokevirtual 288, 3) := by decide +kernel
theorem dX7_either2_30 : decode cX7_either2 30 = .ok (.istore_n 2, 1) := by decide +kernel
theorem dX7_either2_31 : decode cX7_either2 31 = .ok (.iload_n 1, 1) := by decide +kernel
theorem dX7_either2_32 : decode cX7_either2 32 = .ok (.ifCond .ne 7, 3) := by decide +kernel
theorem dX7_either2_35 : decode cX7_either2 35 = .ok (.iload_n 2, 1) := by decide +kernel
theorem dX7_either2_36 : decode cX7_either2 36 = .ok (.ifCond .eq 7, 3) := by decide +kernel
theorem dX7_either2_39 : decode cX7_either2 39 = .ok (.iconst 1, 1) := by decide +kernel
theorem dX7_either2_40 : decode cX7_either2 40 = .ok (.goto 4, 3) := by decide +kernel
theorem dX7_either2_43 : decode cX7_either2 43 = .ok (.iconst 0, 1) := by decide +kernel
theorem dX7_either2_44 : decode cX7_either2 44 = .ok (.istore_n 1, 1) := by decide +kernel
theorem dX7_either2_45 : decode cX7_either2 45 = .ok (.goto (-40), 3) := by decide +kernel
theorem dX7_either2_48 : decode cX7_either2 48 = .ok (.iload_n 1, 1) := by decide +kernel
theorem dX7_either2_49 : decode cX7_either2 49 = .ok (.ireturn, 1) := by decide +kernel
theorem dX7_atom1_0 : decode cX7_atom1 0 = .ok (.iconst 0, 1) := by decide +kernel
theorem dX7_atom1_1 : decode cX7_atom1 1 = .ok (.istore_n 1, 1) := by decide +kernel
theorem dX7_atom1_2 : decode cX7_atom1 2 = .ok (.aload_n 0, 1) := by decide +kernel
theorem dX7_atom1_3 : decode cX7_atom1 3 = .ok (.bipush 45, 2) := by decide +kernel
theorem dX7_atom1_5 : decode cX7_atom1 5 = .ok (.invokevirtual 207, 3) := by decide +kernel
theorem dX7_atom1_8 : decode cX7_atom1 8 = .ok (.ifCond .eq 29, 3) := by decide +kernel
theorem dX7_atom1_11 : decode cX7_atom1 11 = .ok (.aload_n 0, 1) := by decide +kernel
theorem dX7_atom1_12 : decode cX7_atom1 12 = .ok (.invokevirtual 210, 3) := by decide +kernel
theorem dX7_atom1_15 : decode cX7_atom1 15 = .ok (.ifCond .eq 146, 3) := by decide +kernel
theorem dX7_atom1_18 : decode cX7_atom1 18 = .ok (.aload_n 0, 1) := by decide +kernel
theorem dX7_atom1_19 : decode cX7_atom1 19 = .ok (.invokevirtual 276, 3) := by decide +kernel
theorem dX7_atom1_22 : decode cX7_atom1 22 = .ok (.ineg, 1) := by decide +kernel
theorem dX7_atom1_23 : decode cX7_atom1 23 = .ok (.istore_n 1, 1) := by decide +kernel
theorem dX7_atom1_24 : decode cX7_atom1 24 = .ok (.aload_n 0, 1) := by decide +kernel
theorem dX7_atom1_25 : decode cX7_atom1 25 = .ok (.dup, 1) := by decide +kernel
theorem dX7_atom1_26 : decode cX7_atom1 26 = .ok (.getfield 176, 3) := by decide +kernel
theorem dX7_atom1_29 : decode cX7_atom1 29 = .ok (.iconst 1, 1) := by decide +kernel
theorem dX7_atom1_30 : decode cX7_atom1 30 = .ok (.isub, 1) := by decide +kernel
theorem dX7_atom1_31 : decode cX7_atom1 31 = .ok (.putfield 176, 3) := by decide +kernel
theorem dX7_atom1_34 : decode cX7_atom1 34 = .ok (.goto 127, 3) := by decide +kernel
theorem dX7_atom1_37 : decode cX7_atom1 37 = .ok (.aload_n 0, 1) := by decide +kernel
theorem dX7_atom1_38 : decode cX7_atom1 38 = .ok (.bipush 40, 2) := by decide +kernel
theorem dX7_atom1_40 : decode cX7_atom1 40 = .ok (.invokevirtual 207, 3) := by decide +kernel
theorem dX7_atom1_43 : decode cX7_atom1 43 = .ok (.ifCond .eq 52, 3) := by decide +kernel
theorem dX7_atom1_46 : decode cX7_atom1 46 = .ok (.aload_n 0, 1) := by decide +kernel
theorem dX7_atom1_47 : decode cX7_atom1 47 = .ok (.invokevirtual 210, 3) := by decide +kernel
theorem dX7_atom1_50 : decode cX7_atom1 50 = .ok (.ifCond .eq 111, 3) := by decide +kernel
theorem dX7_atom1_53 : decode cX7_atom1 53 = .ok (.aload_n 0, 1) := by decide +kernel
theorem dX7_atom1_54 : decode cX7_atom1 54 = .ok (.invokevirtual 291, 3) := by decide +kernel
theorem dX7_atom1_57 : decode cX7_atom1 57 = .ok (.istore_n 1, 1) := by decide +kernel
theorem dX7_atom1_58 : decode cX7_atom1 58 = .ok (.aload_n 0, 1) := by decide +kernel
theorem dX7_atom1_59 : decode cX7_atom1 59 = .ok (.bipush 41, 2) := by decide +kernel
theorem dX7_atom1_61 : decode cX7_atom1 61 = .ok (.invokevirtual 207, 3) := by decide +kernel
theorem dX7_atom1_64 : decode cX7_atom1 64 = .ok (.ifCond .ne 7, 3) := by decide +kernel
theorem dX7_atom1_67 : decode cX7_atom1 67 = .ok (.aload_n 0, 1) := by decide +kernel
theorem dX7_atom1_68 : decode cX7_atom1 68 = .ok (.invokevirtual 179, 3) := by decide +kernel
theorem dX7_atom1_71 : decode cX7_atom1 71 = .ok (.aload_n 0, 1) := by decide +kernel
theorem dX7_atom1_72 : decode cX7_atom1 72 = .ok (.dup, 1) := by decide +kernel
theorem dX7_atom1_73 : decode cX7_atom1 73 = .ok (.getfield 176, 3) := by decide +kernel
theorem dX7_atom1_76 : decode cX7_atom1 76 = .ok (.iconst 1, 1) := by decide +kernel
theorem dX7_atom1_77 : decode cX7_atom1 77 = .ok (.isub, 1) := by decide +kernel
theorem dX7_atom1_78 : decode cX7_atom1 78 = .ok (.putfield 176, 3) := by decide +kernel
theorem dX7_atom1_81 : decode cX7_atom1 81 = .ok (.aload_n 0, 1) := by decide +kernel
theorem dX7_atom1_82 : decode cX7_atom1 82 = .ok (.getfield 166, 3) := by decide +kernel
theorem dX7_atom1_85 : decode cX7_atom1 85 = .ok (.ifCond .ne 76, 3) := by decide +kernel
theorem dX7_atom1_88 : decode cX7_atom1 88 = .ok (.aload_n 0, 1) := by decide +kernel
theorem dX7_atom1_89 : decode cX7_atom1 89 = .ok (.invokevirtual 182, 3) := by decide +kernel
theorem dX7_atom1_92 : decode cX7_atom1 92 = .ok (.goto 69, 3) := by decide +kernel
theorem dX7_atom1_95 : decode cX7_atom1 95 = .ok (.aload_n 0, 1) := by decide +kernel
theorem dX7_atom1_96 : decode cX7_atom1 96 = .ok (.getfield 166, 3) := by decide +kernel
theorem dX7_atom1_99 : decode cX7_atom1 99 = .ok (.ifCond .ne 24, 3) := by decide +kernel
theorem dX7_atom1_102 : decode cX7_atom1 102 = .ok (.aload_n 0, 1) := by decide +kernel
theorem dX7_atom1_103 : decode cX7_atom1 103 = .ok (.getfield 149, 3) := by decide +kernel
theorem dX7_atom1_106 : decode cX7_atom1 106 = .ok (.iconst 2, 1) := by decide +kernel
theorem dX7_atom1_107 : decode cX7_atom1 107 = .ok (.if_icmp .ne 16, 3) := by decide +kernel
theorem dX7_atom1_110 : decode cX7_atom1 110 = .ok (.aload_n 0, 1) := by decide +kernel
theorem dX7_atom1_111 : decode cX7_atom1 111 = .ok (.getfield 160, 3) := by decide +kernel
theorem dX7_atom1_114 : decode cX7_atom1 114 = .ok (.l2i, 1) := by decide +kernel
theorem dX7_atom1_115 : decode cX7_atom1 115 = .ok (.istore_n 1, 1) := by decide +kernel
theorem dX7_atom1_116 : decode cX7_atom1 116 = .ok (.aload_n 0, 1) := by decide +kernel
theorem dX7_atom1_117 : decode cX7_atom1 117 = .ok (.invokevirtual 182, 3) := by decide +kernel
theorem dX7_atom1_120 : decode cX7_atom1 120 = .ok (.goto 41, 3) := by decide +kernel
theorem dX7_atom1_123 : decode cX7_atom1 123 = .ok (.aload_n 0, 1) := by decide +kernel
theorem dX7_atom1_124 : decode cX7_atom1 124 = .ok (.getfield 166, 3) := by decide +kernel
theorem dX7_atom1_127 : decode cX7_atom1 127 = .ok (.ifCond .ne 30, 3) := by decide +kernel
theorem dX7_atom1_130 : decode cX7_atom1 130 = .ok (.aload_n 0, 1) := by decide +kernel
theorem dX7_atom1_131 : decode cX7_atom1 131 = .ok (.getfield 149, 3) := by decide +kernel
theorem dX7_atom1_134 : decode cX7_atom1 134 = .ok (.iconst 1, 1) := by decide +kernel
theorem dX7_atom1_135 : decode cX7_atom1 135 = .ok (.if_icmp .ne 22, 3) := by decide +kernel
theorem dX7_atom1_138 : decode cX7_atom1 138 = .ok (.aload_n 0, 1) := by decide +kernel
theorem dX7_atom1_139 : decode cX7_atom1 139 = .ok (.invokevirtual 214, 3) := by decide +kernel
theorem dX7_atom1_142 : decode cX7_atom1 142 = .ok (.istore_n 1, 1) := by decide +kernel
theorem dX7_atom1_143 : decode cX7_atom1 143 = .ok (.aload_n 0, 1) := by decide +kernel
theorem dX7_atom1_144 : decode cX7_atom1 144 = .ok (.getfield 166, 3) := by decide +kernel
theorem dX7_atom1_147 : decode cX7_atom1 147 = .ok (.ifCond .ne 14, 3) := by decide +kernel
theorem dX7_atom1_150 : decode cX7_atom1 150 = .ok (.aload_n 0, 1) := by decide +kernel
theorem dX7_atom1_151 : decode cX7_atom1 151 = .ok (.invokevirtual 182, 3) := by decide +kernel
theorem dX7_atom1_154 : decode cX7_atom1 154 = .ok (.goto 7, 3) := by decide +kernel
theorem dX7_atom1_157 : decode cX7_atom1 157 = .ok (.aload_n 0, 1) := by decide +kernel
theorem dX7_atom1_158 : decode cX7_atom1 158 = .ok (.invokevirtual 179, 3) := by decide +kernel
theorem dX7_atom1_161 : decode cX7_atom1 161 = .ok (.iload_n 1, 1) := by decide +kernel
theorem dX7_atom1_162 : decode cX7_atom1 162 = .ok (.ireturn, 1) := by decide +kernel
theorem dX7_term1_0 : decode cX7_term1 0 = .ok (.aload_n 0, 1) := by decide +kernel
theorem dX7_term1_1 : decode cX7_term1 1 = .ok (.invokevirtual 294, 3) := by decide +kernel
theorem dX7_term1_4 : decode cX7_term1 4 = .ok (.istore_n 1, 1) := by decide +kernel
theorem dX7_term1_5 : decode cX7_term1 5 = .ok (.aload_n 0, 1) := by decide +kernel
theorem dX7_term1_6 : decode cX7_term1 6 = .ok (.bipush 42, 2) := by decide +kernel
theorem dX7_term1_8 : decode cX7_term1 8 = .ok (.invokevirtual 207, 3) := by decide +kernel
theorem dX7_term1_11 : decode cX7_term1 11 = .ok (.ifCond .eq 17, 3) := by decide +kernel
theorem dX7_term1_14 : decode cX7_term1 14 = .ok (.aload_n 0, 1) := by decide +kernel
theorem dX7_term1_15 : decode cX7_term1 15 = .ok (.invokevirtual 182, 3) := by decide +kernel
theorem dX7_term1_18 : decode cX7_term1 18 = .ok (.iload_n 1, 1) := by decide +kernel
theorem dX7_term1_19 : decode cX7_term1 19 = .ok (.aload_n 0, 1) := by decide +kernel
theorem dX7_term1_20 : decode cX7_term1 20 = .ok (.invokevirtual 294, 3) := by decide +kernel
theorem dX7_term1_23 : decode cX7_term1 23 = .ok (.imul, 1) := by decide +kernel
theorem dX7_term1_24 : decode cX7_term1 24 = .ok (.istore_n 1, 1) := by decide +kernel
theorem dX7_term1_25 : decode cX7_term1 25 = .ok (.goto (-20), 3) := by decide +kernel
theorem dX7_term1_28 : decode cX7_term1 28 = .ok (.iload_n 1, 1) := by decide +kernel
theorem dX7_term1_29 : decode cX7_term1 29 = .ok (.ireturn, 1) := by decide +kernel
theorem dX7_added1_0 : decode cX7_added1 0 = .ok (.aload_n 0, 1) := by decide +kernel
theorem dX7_added1_1 : decode cX7_added1 1 = .ok (.invokevirtual 297, 3) := by decide +kernel
theorem dX7_added1_4 : decode cX7_added1 4 = .ok (.istore_n 1, 1) := by decide +kernel
theorem dX7_added1_5 : decode cX7_added1 5 = .ok (.aload_n 0, 1) := by decide +kernel
theorem dX7_added1_6 : decode cX7_added1 6 = .ok (.bipush 43, 2) := by decide +kernel
theorem dX7_added1_8 : decode cX7_added1 8 = .ok (.invokevirtual 207, 3) := by decide +kernel
theorem dX7_added1_11 : decode cX7_added1 11 = .ok (.ifCond .ne 12, 3) := by decide +kernel
theorem dX7_added1_14 : decode cX7_added1 14 = .ok (.aload_n 0, 1) := by decide +kernel
theorem dX7_added1_15 : decode cX7_added1 15 = .ok (.bipush 45, 2) := by decide +kernel
theorem dX7_added1_17 : decode cX7_added1 17 = .ok (.invokevirtual 207, 3) := by decide +kernel
theorem dX7_added1_20 : decode cX7_added1 20 = .ok (.ifCond .eq 46, 3) := by decide +kernel
theorem dX7_added1_23 : decode cX7_added1 23 = .ok (.aload_n 0, 1) := by decide +kernel
theorem dX7_added1_24 : decode cX7_added1 24 = .ok (.getfield 160, 3) := by decide +kernel
theorem dX7_added1_27 : decode cX7_added1 27 = .ok (.ldc2_w 224, 3) := by decide +kernel
theorem dX7_added1_30 : decode cX7_added1 30 = .ok (.lcmp, 1) := by decide +kernel
theorem dX7_added1_31 : decode cX7_added1 31 = .ok (.ifCond .ne 7, 3) := by decide +kernel
theorem dX7_added1_34 : decode cX7_added1 34 = .ok (.iconst 1, 1) := by decide +kernel
theorem dX7_added1_35 : decode cX7_added1 35 = .ok (.goto 4, 3) := by decide +kernel
theorem dX7_added1_38 : decode cX7_added1 38 = .ok (.iconst 0, 1) := by decide +kernel
theorem dX7_added1_39 : decode cX7_added1 39 = .ok (.istore_n 2, 1) := by decide +kernel
theorem dX7_added1_40 : decode cX7_added1 40 = .ok (.aload_n 0, 1) := by decide +kernel
theorem dX7_added1_41 : decode cX7_added1 41 = .ok (.invokevirtual 182, 3) := by decide +kernel
theorem dX7_added1_44 : decode cX7_added1 44 = .ok (.aload_n 0, 1) := by decide +kernel
theorem dX7_added1_45 : decode cX7_added1 45 = .ok (.invokevirtual 297, 3) := by decide +kernel
theorem dX7_added1_48 : decode cX7_added1 48 = .ok (.istore_n 3, 1) := by decide +kernel
theorem dX7_added1_49 : decode cX7_added1 49 = .ok (.iload_n 2, 1) := by decide +kernel
theorem dX7_added1_50 : decode cX7_added1 50 = .ok (.ifCond .eq 9, 3) := by decide +kernel
theorem dX7_added1_53 : decode cX7_added1 53 = .ok (.iload_n 1, 1) := by decide +kernel
theorem dX7_added1_54 : decode cX7_added1 54 = .ok (.iload_n 3, 1) := by decide +kernel
theorem dX7_added1_55 : decode cX7_added1 55 = .ok (.iadd, 1) := by decide +kernel
theorem dX7_added1_56 : decode cX7_added1 56 = .ok (.goto 6, 3) := by decide +kernel
theorem dX7_added1_59 : decode cX7_added1 59 = .ok (.iload_n 1, 1) := by decide +kernel
theorem dX7_added1_60 : decode cX7_added1 60 = .ok (.iload_n 3, 1) := by decide +kernel
theorem dX7_added1_61 : decode cX7_added1 61 = .ok (.isub, 1) := by decide +kernel
theorem dX7_added1_62 : decode cX7_added1 62 = .ok (.istore_n 1, 1) := by decide +kernel
theorem dX7_added1_63 : decode cX7_added1 63 = .ok (.goto (-58), 3) := by decide +kernel
theorem dX7_added1_66 : decode cX7_added1 66 = .ok (.iload_n 1, 1) := by decide +kernel
theorem dX7_added1_67 : decode cX7_added1 67 = .ok (.ireturn, 1) := by decide +kernel
theorem dX7_not1_0 : decode cX7_not1 0 = .ok (.aload_n 0, 1) := by decide +kernel
theorem dX7_not1_1 : decode cX7_not1 1 = .ok (.bipush 110, 2) := by decide +kernel
theorem dX7_not1_3 : decode cX7_not1 3 = .ok (.bipush 111, 2) := by decide +kernel
theorem dX7_not1_5 : decode cX7_not1 5 = .ok (.bipush 116, 2) := by decide +kernel
theorem dX7_not1_7 : decode cX7_not1 7 = .ok (.iconst 0, 1) := by decide +kernel
theorem dX7_not1_8 : decode cX7_not1 8 = .ok (.iconst 0, 1) := by decide +kernel
theorem dX7_not1_9 : decode cX7_not1 9 = .ok (.iconst 0, 1) := by decide +kernel
theorem dX7_not1_10 : decode cX7_not1 10 = .ok (.iconst 0, 1) := by decide +kernel
theorem dX7_not1_11 : decode cX7_not1 11 = .ok (.iconst 0, 1) := by decide +kernel
theorem dX7_not1_12 : decode cX7_not1 12 = .ok (.invokevirtual 185, 3) := by decide +kernel
theorem dX7_not1_15 : decode cX7_not1 15 = .ok (.ifCond .eq 37, 3) := by decide +kernel
theorem dX7_not1_18 : decode cX7_not1 18 = .ok (.aload_n 0, 1) := by decide +kernel
theorem dX7_not1_19 : decode cX7_not1 19 = .ok (.invokevirtual 210, 3) := by decide +kernel
theorem dX7_not1_22 : decode cX7_not1 22 = .ok (.ifCond .ne 5, 3) := by decide +kernel
theorem dX7_not1_25 : decode cX7_not1 25 = .ok (.iconst 0, 1) := by decide +kernel
theorem dX7_not1_26 : decode cX7_not1 26 = .ok (.ireturn, 1) := by decide +kernel
theorem dX7_not1_27 : decode cX7_not1 27 = .ok (.aload_n 0, 1) := by decide +kernel
theorem dX7_not1_28 : decode cX7_not1 28 = .ok (.invokevirtual 285, 3) := by decide +kernel
theorem dX7_not1_31 : decode cX7_not1 31 = .ok (.istore_n 1, 1) := by decide +kernel
theorem dX7_not1_32 : decode cX7_not1 32 = .ok (.aload_n 0, 1) := by decide +kernel
theorem dX7_not1_33 : decode cX7_not1 33 = .ok (.dup, 1) := by decide +kernel
theorem dX7_not1_34 : decode cX7_not1 34 = .ok (.getfield 176, 3) := by decide +kernel
theorem dX7_not1_37 : decode cX7_not1 37 = .ok (.iconst 1, 1) := by decide +kernel
theorem dX7_not1_38 : decode cX7_not1 38 = .ok (.isub, 1) := by decide +kernel
theorem dX7_not1_39 : decode cX7_not1 39 = .ok (.putfield 176, 3) := by decide +kernel
theorem dX7_not1_42 : decode cX7_not1 42 = .ok (.iload_n 1, 1) := by decide +kernel
theorem dX7_not1_43 : decode cX7_not1 43 = .ok (.ifCond .ne 7, 3) := by decide +kernel
theorem dX7_not1_46 : decode cX7_not1 46 = .ok (.iconst 1, 1) := by decide +kernel
theorem dX7_not1_47 : decode cX7_not1 47 = .ok (.goto 4, 3) := by decide +kernel
theorem dX7_not1_50 : decode cX7_not1 50 = .ok (.iconst 0, 1) := by decide +kernel
theorem dX7_not1_51 : decode cX7_not1 51 = .ok (.ireturn, 1) := by decide +kernel
theorem dX7_not1_52 : decode cX7_not1 52 = .ok (.aload_n 0, 1) := by decide +kernel
theorem dX7_not1_53 : decode cX7_not1 53 = .ok (.invokevirtual 300, 3) := by decide +kernel
theorem dX7_not1_56 : decode cX7_not1 56 = .ok (.istore_n 1, 1) := by decide +kernel
theorem dX7_not1_57 : decode cX7_not1 57 = .ok (.aload_n 0, 1) := by decide +kernel
theorem dX7_not1_58 : decode cX7_not1 58 = .ok (.bipush 60, 2) := by decide +kernel
theorem dX7_not1_60 : decode cX7_not1 60 = .ok (.invokevirtual 207, 3) := by decide +kernel
theorem dX7_not1_63 : decode cX7_not1 63 = .ok (.ifCond .ne 14, 3) := by decide +kernel
theorem dX7_not1_66 : decode cX7_not1 66 = .ok (.aload_n 0, 1) := by decide +kernel
theorem dX7_not1_67 : decode cX7_not1 67 = .ok (.bipush 61, 2) := by decide +kernel
theorem dX7_not1_69 : decode cX7_not1 69 = .ok (.invokevirtual 207, 3) := by decide +kernel
theorem dX7_not1_72 : decode cX7_not1 72 = .ok (.ifCond .ne 5, 3) := by decide +kernel
theorem dX7_not1_75 : decode cX7_not1 75 = .ok (.iload_n 1, 1) := by decide +kernel
theorem dX7_not1_76 : decode cX7_not1 76 = .ok (.ireturn, 1) := by decide +kernel
theorem dX7_not1_77 : decode cX7_not1 77 = .ok (.aload_n 0, 1) := by decide +kernel
theorem dX7_not1_78 : decode cX7_not1 78 = .ok (.getfield 160, 3) := by decide +kernel
theorem dX7_not1_81 : decode cX7_not1 81 = .ok (.ldc2_w 229, 3) := by decide +kernel
theorem dX7_not1_84 : decode cX7_not1 84 = .ok (.lcmp, 1) := by decide +kernel
theorem dX7_not1_85 : decode cX7_not1 85 = .ok (.ifCond .ne 7, 3) := by decide +kernel
theorem dX7_not1_88 : decode cX7_not1 88 = .ok (.iconst 1, 1) := by decide +kernel
theorem dX7_not1_89 : decode cX7_not1 89 = .ok (.goto 4, 3) := by decide +kernel
theorem dX7_not1_92 : decode cX7_not1 92 = .ok (.iconst 0, 1) := by decide +kernel
theorem dX7_not1_93 : decode cX7_not1 93 = .ok (.istore_n 2, 1) := by decide +kernel
theorem dX7_not1_94 : decode cX7_not1 94 = .ok (.aload_n 0, 1) := by decide +kernel
theorem dX7_not1_95 : decode cX7_not1 95 = .ok (.invokevirtual 182, 3) := by decide +kernel
theorem dX7_not1_98 : decode cX7_not1 98 = .ok (.aload_n 0, 1) := by decide +kernel
theorem dX7_not1_99 : decode cX7_not1 99 = .ok (.invokevirtual 300, 3) := by decide +kernel
theorem dX7_not1_102 : decode cX7_not1 102 = .ok (.istore_n 3, 1) := by decide +kernel
theorem dX7_not1_103 : decode cX7_not1 103 = .ok (.iload_n 2, 1) := by decide +kernel
theorem dX7_not1_104 : decode cX7_not1 104 = .ok (.ifCond .eq 11, 3) := by decide +kernel
theorem dX7_not1_107 : decode cX7_not1 107 = .ok (.iload_n 1, 1) := by decide +kernel
theorem dX7_not1_108 : decode cX7_not1 108 = .ok (.iload_n 3, 1) := by decide +kernel
theorem dX7_not1_109 : decode cX7_not1 109 = .ok (.if_icmp .ge 15, 3) := by decide +kernel
theorem dX7_not1_112 : decode cX7_not1 112 = .ok (.goto 8, 3) := by decide +kernel
theorem dX7_not1_115 : decode cX7_not1 115 = .ok (.iload_n 1, 1) := by decide +kernel
theorem dX7_not1_116 : decode cX7_not1 116 = .ok (.iload_n 3, 1) := by decide +kernel
theorem dX7_not1_117 : decode cX7_not1 117 = .ok (.if_icmp .ne 7, 3) := by decide +kernel
theorem dX7_not1_120 : decode cX7_not1 120 = .ok (.iconst 1, 1) := by decide +kernel
theorem dX7_not1_121 : decode cX7_not1 121 = .ok (.goto 4, 3) := by decide +kernel
theorem dX7_not1_124 : decode cX7_not1 124 = .ok (.iconst 0, 1) := by decide +kernel
theorem dX7_not1_125 : decode cX7_not1 125 = .ok (.ireturn, 1) := by decide +kernel
theorem dX7_both1_0 : decode cX7_both1 0 = .ok (.aload_n 0, 1) := by decide +kernel
theorem dX7_both1_1 : decode cX7_both1 1 = .ok (.invokevirtual 303, 3) := by decide +kernel
theorem dX7_both1_4 : decode cX7_both1 4 = .ok (.istore_n 1, 1) := by decide +kernel
theorem dX7_both1_5 : decode cX7_both1 5 = .ok (.aload_n 0, 1) := by decide +kernel
theorem dX7_both1_6 : decode cX7_both1 6 = .ok (.bipush 97, 2) := by decide +kernel
theorem dX7_both1_8 : decode cX7_both1 8 = .ok (.bipush 110, 2) := by decide +kernel
theorem dX7_both1_10 : decode cX7_both1 10 = .ok (.bipush 100, 2) := by decide +kernel
theorem dX7_both1_12 : decode cX7_both1 12 = .ok (.iconst 0, 1) := by decide +kernel
theorem dX7_both1_13 : decode cX7_both1 13 = .ok (.iconst 0, 1) := by decide +kernel
theorem dX7_both1_14 : decode cX7_both1 14 = .ok (.iconst 0, 1) := by decide +kernel
theorem dX7_both1_15 : decode cX7_both1 15 = .ok (.iconst 0, 1) := by decide +kernel
theorem dX7_both1_16 : decode cX7_both1 16 = .ok (.iconst 0, 1) := by decide +kernel
theorem dX7_both1_17 : decode cX7_both1 17 = .ok (.invokevirtual 185, 3) := by decide +kernel
theorem dX7_both1_20 : decode cX7_both1 20 = .ok (.ifCond .eq 29, 3) := by decide +kernel
theorem dX7_both1_23 : decode cX7_both1 23 = .ok (.aload_n 0, 1) := by decide +kernel
theorem dX7_both1_24 : decode cX7_both1 24 = .ok (.invokevirtual 182, 3) := by decide +kernel
theorem dX7_both1_27 : decode cX7_both1 27 = .ok (.aload_n 0, 1) := by decide +kernel
theorem dX7_both1_28 : decode cX7_both1 28 = .ok (.invokevirtual 303, 3) := by decide +kernel
theorem dX7_both1_31 : decode cX7_both1 31 = .ok (.istore_n 2, 1) := by decide +kernel
theorem dX7_both1_32 : decode cX7_both1 32 = .ok (.iload_n 1, 1) := by decide +kernel
theorem dX7_both1_33 : decode cX7_both1 33 = .ok (.ifCond .eq 11, 3) := by decide +kernel
theorem dX7_both1_36 : decode cX7_both1 36 = .ok (.iload_n 2, 1) := by decide +kernel
theorem dX7_both1_37 : decode cX7_both1 37 = .ok (.ifCond .eq 7, 3) := by decide +kernel
theorem dX7_both1_40 : decode cX7_both1 40 = .ok (.iconst 1, 1) := by decide +kernel
theorem dX7_both1_41 : decode cX7_both1 41 = .ok (.goto 4, 3) := by decide +kernel
theorem dX7_both1_44 : decode cX7_both1 44 = .ok (.iconst 0, 1) := by decide +kernel
theorem dX7_both1_45 : decode cX7_both1 45 = .ok (.istore_n 1, 1) := by decide +kernel
theorem dX7_both1_46 : decode cX7_both1 46 = .ok (.goto (-41), 3) := by decide +kernel
theorem dX7_both1_49 : decode cX7_both1 49 = .ok (.iload_n 1, 1) := by decide +kernel
theorem dX7_both1_50 : decode cX7_both1 50 = .ok (.ireturn, 1) := by decide +kernel
theorem dX7_either1_0 : decode cX7_either1 0 = .ok (.aload_n 0, 1) := by decide +kernel
theorem dX7_either1_1 : decode cX7_either1 1 = .ok (.invokevirtual 306, 3) := by decide +kernel
theorem dX7_either1_4 : decode cX7_either1 4 = .ok (.istore_n 1, 1) := by decide +kernel
theorem dX7_either1_5 : decode cX7_either1 5 = .ok (.aload_n 0, 1) := by decide +kernel
theorem dX7_either1_6 : decode cX7_either1 6 = .ok (.bipush 111, 2) := by decide +kernel
theorem dX7_either1_8 : decode cX7_either1 8 = .ok (.bipush 114, 2) := by decide +kernel
theorem dX7_either1_10 : decode cX7_either1 10 = .ok (.iconst 0, 1) := by decide +kernel
theorem dX7_either1_11 : decode cX7_either1 11 = .ok (.iconst 0, 1) := by decide +kernel
theorem dX7_either1_12 : decode cX7_either1 12 = .ok (.iconst 0, 1) := by decide +kernel
theorem dX7_either1_13 : decode cX7_either1 13 = .ok (.iconst 0, 1) := by decide +kernel
theorem dX7_either1_14 : decode cX7_either1 14 = .ok (.iconst 0, 1) := by decide +kernel
theorem dX7_either1_15 : decode cX7_either1 15 = .ok (.iconst 0, 1) := by decide +kernel
theorem dX7_either1_16 : decode cX7_either1 16 = .ok (.invokevirtual 185, 3) := by decide +kernel
theorem dX7_either1_19 : decode cX7_either1 19 = .ok (.ifCond .eq 29, 3) := by decide +kernel
theorem dX7_either1_22 : decode cX7_either1 22 = .ok (.aload_n 0, 1) := by decide +kernel
theorem dX7_either1_23 : decode cX7_either1 23 = .ok (.invokevirtual 182, 3) := by decide +kernel
theorem dX7_either1_26 : decode cX7_either1 26 = .ok (.aload_n 0, 1) := by decide +kernel
theorem dX7_either1_27 : decode cX7_either1 27 = .ok (.invokevirtual 306, 3) := by decide +kernel
theorem dX7_either1_30 : decode cX7_either1 30 = .ok (.istore_n 2, 1) := by decide +kernel
theorem dX7_either1_31 : decode cX7_either1 31 = .ok (.iload_n 1, 1) := by decide +kernel
theorem dX7_either1_32 : decode cX7_either1 32 = .ok (.ifCond .ne 7, 3) := by decide +kernel
theorem dX7_either1_35 : decode cX7_either1 35 = .ok (.iload_n 2, 1) := by decide +kernel
theorem dX7_either1_36 : decode cX7_either1 36 = .ok (.ifCond .eq 7, 3) := by decide +kernel
theorem dX7_either1_39 : decode cX7_either1 39 = .ok (.iconst 1, 1) := by decide +kernel
theorem dX7_either1_40 : decode cX7_either1 40 = .ok (.goto 4, 3) := by decide +kernel
theorem dX7_either1_43 : decode cX7_either1 43 = .ok (.iconst 0, 1) := by decide +kernel
theorem dX7_either1_44 : decode cX7_either1 44 = .ok (.istore_n 1, 1) := by decide +kernel
theorem dX7_either1_45 : decode cX7_either1 45 = .ok (.goto (-40), 3) := by decide +kernel
theorem dX7_either1_48 : decode cX7_either1 48 = .ok (.iload_n 1, 1) := by decide +kernel
theorem dX7_either1_49 : decode cX7_either1 49 = .ok (.ireturn, 1) := by decide +kernel
theorem dX7_atom0_0 : decode cX7_atom0 0 = .ok (.iconst 0, 1) := by decide +kernel
theorem dX7_atom0_1 : decode cX7_atom0 1 = .ok (.istore_n 1, 1) := by decide +kernel
theorem dX7_atom0_2 : decode cX7_atom0 2 = .ok (.aload_n 0, 1) := by decide +kernel
theorem dX7_atom0_3 : decode cX7_atom0 3 = .ok (.bipush 45, 2) := by decide +kernel
theorem dX7_atom0_5 : decode cX7_atom0 5 = .ok (.invokevirtual 207, 3) := by decide +kernel
theorem dX7_atom0_8 : decode cX7_atom0 8 = .ok (.ifCond .eq 29, 3) := by decide +kernel
theorem dX7_atom0_11 : decode cX7_atom0 11 = .ok (.aload_n 0, 1) := by decide +kernel
theorem dX7_atom0_12 : decode cX7_atom0 12 = .ok (.invokevirtual 210, 3) := by decide +kernel
theorem dX7_atom0_15 : decode cX7_atom0 15 = .ok (.ifCond .eq 146, 3) := by decide +kernel
theorem dX7_atom0_18 : decode cX7_atom0 18 = .ok (.aload_n 0, 1) := by decide +kernel
theorem dX7_atom0_19 : decode cX7_atom0 19 = .ok (.invokevirtual 294, 3) := by decide +kernel
theorem dX7_atom0_22 : decode cX7_atom0 22 = .ok (.ineg, 1) := by decide +kernel
theorem dX7_atom0_23 : decode cX7_atom0 23 = .ok (.istore_n 1, 1) := by decide +kernel
theorem dX7_atom0_24 : decode cX7_atom0 24 = .ok (.aload_n 0, 1) := by decide +kernel
theorem dX7_atom0_25 : decode cX7_atom0 25 = .ok (.dup, 1) := by decide +kernel
theorem dX7_atom0_26 : decode cX7_atom0 26 = .ok (.getfield 176, 3) := by decide +kernel
theorem dX7_atom0_29 : decode cX7_atom0 29 = .ok (.iconst 1, 1) := by decide +kernel
theorem dX7_atom0_30 : decode cX7_atom0 30 = .ok (.isub, 1) := by decide +kernel
theorem dX7_atom0_31 : decode cX7_atom0 31 = .ok (.putfield 176, 3) := by decide +kernel
theorem dX7_atom0_34 : decode cX7_atom0 34 = .ok (.goto 127, 3) := by decide +kernel
theorem dX7_atom0_37 : decode cX7_atom0 37 = .ok (.aload_n 0, 1) := by decide +kernel
theorem dX7_atom0_38 : decode cX7_atom0 38 = .ok (.bipush 40, 2) := by decide +kernel
theorem dX7_atom0_40 : decode cX7_atom0 40 = .ok (.invokevirtual 207, 3) := by decide +kernel
theorem dX7_atom0_43 : decode cX7_atom0 43 = .ok (.ifCond .eq 52, 3) := by decide +kernel
theorem dX7_atom0_46 : decode cX7_atom0 46 = .ok (.aload_n 0, 1) := by decide +kernel
theorem dX7_atom0_47 : decode cX7_atom0 47 = .ok (.invokevirtual 210, 3) := by decide +kernel
theorem dX7_atom0_50 : decode cX7_atom0 50 = .ok (.ifCond .eq 111, 3) := by decide +kernel
theorem dX7_atom0_53 : decode cX7_atom0 53 = .ok (.aload_n 0, 1) := by decide +kernel
theorem dX7_atom0_54 : decode cX7_atom0 54 = .ok (.invokevirtual 309, 3) := by decide +kernel
theorem dX7_atom0_57 : decode cX7_atom0 57 = .ok (.istore_n 1, 1) := by decide +kernel
theorem dX7_atom0_58 : decode cX7_atom0 58 = .ok (.aload_n 0, 1) := by decide +kernel
theorem dX7_atom0_59 : decode cX7_atom0 59 = .ok (.bipush 41, 2) := by decide +kernel
theorem dX7_atom0_61 : decode cX7_atom0 61 = .ok (.invokevirtual 207, 3) := by decide +kernel
theorem dX7_atom0_64 : decode cX7_atom0 64 = .ok (.ifCond .ne 7, 3) := by decide +kernel
theorem dX7_atom0_67 : decode cX7_atom0 67 = .ok (.aload_n 0, 1) := by decide +kernel
theorem dX7_atom0_68 : decode cX7_atom0 68 = .ok (.invokevirtual 179, 3) := by decide +kernel
theorem dX7_atom0_71 : decode cX7_atom0 71 = .ok (.aload_n 0, 1) := by decide +kernel
theorem dX7_atom0_72 : decode cX7_atom0 72 = .ok (.dup, 1) := by decide +kernel
theorem dX7_atom0_73 : decode cX7_atom0 73 = .ok (.getfield 176, 3) := by decide +kernel
theorem dX7_atom0_76 : decode cX7_atom0 76 = .ok (.iconst 1, 1) := by decide +kernel
theorem dX7_atom0_77 : decode cX7_atom0 77 = .ok (.isub, 1) := by decide +kernel
theorem dX7_atom0_78 : decode cX7_atom0 78 = .ok (.putfield 176, 3) := by decide +kernel
theorem dX7_atom0_81 : decode cX7_atom0 81 = .ok (.aload_n 0, 1) := by decide +kernel
theorem dX7_atom0_82 : decode cX7_atom0 82 = .ok (.getfield 166, 3) := by decide +kernel
theorem dX7_atom0_85 : decode cX7_atom0 85 = .ok (.ifCond .ne 76, 3) := by decide +kernel
theorem dX7_atom0_88 : decode cX7_atom0 88 = .ok (.aload_n 0, 1) := by decide +kernel
theorem dX7_atom0_89 : decode cX7_atom0 89 = .ok (.invokevirtual 182, 3) := by decide +kernel
theorem dX7_atom0_92 : decode cX7_atom0 92 = .ok (.goto 69, 3) := by decide +kernel
theorem dX7_atom0_95 : decode cX7_atom0 95 = .ok (.aload_n 0, 1) := by decide +kernel
theorem dX7_atom0_96 : decode cX7_atom0 96 = .ok (.getfield 166, 3) := by decide +kernel
theorem dX7_atom0_99 : decode cX7_atom0 99 = .ok (.ifCond .ne 24, 3) := by decide +kernel
theorem dX7_atom0_102 : decode cX7_atom0 102 = .ok (.aload_n 0, 1) := by decide +kernel
theorem dX7_atom0_103 : decode cX7_atom0 103 = .ok (.getfield 149, 3) := by decide +kernel
theorem dX7_atom0_106 : decode cX7_atom0 106 = .ok (.iconst 2, 1) := by decide +kernel
theorem dX7_atom0_107 : decode cX7_atom0 107 = .ok (.if_icmp .ne 16, 3) := by decide +kernel
theorem dX7_atom0_110 : decode cX7_atom0 110 = .ok (.aload_n 0, 1) := by decide +kernel
theorem dX7_atom0_111 : decode cX7_atom0 111 = .ok (.getfield 160, 3) := by decide +kernel
theorem dX7_atom0_114 : decode cX7_atom0 114 = .ok (.l2i, 1) := by decide +kernel
theorem dX7_atom0_115 : decode cX7_atom0 115 = .ok (.istore_n 1, 1) := by decide +kernel
theorem dX7_atom0_116 : decode cX7_atom0 116 = .ok (.aload_n 0, 1) := by decide +kernel
theorem dX7_atom0_117 : decode cX7_atom0 117 = .ok (.invokevirtual 182, 3) := by decide +kernel
theorem dX7_atom0_120 : decode cX7_atom0 120 = .ok (.goto 41, 3) := by decide +kernel
theorem dX7_atom0_123 : decode cX7_atom0 123 = .ok (.aload_n 0, 1) := by decide +kernel
theorem dX7_atom0_124 : decode cX7_atom0 124 = .ok (.getfield 166, 3) := by decide +kernel
theorem dX7_atom0_127 : decode cX7_atom0 127 = .ok (.ifCond .ne 30, 3) := by decide +kernel
theorem dX7_atom0_130 : decode cX7_atom0 130 = .ok (.aload_n 0, 1) := by decide +kernel
theorem dX7_atom0_131 : decode cX7_atom0 131 = .ok (.getfield 149, 3) := by decide +kernel
theorem dX7_atom0_134 : decode cX7_atom0 134 = .ok (.iconst 1, 1) := by decide +kernel
theorem dX7_atom0_135 : decode cX7_atom0 135 = .ok (.if_icmp .ne 22, 3) := by decide +kernel
theorem dX7_atom0_138 : decode cX7_atom0 138 = .ok (.aload_n 0, 1) := by decide +kernel
theorem dX7_atom0_139 : decode cX7_atom0 139 = .ok (.invokevirtual 214, 3) := by decide +kernel
theorem dX7_atom0_142 : decode cX7_atom0 142 = .ok (.istore_n 1, 1) := by decide +kernel
theorem dX7_atom0_143 : decode cX7_atom0 143 = .ok (.aload_n 0, 1) := by decide +kernel
theorem dX7_atom0_144 : decode cX7_atom0 144 = .ok (.getfield 166, 3) := by decide +kernel
theorem dX7_atom0_147 : decode cX7_atom0 147 = .ok (.ifCond .ne 14, 3) := by decide +kernel
theorem dX7_atom0_150 : decode cX7_atom0 150 = .ok (.aload_n 0, 1) := by decide +kernel
theorem dX7_atom0_151 : decode cX7_atom0 151 = .ok (.invokevirtual 182, 3) := by decide +kernel
theorem dX7_atom0_154 : decode cX7_atom0 154 = .ok (.goto 7, 3) := by decide +kernel
theorem dX7_atom0_157 : decode cX7_atom0 157 = .ok (.aload_n 0, 1) := by decide +kernel
theorem dX7_atom0_158 : decode cX7_atom0 158 = .ok (.invokevirtual 179, 3) := by decide +kernel
theorem dX7_atom0_161 : decode cX7_atom0 161 = .ok (.iload_n 1, 1) := by decide +kernel
theorem dX7_atom0_162 : decode cX7_atom0 162 = .ok (.ireturn, 1) := by decide +kernel
theorem dX7_term0_0 : decode cX7_term0 0 = .ok (.aload_n 0, 1) := by decide +kernel
theorem dX7_term0_1 : decode cX7_term0 1 = .ok (.invokevirtual 312, 3) := by decide +kernel
theorem dX7_term0_4 : decode cX7_term0 4 = .ok (.istore_n 1, 1) := by decide +kernel
theorem dX7_term0_5 : decode cX7_term0 5 = .ok (.aload_n 0, 1) := by decide +kernel
theorem dX7_term0_6 : decode cX7_term0 6 = .ok (.bipush 42, 2) := by decide +kernel
theorem dX7_term0_8 : decode cX7_term0 8 = .ok (.invokevirtual 207, 3) := by decide +kernel
theorem dX7_term0_11 : decode cX7_term0 11 = .ok (.ifCond .eq 17, 3) := by decide +kernel
theorem dX7_term0_14 : decode cX7_term0 14 = .ok (.aload_n 0, 1) := by decide +kernel
theorem dX7_term0_15 : decode cX7_term0 15 = .ok (.invokevirtual 182, 3) := by decide +kernel
theorem dX7_term0_18 : decode cX7_term0 18 = .ok (.iload_n 1, 1) := by decide +kernel
theorem dX7_term0_19 : decode cX7_term0 19 = .ok (.aload_n 0, 1) := by decide +kernel
theorem dX7_term0_20 : decode cX7_term0 20 = .ok (.invokevirtual 312, 3) := by decide +kernel
theorem dX7_term0_23 : decode cX7_term0 23 = .ok (.imul, 1) := by decide +kernel
theorem dX7_term0_24 : decode cX7_term0 24 = .ok (.istore_n 1, 1) := by decide +kernel
theorem dX7_term0_25 : decode cX7_term0 25 = .ok (.goto (-20), 3) := by decide +kernel
theorem dX7_term0_28 : decode cX7_term0 28 = .ok (.iload_n 1, 1) := by decide +kernel
theorem dX7_term0_29 : decode cX7_term0 29 = .ok (.ireturn, 1) := by decide +kernel
theorem dX7_added0_0 : decode cX7_added0 0 = .ok (.aload_n 0, 1) := by decide +kernel
theorem dX7_added0_1 : decode cX7_added0 1 = .ok (.invokevirtual 315, 3) := by decide +kernel
theorem dX7_added0_4 : decode cX7_added0 4 = .ok (.istore_n 1, 1) := by decide +kernel
theorem dX7_added0_5 : decode cX7_added0 5 = .ok (.aload_n 0, 1) := by decide +kernel
theorem dX7_added0_6 : decode cX7_added0 6 = .ok (.bipush 43, 2) := by decide +kernel
theorem dX7_added0_8 : decode cX7_added0 8 = .ok (.invokevirtual 207, 3) := by decide +kernel
theorem dX7_added0_11 : decode cX7_added0 11 = .ok (.ifCond .ne 12, 3) := by decide +kernel
theorem dX7_added0_14 : decode cX7_added0 14 = .ok (.aload_n 0, 1) := by decide +kernel
theorem dX7_added0_15 : decode cX7_added0 15 = .ok (.bipush 45, 2) := by decide +kernel
theorem dX7_added0_17 : decode cX7_added0 17 = .ok (.invokevirtual 207, 3) := by decide +kernel
theorem dX7_added0_20 : decode cX7_added0 20 = .ok (.ifCond .eq 46, 3) := by decide +kernel
theorem dX7_added0_23 : decode cX7_added0 23 = .ok (.aload_n 0, 1) := by decide +kernel
theorem dX7_added0_24 : decode cX7_added0 24 = .ok (.getfield 160, 3) := by decide +kernel
theorem dX7_added0_27 : decode cX7_added0 27 = .ok (.ldc2_w 224, 3) := by decide +kernel
theorem dX7_added0_30 : decode cX7_added0 30 = .ok (.lcmp, 1) := by decide +kernel
theorem dX7_added0_31 : decode cX7_added0 31 = .ok (.ifCond .ne 7, 3) := by decide +kernel
theorem dX7_added0_34 : decode cX7_added0 34 = .ok (.iconst 1, 1) := by decide +kernel
theorem dX7_added0_35 : decode cX7_added0 35 = .ok (.goto 4, 3) := by decide +kernel
theorem dX7_added0_38 : decode cX7_added0 38 = .ok (.iconst 0, 1) := by decide +kernel
theorem dX7_added0_39 : decode cX7_added0 39 = .ok (.istore_n 2, 1) := by decide +kernel
theorem dX7_added0_40 : decode cX7_added0 40 = .ok (.aload_n 0, 1) := by decide +kernel
theorem dX7_added0_41 : decode cX7_added0 41 = .ok (.invokevirtual 182, 3) := by decide +kernel
theorem dX7_added0_44 : decode cX7_added0 44 = .ok (.aload_n 0, 1) := by decide +kernel
theorem dX7_added0_45 : decode cX7_added0 45 = .ok (.invokevirtual 315, 3) := by decide +kernel
theorem dX7_added0_48 : decode cX7_added0 48 = .ok (.istore_n 3, 1) := by decide +kernel
theorem dX7_added0_49 : decode cX7_added0 49 = .ok (.iload_n 2, 1) := by decide +kernel
theorem dX7_added0_50 : decode cX7_added0 50 = .ok (.ifCond .eq 9, 3) := by decide +kernel
theorem dX7_added0_53 : decode cX7_added0 53 = .ok (.iload_n 1, 1) := by decide +kernel
theorem dX7_added0_54 : decode cX7_added0 54 = .ok (.iload_n 3, 1) := by decide +kernel
theorem dX7_added0_55 : decode cX7_added0 55 = .ok (.iadd, 1) := by decide +kernel
theorem dX7_added0_56 : decode cX7_added0 56 = .ok (.goto 6, 3) := by decide +kernel
theorem dX7_added0_59 : decode cX7_added0 59 = .ok (.iload_n 1, 1) := by decide +kernel
theorem dX7_added0_60 : decode cX7_added0 60 = .ok (.iload_n 3, 1) := by decide +kernel
theorem dX7_added0_61 : decode cX7_added0 61 = .ok (.isub, 1) := by decide +kernel
theorem dX7_added0_62 : decode cX7_added0 62 = .ok (.istore_n 1, 1) := by decide +kernel
theorem dX7_added0_63 : decode cX7_added0 63 = .ok (.goto (-58), 3) := by decide +kernel
theorem dX7_added0_66 : decode cX7_added0 66 = .ok (.iload_n 1, 1) := by decide +kernel
theorem dX7_added0_67 : decode cX7_added0 67 = .ok (.ireturn, 1) := by decide +kernel
theorem dX7_not0_0 : decode cX7_not0 0 = .ok (.aload_n 0, 1) := by decide +kernel
theorem dX7_not0_1 : decode cX7_not0 1 = .ok (.bipush 110, 2) := by decide +kernel
theorem dX7_not0_3 : decode cX7_not0 3 = .ok (.bipush 111, 2) := by decide +kernel
theorem dX7_not0_5 : decode cX7_not0 5 = .ok (.bipush 116, 2) := by decide +kernel
theorem dX7_not0_7 : decode cX7_not0 7 = .ok (.iconst 0, 1) := by decide +kernel
theorem dX7_not0_8 : decode cX7_not0 8 = .ok (.iconst 0, 1) := by decide +kernel
theorem dX7_not0_9 : decode cX7_not0 9 = .ok (.iconst 0, 1) := by decide +kernel
theorem dX7_not0_10 : decode cX7_not0 10 = .ok (.iconst 0, 1) := by decide +kernel
theorem dX7_not0_11 : decode cX7_not0 11 = .ok (.iconst 0, 1) := by decide +kernel
theorem dX7_not0_12 : decode cX7_not0 12 = .ok (.invokevirtual 185, 3) := by decide +kernel
theorem dX7_not0_15 : decode cX7_not0 15 = .ok (.ifCond .eq 37, 3) := by decide +kernel
theorem dX7_not0_18 : decode cX7_not0 18 = .ok (.aload_n 0, 1) := by decide +kernel
theorem dX7_not0_19 : decode cX7_not0 19 = .ok (.invokevirtual 210, 3) := by decide +kernel
theorem dX7_not0_22 : decode cX7_not0 22 = .ok (.ifCond .ne 5, 3) := by decide +kernel
theorem dX7_not0_25 : decode cX7_not0 25 = .ok (.iconst 0, 1) := by decide +kernel
theorem dX7_not0_26 : decode cX7_not0 26 = .ok (.ireturn, 1) := by decide +kernel
theorem dX7_not0_27 : decode cX7_not0 27 = .ok (.aload_n 0, 1) := by decide +kernel
theorem dX7_not0_28 : decode cX7_not0 28 = .ok (.invokevirtual 303, 3) := by decide +kernel
theorem dX7_not0_31 : decode cX7_not0 31 = .ok (.istore_n 1, 1) := by decide +kernel
theorem dX7_not0_32 : decode cX7_not0 32 = .ok (.aload_n 0, 1) := by decide +kernel
theorem dX7_not0_33 : decode cX7_not0 33 = .ok (.dup, 1) := by decide +kernel
theorem dX7_not0_34 : decode cX7_not0 34 = .ok (.getfield 176, 3) := by decide +kernel
theorem dX7_not0_37 : decode cX7_not0 37 = .ok (.iconst 1, 1) := by decide +kernel
theorem dX7_not0_38 : decode cX7_not0 38 = .ok (.isub, 1) := by decide +kernel
theorem dX7_not0_39 : decode cX7_not0 39 = .ok (.putfield 176, 3) := by decide +kernel
theorem dX7_not0_42 : decode cX7_not0 42 = .ok (.iload_n 1, 1) := by decide +kernel
theorem dX7_not0_43 : decode cX7_not0 43 = .ok (.ifCond .ne 7, 3) := by decide +kernel
theorem dX7_not0_46 : decode cX7_not0 46 = .ok (.iconst 1, 1) := by decide +kernel
theorem dX7_not0_47 : decode cX7_not0 47 = .ok (.goto 4, 3) := by decide +kernel
theorem dX7_not0_50 : decode cX7_not0 50 = .ok (.iconst 0, 1) := by decide +kernel
theorem dX7_not0_51 : decode cX7_not0 51 = .ok (.ireturn, 1) := by decide +kernel
theorem dX7_not0_52 : decode cX7_not0 52 = .ok (.aload_n 0, 1) := by decide +kernel
theorem dX7_not0_53 : decode cX7_not0 53 = .ok (.invokevirtual 318, 3) := by decide +kernel
theorem dX7_not0_56 : decode cX7_not0 56 = .ok (.istore_n 1, 1) := by decide +kernel
theorem dX7_not0_57 : decode cX7_not0 57 = .ok (.aload_n 0, 1) := by decide +kernel
theorem dX7_not0_58 : decode cX7_not0 58 = .ok (.bipush 60, 2) := by decide +kernel
theorem dX7_not0_60 : decode cX7_not0 60 = .ok (.invokevirtual 207, 3) := by decide +kernel
theorem dX7_not0_63 : decode cX7_not0 63 = .ok (.ifCond .ne 14, 3) := by decide +kernel
theorem dX7_not0_66 : decode cX7_not0 66 = .ok (.aload_n 0, 1) := by decide +kernel
theorem dX7_not0_67 : decode cX7_not0 67 = .ok (.bipush 61, 2) := by decide +kernel
theorem dX7_not0_69 : decode cX7_not0 69 = .ok (.invokevirtual 207, 3) := by decide +kernel
theorem dX7_not0_72 : decode cX7_not0 72 = .ok (.ifCond .ne 5, 3) := by decide +kernel
theorem dX7_not0_75 : decode cX7_not0 75 = .ok (.iload_n 1, 1) := by decide +kernel
theorem dX7_not0_76 : decode cX7_not0 76 = .ok (.ireturn, 1) := by decide +kernel
theorem dX7_not0_77 : decode cX7_not0 77 = .ok (.aload_n 0, 1) := by decide +kernel
theorem dX7_not0_78 : decode cX7_not0 78 = .ok (.getfield 160, 3) := by decide +kernel
theorem dX7_not0_81 : decode cX7_not0 81 = .ok (.ldc2_w 229, 3) := by decide +kernel
theorem dX7_not0_84 : decode cX7_not0 84 = .ok (.lcmp, 1) := by decide +kernel
theorem dX7_not0_85 : decode cX7_not0 85 = .ok (.ifCond .ne 7, 3) := by decide +kernel
theorem dX7_not0_88 : decode cX7_not0 88 = .ok (.iconst 1, 1) := by decide +kernel
theorem dX7_not0_89 : decode cX7_not0 89 = .ok (.goto 4, 3) := by decide +kernel
theorem dX7_not0_92 : decode cX7_not0 92 = .ok (.iconst 0, 1) := by decide +kernel
theorem dX7_not0_93 : decode cX7_not0 93 = .ok (.istore_n 2, 1) := by decide +kernel
theorem dX7_not0_94 : decode cX7_not0 94 = .ok (.aload_n 0, 1) := by decide +kernel
theorem dX7_not0_95 : decode cX7_not0 95 = .ok (.invokevirtual 182, 3) := by decide +kernel
theorem dX7_not0_98 : decode cX7_not0 98 = .ok (.aload_n 0, 1) := by decide +kernel
theorem dX7_not0_99 : decode cX7_not0 99 = .ok (.invokevirtual 318, 3) := by decide +kernel
theorem dX7_not0_102 : decode cX7_not0 102 = .ok (.istore_n 3, 1) := by decide +kernel
theorem dX7_not0_103 : decode cX7_not0 103 = .ok (.iload_n 2, 1) := by decide +kernel
theorem dX7_not0_104 : decode cX7_not0 104 = .ok (.ifCond .eq 11, 3) := by decide +kernel
theorem dX7_not0_107 : decode cX7_not0 107 = .ok (.iload_n 1, 1) := by decide +kernel
theorem dX7_not0_108 : decode cX7_not0 108 = .ok (.iload_n 3, 1) := by decide +kernel
theorem dX7_not0_109 : decode cX7_not0 109 = .ok (.if_icmp .ge 15, 3) := by decide +kernel
theorem dX7_not0_112 : decode cX7_not0 112 = .ok (.goto 8, 3) := by decide +kernel
theorem dX7_not0_115 : decode cX7_not0 115 = .ok (.iload_n 1, 1) := by decide +kernel
theorem dX7_not0_116 : decode cX7_not0 116 = .ok (.iload_n 3, 1) := by decide +kernel
theorem dX7_not0_117 : decode cX7_not0 117 = .ok (.if_icmp .ne 7, 3) := by decide +kernel
theorem dX7_not0_120 : decode cX7_not0 120 = .ok (.iconst 1, 1) := by decide +kernel
theorem dX7_not0_121 : decode cX7_not0 121 = .ok (.goto 4, 3) := by decide +kernel
theorem dX7_not0_124 : decode cX7_not0 124 = .ok (.iconst 0, 1) := by decide +kernel
theorem dX7_not0_125 : decode cX7_not0 125 = .ok (.ireturn, 1) := by decide +kernel
theorem dX7_both0_0 : decode cX7_both0 0 = .ok (.aload_n 0, 1) := by decide +kernel
theorem dX7_both0_1 : decode cX7_both0 1 = .ok (.invokevirtual 321, 3) := by decide +kernel
theorem dX7_both0_4 : decode cX7_both0 4 = .ok (.istore_n 1, 1) := by decide +kernel
theorem dX7_both0_5 : decode cX7_both0 5 = .ok (.aload_n 0, 1) := by decide +kernel
theorem dX7_both0_6 : decode cX7_both0 6 = .ok (.bipush 97, 2) := by decide +kernel
theorem dX7_both0_8 : decode cX7_both0 8 = .ok (.bipush 110, 2) := by decide +kernel
theorem dX7_both0_10 : decode cX7_both0 10 = .ok (.bipush 100, 2) := by decide +kernel
theorem dX7_both0_12 : decode cX7_both0 12 = .ok (.iconst 0, 1) := by decide +kernel
theorem dX7_both0_13 : decode cX7_both0 13 = .ok (.iconst 0, 1) := by decide +kernel
theorem dX7_both0_14 : decode cX7_both0 14 = .ok (.iconst 0, 1) := by decide +kernel
theorem dX7_both0_15 : decode cX7_both0 15 = .ok (.iconst 0, 1) := by decide +kernel
theorem dX7_both0_16 : decode cX7_both0 16 = .ok (.iconst 0, 1) := by decide +kernel
theorem dX7_both0_17 : decode cX7_both0 17 = .ok (.invokevirtual 185, 3) := by decide +kernel
theorem dX7_both0_20 : decode cX7_both0 20 = .ok (.ifCond .eq 29, 3) := by decide +kernel
theorem dX7_both0_23 : decode cX7_both0 23 = .ok (.aload_n 0, 1) := by decide +kernel
theorem dX7_both0_24 : decode cX7_both0 24 = .ok (.invokevirtual 182, 3) := by decide +kernel
theorem dX7_both0_27 : decode cX7_both0 27 = .ok (.aload_n 0, 1) := by decide +kernel
theorem dX7_both0_28 : decode cX7_both0 28 = .ok (.invokevirtual 321, 3) := by decide +kernel
theorem dX7_both0_31 : decode cX7_both0 31 = .ok (.istore_n 2, 1) := by decide +kernel
theorem dX7_both0_32 : decode cX7_both0 32 = .ok (.iload_n 1, 1) := by decide +kernel
theorem dX7_both0_33 : decode cX7_both0 33 = .ok (.ifCond .eq 11, 3) := by decide +kernel
theorem dX7_both0_36 : decode cX7_both0 36 = .ok (.iload_n 2, 1) := by decide +kernel
theorem dX7_both0_37 : decode cX7_both0 37 = .ok (.ifCond .eq 7, 3) := by decide +kernel
theorem dX7_both0_40 : decode cX7_both0 40 = .ok (.iconst 1, 1) := by decide +kernel
theorem dX7_both0_41 : decode cX7_both0 41 = .ok (.goto 4, 3) := by decide +kernel
theorem dX7_both0_44 : decode cX7_both0 44 = .ok (.iconst 0, 1) := by decide +kernel
theorem dX7_both0_45 : decode cX7_both0 45 = .ok (.istore_n 1, 1) := by decide +kernel
theorem dX7_both0_46 : decode cX7_both0 46 = .ok (.goto (-41), 3) := by decide +kernel
theorem dX7_both0_49 : decode cX7_both0 49 = .ok (.iload_n 1, 1) := by decide +kernel
theorem dX7_both0_50 : decode cX7_both0 50 = .ok (.ireturn, 1) := by decide +kernel
theorem dX7_either0_0 : decode cX7_either0 0 = .ok (.aload_n 0, 1) := by decide +kernel
theorem dX7_either0_1 : decode cX7_either0 1 = .ok (.invokevirtual 324, 3) := by decide +kernel
theorem dX7_either0_4 : decode cX7_either0 4 = .ok (.istore_n 1, 1) := by decide +kernel
theorem dX7_either0_5 : decode cX7_either0 5 = .ok (.aload_n 0, 1) := by decide +kernel
theorem dX7_either0_6 : decode cX7_either0 6 = .ok (.bipush 111, 2) := by decide +kernel
theorem dX7_either0_8 : decode cX7_either0 8 = .ok (.bipush 114, 2) := by decide +kernel
theorem dX7_either0_10 : decode cX7_either0 10 = .ok (.iconst 0, 1) := by decide +kernel
theorem dX7_either0_11 : decode cX7_either0 11 = .ok (.iconst 0, 1) := by decide +kernel
theorem dX7_either0_12 : decode cX7_either0 12 = .ok (.iconst 0, 1) := by decide +kernel
theorem dX7_either0_13 : decode cX7_either0 13 = .ok (.iconst 0, 1) := by decide +kernel
theorem dX7_either0_14 : decode cX7_either0 14 = .ok (.iconst 0, 1) := by decide +kernel
theorem dX7_either0_15 : decode cX7_either0 15 = .ok (.iconst 0, 1) := by decide +kernel
theorem dX7_either0_16 : decode cX7_either0 16 = .ok (.invokevirtual 185, 3) := by decide +kernel
theorem dX7_either0_19 : decode cX7_either0 19 = .ok (.ifCond .eq 29, 3) := by decide +kernel
theorem dX7_either0_22 : decode cX7_either0 22 = .ok (.aload_n 0, 1) := by decide +kernel
theorem dX7_either0_23 : decode cX7_either0 23 = .ok (.invokevirtual 182, 3) := by decide +kernel
theorem dX7_either0_26 : decode cX7_either0 26 = .ok (.aload_n 0, 1) := by decide +kernel
theorem dX7_either0_27 : decode cX7_either0 27 = .ok (.invokevirtual 324, 3) := by decide +kernel
theorem dX7_either0_30 : decode cX7_either0 30 = .ok (.istore_n 2, 1) := by decide +kernel
theorem dX7_either0_31 : decode cX7_either0 31 = .ok (.iload_n 1, 1) := by decide +kernel
theorem dX7_either0_32 : decode cX7_either0 32 = .ok (.ifCond .ne 7, 3) := by decide +kernel
theorem dX7_either0_35 : decode cX7_either0 35 = .ok (.iload_n 2, 1) := by decide +kernel
theorem dX7_either0_36 : decode cX7_either0 36 = .ok (.ifCond .eq 7, 3) := by decide +kernel
theorem dX7_either0_39 : decode cX7_either0 39 = .ok (.iconst 1, 1) := by decide +kernel
theorem dX7_either0_40 : decode cX7_either0 40 = .ok (.goto 4, 3) := by decide +kernel
theorem dX7_either0_43 : decode cX7_either0 43 = .ok (.iconst 0, 1) := by decide +kernel
theorem dX7_either0_44 : decode cX7_either0 44 = .ok (.istore_n 1, 1) := by decide +kernel
theorem dX7_either0_45 : decode cX7_either0 45 = .ok (.goto (-40), 3) := by decide +kernel
theorem dX7_either0_48 : decode cX7_either0 48 = .ok (.iload_n 1, 1) := by decide +kernel
theorem dX7_either0_49 : decode cX7_either0 49 = .ok (.ireturn, 1) := by decide +kernel
theorem dX7_part_0 : decode cX7_part 0 = .ok (.iload_n 1, 1) := by decide +kernel
theorem dX7_part_1 : decode cX7_part 1 = .ok (.ifCond .ne 7, 3) := by decide +kernel
theorem dX7_part_4 : decode cX7_part 4 = .ok (.aload_n 0, 1) := by decide +kernel
theorem dX7_part_5 : decode cX7_part 5 = .ok (.invokevirtual 179, 3) := by decide +kernel
theorem dX7_part_8 : decode cX7_part 8 = .ok (.aload_n 0, 1) := by decide +kernel
theorem dX7_part_9 : decode cX7_part 9 = .ok (.getfield 166, 3) := by decide +kernel
theorem dX7_part_12 : decode cX7_part 12 = .ok (.ifCond .ne 7, 3) := by decide +kernel
theorem dX7_part_15 : decode cX7_part 15 = .ok (.aload_n 0, 1) := by decide +kernel
theorem dX7_part_16 : decode cX7_part 16 = .ok (.invokevirtual 182, 3) := by decide +kernel
theorem dX7_part_19 : decode cX7_part 19 = .ok (.aload_n 0, 1) := by decide +kernel
theorem dX7_part_20 : decode cX7_part 20 = .ok (.getfield 166, 3) := by decide +kernel
theorem dX7_part_23 : decode cX7_part 23 = .ok (.ifCond .eq 7, 3) := by decide +kernel
theorem dX7_part_26 : decode cX7_part 26 = .ok (.iconst 0, 1) := by decide +kernel
theorem dX7_part_27 : decode cX7_part 27 = .ok (.goto 7, 3) := by decide +kernel
theorem dX7_part_30 : decode cX7_part 30 = .ok (.aload_n 0, 1) := by decide +kernel
theorem dX7_part_31 : decode cX7_part 31 = .ok (.invokevirtual 327, 3) := by decide +kernel
theorem dX7_part_34 : decode cX7_part 34 = .ok (.istore_n 2, 1) := by decide +kernel
theorem dX7_part_35 : decode cX7_part 35 = .ok (.aload_n 0, 1) := by decide +kernel
theorem dX7_part_36 : decode cX7_part 36 = .ok (.bipush 59, 2) := by decide +kernel
theorem dX7_part_38 : decode cX7_part 38 = .ok (.invokevirtual 207, 3) := by decide +kernel
theorem dX7_part_41 : decode cX7_part 41 = .ok (.ifCond .ne 7, 3) := by decide +kernel
theorem dX7_part_44 : decode cX7_part 44 = .ok (.aload_n 0, 1) := by decide +kernel
theorem dX7_part_45 : decode cX7_part 45 = .ok (.invokevirtual 179, 3) := by decide +kernel
theorem dX7_part_48 : decode cX7_part 48 = .ok (.aload_n 0, 1) := by decide +kernel
theorem dX7_part_49 : decode cX7_part 49 = .ok (.getfield 166, 3) := by decide +kernel
theorem dX7_part_52 : decode cX7_part 52 = .ok (.ifCond .ne 7, 3) := by decide +kernel
theorem dX7_part_55 : decode cX7_part 55 = .ok (.aload_n 0, 1) := by decide +kernel
theorem dX7_part_56 : decode cX7_part 56 = .ok (.invokevirtual 182, 3) := by decide +kernel
theorem dX7_part_59 : decode cX7_part 59 = .ok (.iload_n 2, 1) := by decide +kernel
theorem dX7_part_60 : decode cX7_part 60 = .ok (.ireturn, 1) := by decide +kernel
theorem dX7_read_0 : decode cX7_read 0 = .ok (.aload_n 0, 1) := by decide +kernel
theorem dX7_read_1 : decode cX7_read 1 = .ok (.sipush 160, 3) := by decide +kernel
theorem dX7_read_4 : decode cX7_read 4 = .ok (.iload_n 1, 1) := by decide +kernel
theorem dX7_read_5 : decode cX7_read 5 = .ok (.imul, 1) := by decide +kernel
theorem dX7_read_6 : decode cX7_read 6 = .ok (.putfield 137, 3) := by decide +kernel
theorem dX7_read_9 : decode cX7_read 9 = .ok (.aload_n 0, 1) := by decide +kernel
theorem dX7_read_10 : decode cX7_read 10 = .ok (.aload_n 0, 1) := by decide +kernel
theorem dX7_read_11 : decode cX7_read 11 = .ok (.getfield 17, 3) := by decide +kernel
theorem dX7_read_14 : decode cX7_read 14 = .ok (.iload_n 1, 1) := by decide +kernel
theorem dX7_read_15 : decode cX7_read 15 = .ok (.iaload, 1) := by decide +kernel
theorem dX7_read_16 : decode cX7_read 16 = .ok (.putfield 134, 3) := by decide +kernel
theorem dX7_read_19 : decode cX7_read 19 = .ok (.aload_n 0, 1) := by decide +kernel
theorem dX7_read_20 : decode cX7_read 20 = .ok (.iconst 0, 1) := by decide +kernel
theorem dX7_read_21 : decode cX7_read 21 = .ok (.putfield 140, 3) := by decide +kernel
theorem dX7_read_24 : decode cX7_read 24 = .ok (.aload_n 0, 1) := by decide +kernel
theorem dX7_read_25 : decode cX7_read 25 = .ok (.iconst 0, 1) := by decide +kernel
theorem dX7_read_26 : decode cX7_read 26 = .ok (.putfield 176, 3) := by decide +kernel
theorem dX7_read_29 : decode cX7_read 29 = .ok (.aload_n 0, 1) := by decide +kernel
theorem dX7_read_30 : decode cX7_read 30 = .ok (.iconst 0, 1) := by decide +kernel
theorem dX7_read_31 : decode cX7_read 31 = .ok (.putfield 166, 3) := by decide +kernel
theorem dX7_read_34 : decode cX7_read 34 = .ok (.aload_n 0, 1) := by decide +kernel
theorem dX7_read_35 : decode cX7_read 35 = .ok (.invokevirtual 182, 3) := by decide +kernel
theorem dX7_read_38 : decode cX7_read 38 = .ok (.aload_n 0, 1) := by decide +kernel
theorem dX7_read_39 : decode cX7_read 39 = .ok (.aload_n 0, 1) := by decide +kernel
theorem dX7_read_40 : decode cX7_read 40 = .ok (.bipush 108, 2) := by decide +kernel
theorem dX7_read_42 : decode cX7_read 42 = .ok (.bipush 97, 2) := by decide +kernel
theorem dX7_read_44 : decode cX7_read 44 = .ok (.bipush 115, 2) := by decide +kernel
theorem dX7_read_46 : decode cX7_read 46 = .ok (.bipush 116, 2) := by decide +kernel
theorem dX7_read_48 : decode cX7_read 48 = .ok (.bipush 115, 2) := by decide +kernel
theorem dX7_read_50 : decode cX7_read 50 = .ok (.iconst 0, 1) := by decide +kernel
theorem dX7_read_51 : decode cX7_read 51 = .ok (.iconst 0, 1) := by decide +kernel
theorem dX7_read_52 : decode cX7_read 52 = .ok (.iconst 0, 1) := by decide +kernel
theorem dX7_read_53 : decode cX7_read 53 = .ok (.invokevirtual 185, 3) := by decide +kernel
theorem dX7_read_56 : decode cX7_read 56 = .ok (.invokevirtual 330, 3) := by decide +kernel
theorem dX7_read_59 : decode cX7_read 59 = .ok (.istore_n 3, 1) := by decide +kernel
theorem dX7_read_60 : decode cX7_read 60 = .ok (.aload_n 0, 1) := by decide +kernel
theorem dX7_read_61 : decode cX7_read 61 = .ok (.getfield 166, 3) := by decide +kernel
theorem dX7_read_64 : decode cX7_read 64 = .ok (.ifCond .eq 7, 3) := by decide +kernel
theorem dX7_read_67 : decode cX7_read 67 = .ok (.iconst 0, 1) := by decide +kernel
theorem dX7_read_68 : decode cX7_read 68 = .ok (.goto 24, 3) := by decide +kernel
theorem dX7_read_71 : decode cX7_read 71 = .ok (.aload_n 0, 1) := by decide +kernel
theorem dX7_read_72 : decode cX7_read 72 = .ok (.aload_n 0, 1) := by decide +kernel
theorem dX7_read_73 : decode cX7_read 73 = .ok (.bipush 112, 2) := by decide +kernel
theorem dX7_read_75 : decode cX7_read 75 = .ok (.bipush 97, 2) := by decide +kernel
theorem dX7_read_77 : decode cX7_read 77 = .ok (.bipush 99, 2) := by decide +kernel
theorem dX7_read_79 : decode cX7_read 79 = .ok (.bipush 101, 2) := by decide +kernel
theorem dX7_read_81 : decode cX7_read 81 = .ok (.bipush 115, 2) := by decide +kernel
theorem dX7_read_83 : decode cX7_read 83 = .ok (.iconst 0, 1) := by decide +kernel
theorem dX7_read_84 : decode cX7_read 84 = .ok (.iconst 0, 1) := by decide +kernel
theorem dX7_read_85 : decode cX7_read 85 = .ok (.iconst 0, 1) := by decide +kernel
theorem dX7_read_86 : decode cX7_read 86 = .ok (.invokevirtual 185, 3) := by decide +kernel
theorem dX7_read_89 : decode cX7_read 89 = .ok (.invokevirtual 330, 3) := by decide +kernel
theorem dX7_read_92 : decode cX7_read 92 = .ok (.istore 4, 2) := by decide +kernel
theorem dX7_read_94 : decode cX7_read 94 = .ok (.aload_n 0, 1) := by decide +kernel
theorem dX7_read_95 : decode cX7_read 95 = .ok (.getfield 166, 3) := by decide +kernel
theorem dX7_read_98 : decode cX7_read 98 = .ok (.ifCond .eq 7, 3) := by decide +kernel
theorem dX7_read_101 : decode cX7_read 101 = .ok (.iconst 0, 1) := by decide +kernel
theorem dX7_read_102 : decode cX7_read 102 = .ok (.goto 24, 3) := by decide +kernel
theorem dX7_read_105 : decode cX7_read 105 = .ok (.aload_n 0, 1) := by decide +kernel
theorem dX7_read_106 : decode cX7_read 106 = .ok (.aload_n 0, 1) := by decide +kernel
theorem dX7_read_107 : decode cX7_read 107 = .ok (.bipush 115, 2) := by decide +kernel
theorem dX7_read_109 : decode cX7_read 109 = .ok (.bipush 116, 2) := by decide +kernel
theorem dX7_read_111 : decode cX7_read 111 = .ok (.bipush 111, 2) := by decide +kernel
theorem dX7_read_113 : decode cX7_read 113 = .ok (.bipush 112, 2) := by decide +kernel
theorem dX7_read_115 : decode cX7_read 115 = .ok (.bipush 115, 2) := by decide +kernel
theorem dX7_read_117 : decode cX7_read 117 = .ok (.iconst 0, 1) := by decide +kernel
theorem dX7_read_118 : decode cX7_read 118 = .ok (.iconst 0, 1) := by decide +kernel
theorem dX7_read_119 : decode cX7_read 119 = .ok (.iconst 0, 1) := by decide +kernel
theorem dX7_read_120 : decode cX7_read 120 = .ok (.invokevirtual 185, 3) := by decide +kernel
theorem dX7_read_123 : decode cX7_read 123 = .ok (.invokevirtual 330, 3) := by decide +kernel
theorem dX7_read_126 : decode cX7_read 126 = .ok (.istore 5, 2) := by decide +kernel
theorem dX7_read_128 : decode cX7_read 128 = .ok (.aload_n 0, 1) := by decide +kernel
theorem dX7_read_129 : decode cX7_read 129 = .ok (.getfield 166, 3) := by decide +kernel
theorem dX7_read_132 : decode cX7_read 132 = .ok (.ifCond .ne 14, 3) := by decide +kernel
theorem dX7_read_135 : decode cX7_read 135 = .ok (.aload_n 0, 1) := by decide +kernel
theorem dX7_read_136 : decode cX7_read 136 = .ok (.getfield 149, 3) := by decide +kernel
theorem dX7_read_139 : decode cX7_read 139 = .ok (.ifCond .eq 7, 3) := by decide +kernel
theorem dX7_read_142 : decode cX7_read 142 = .ok (.aload_n 0, 1) := by decide +kernel
theorem dX7_read_143 : decode cX7_read 143 = .ok (.invokevirtual 179, 3) := by decide +kernel
theorem dX7_read_146 : decode cX7_read 146 = .ok (.iload_n 2, 1) := by decide +kernel
theorem dX7_read_147 : decode cX7_read 147 = .ok (.ifCond .ne 7, 3) := by decide +kernel
theorem dX7_read_150 : decode cX7_read 150 = .ok (.iload_n 3, 1) := by decide +kernel
theorem dX7_read_151 : decode cX7_read 151 = .ok (.goto 15, 3) := by decide +kernel
theorem dX7_read_154 : decode cX7_read 154 = .ok (.iload_n 2, 1) := by decide +kernel
theorem dX7_read_155 : decode cX7_read 155 = .ok (.iconst 1, 1) := by decide +kernel
theorem dX7_read_156 : decode cX7_read 156 = .ok (.if_icmp .ne 8, 3) := by decide +kernel
theorem dX7_read_159 : decode cX7_read 159 = .ok (.iload 4, 2) := by decide +kernel
theorem dX7_read_161 : decode cX7_read 161 = .ok (.goto 5, 3) := by decide +kernel
theorem dX7_read_164 : decode cX7_read 164 = .ok (.iload 5, 2) := by decide +kernel
theorem dX7_read_166 : decode cX7_read 166 = .ok (.ireturn, 1) := by decide +kernel
theorem dX7_text_0 : decode cX7_text 0 = .ok (.aload_n 0, 1) := by decide +kernel
theorem dX7_text_1 : decode cX7_text 1 = .ok (.getfield 61, 3) := by decide +kernel
theorem dX7_text_4 : decode cX7_text 4 = .ok (.bipush 6, 2) := by decide +kernel
theorem dX7_text_6 : decode cX7_text 6 = .ok (.if_icmp .ne 6, 3) := by decide +kernel
theorem dX7_text_9 : decode cX7_text 9 = .ok (.bipush (-4), 2) := by decide +kernel
theorem dX7_text_11 : decode cX7_text 11 = .ok (.ireturn, 1) := by decide +kernel
theorem dX7_text_12 : decode cX7_text 12 = .ok (.iconst 0, 1) := by decide +kernel
theorem dX7_text_13 : decode cX7_text 13 = .ok (.istore_n 1, 1) := by decide +kernel
theorem dX7_text_14 : decode cX7_text 14 = .ok (.iload_n 1, 1) := by decide +kernel
theorem dX7_text_15 : decode cX7_text 15 = .ok (.aload_n 0, 1) := by decide +kernel
theorem dX7_text_16 : decode cX7_text 16 = .ok (.getfield 131, 3) := by decide +kernel
theorem dX7_text_19 : decode cX7_text 19 = .ok (.if_icmp .ge 30, 3) := by decide +kernel
theorem dX7_text_22 : decode cX7_text 22 = .ok (.aload_n 0, 1) := by decide +kernel
theorem dX7_text_23 : decode cX7_text 23 = .ok (.getfield 13, 3) := by decide +kernel
theorem dX7_text_26 : decode cX7_text 26 = .ok (.sipush 160, 3) := by decide +kernel
theorem dX7_text_29 : decode cX7_text 29 = .ok (.aload_n 0, 1) := by decide +kernel
theorem dX7_text_30 : decode cX7_text 30 = .ok (.getfield 61, 3) := by decide +kernel
theorem dX7_text_33 : decode cX7_text 33 = .ok (.imul, 1) := by decide +kernel
theorem dX7_text_34 : decode cX7_text 34 = .ok (.iload_n 1, 1) := by decide +kernel
theorem dX7_text_35 : decode cX7_text 35 = .ok (.iadd, 1) := by decide +kernel
theorem dX7_text_36 : decode cX7_text 36 = .ok (.aload_n 0, 1) := by decide +kernel
theorem dX7_text_37 : decode cX7_text 37 = .ok (.getfield 20, 3) := by decide +kernel
theorem dX7_text_40 : decode cX7_text 40 = .ok (.iload_n 1, 1) := by decide +kernel
theorem dX7_text_41 : decode cX7_text 41 = .ok (.iaload, 1) := by decide +kernel
theorem dX7_text_42 : decode cX7_text 42 = .ok (.iastore, 1) := by decide +kernel
theorem dX7_text_43 : decode cX7_text 43 = .ok (.iinc 1 1, 3) := by decide +kernel
theorem dX7_text_46 : decode cX7_text 46 = .ok (.goto (-32), 3) := by decide +kernel
theorem dX7_text_49 : decode cX7_text 49 = .ok (.aload_n 0, 1) := by decide +kernel
theorem dX7_text_50 : decode cX7_text 50 = .ok (.getfield 17, 3) := by decide +kernel
theorem dX7_text_53 : decode cX7_text 53 = .ok (.aload_n 0, 1) := by decide +kernel
theorem dX7_text_54 : decode cX7_text 54 = .ok (.getfield 61, 3) := by decide +kernel
theorem dX7_text_57 : decode cX7_text 57 = .ok (.aload_n 0, 1) := by decide +kernel
theorem dX7_text_58 : decode cX7_text 58 = .ok (.getfield 131, 3) := by decide +kernel
theorem dX7_text_61 : decode cX7_text 61 = .ok (.iastore, 1) := by decide +kernel
theorem dX7_text_62 : decode cX7_text 62 = .ok (.aload_n 0, 1) := by decide +kernel
theorem dX7_text_63 : decode cX7_text 63 = .ok (.iconst 0, 1) := by decide +kernel
theorem dX7_text_64 : decode cX7_text 64 = .ok (.putfield 131, 3) := by decide +kernel
theorem dX7_text_67 : decode cX7_text 67 = .ok (.aload_n 0, 1) := by decide +kernel
theorem dX7_text_68 : decode cX7_text 68 = .ok (.aload_n 0, 1) := by decide +kernel
theorem dX7_text_69 : decode cX7_text 69 = .ok (.getfield 61, 3) := by decide +kernel
theorem dX7_text_72 : decode cX7_text 72 = .ok (.iconst 0, 1) := by decide +kernel
theorem dX7_text_73 : decode cX7_text 73 = .ok (.invokevirtual 334, 3) := by decide +kernel
theorem dX7_text_76 : decode cX7_text 76 = .ok (.istore_n 1, 1) := by decide +kernel
theorem dX7_text_77 : decode cX7_text 77 = .ok (.aload_n 0, 1) := by decide +kernel
theorem dX7_text_78 : decode cX7_text 78 = .ok (.getfield 166, 3) := by decide +kernel
theorem dX7_text_81 : decode cX7_text 81 = .ok (.ifCond .eq 11, 3) := by decide +kernel
theorem dX7_text_84 : decode cX7_text 84 = .ok (.bipush (-100), 2) := by decide +kernel
theorem dX7_text_86 : decode cX7_text 86 = .ok (.aload_n 0, 1) := by decide +kernel
theorem dX7_text_87 : decode cX7_text 87 = .ok (.getfield 170, 3) := by decide +kernel
theorem dX7_text_90 : decode cX7_text 90 = .ok (.isub, 1) := by decide +kernel
theorem dX7_text_91 : decode cX7_text 91 = .ok (.ireturn, 1) := by decide +kernel
theorem dX7_text_92 : decode cX7_text 92 = .ok (.aload_n 0, 1) := by decide +kernel
theorem dX7_text_93 : decode cX7_text 93 = .ok (.dup, 1) := by decide +kernel
theorem dX7_text_94 : decode cX7_text 94 = .ok (.getfield 61, 3) := by decide +kernel
theorem dX7_text_97 : decode cX7_text 97 = .ok (.iconst 1, 1) := by decide +kernel
theorem dX7_text_98 : decode cX7_text 98 = .ok (.iadd, 1) := by decide +kernel
theorem dX7_text_99 : decode cX7_text 99 = .ok (.putfield 61, 3) := by decide +kernel
theorem dX7_text_102 : decode cX7_text 102 = .ok (.aload_n 0, 1) := by decide +kernel
theorem dX7_text_103 : decode cX7_text 103 = .ok (.getfield 61, 3) := by decide +kernel
theorem dX7_text_106 : decode cX7_text 106 = .ok (.iconst 1, 1) := by decide +kernel
theorem dX7_text_107 : decode cX7_text 107 = .ok (.isub, 1) := by decide +kernel
theorem dX7_text_108 : decode cX7_text 108 = .ok (.ireturn, 1) := by decide +kernel
theorem dX7_force_0 : decode cX7_force 0 = .ok (.iload_n 1, 1) := by decide +kernel
theorem dX7_force_1 : decode cX7_force 1 = .ok (.i2l, 1) := by decide +kernel
theorem dX7_force_2 : decode cX7_force 2 = .ok (.lconst 0, 1) := by decide +kernel
theorem dX7_force_3 : decode cX7_force 3 = .ok (.aload_n 0, 1) := by decide +kernel
theorem dX7_force_4 : decode cX7_force 4 = .ok (.getfield 61, 3) := by decide +kernel
theorem dX7_force_7 : decode cX7_force 7 = .ok (.iconst 1, 1) := by decide +kernel
theorem dX7_force_8 : decode cX7_force 8 = .ok (.isub, 1) := by decide +kernel
theorem dX7_force_9 : decode cX7_force 9 = .ok (.i2l, 1) := by decide +kernel
theorem dX7_force_10 : decode cX7_force 10 = .ok (.invokestatic 67, 3) := by decide +kernel
theorem dX7_force_13 : decode cX7_force 13 = .ok (.ifCond .ne 6, 3) := by decide +kernel
theorem dX7_force_16 : decode cX7_force 16 = .ok (.bipush (-2), 2) := by decide +kernel
theorem dX7_force_18 : decode cX7_force 18 = .ok (.ireturn, 1) := by decide +kernel
theorem dX7_force_19 : decode cX7_force 19 = .ok (.aload_n 0, 1) := by decide +kernel
theorem dX7_force_20 : decode cX7_force 20 = .ok (.getfield 98, 3) := by decide +kernel
theorem dX7_force_23 : decode cX7_force 23 = .ok (.istore_n 2, 1) := by decide +kernel
theorem dX7_force_24 : decode cX7_force 24 = .ok (.aload_n 0, 1) := by decide +kernel
theorem dX7_force_25 : decode cX7_force 25 = .ok (.iload_n 1, 1) := by decide +kernel
theorem dX7_force_26 : decode cX7_force 26 = .ok (.putfield 98, 3) := by decide +kernel
theorem dX7_force_29 : decode cX7_force 29 = .ok (.iload_n 2, 1) := by decide +kernel
theorem dX7_force_30 : decode cX7_force 30 = .ok (.ireturn, 1) := by decide +kernel
theorem dX7_weightOf_0 : decode cX7_weightOf 0 = .ok (.iconst 0, 1) := by decide +kernel
theorem dX7_weightOf_1 : decode cX7_weightOf 1 = .ok (.istore_n 2, 1) := by decide +kernel
theorem dX7_weightOf_2 : decode cX7_weightOf 2 = .ok (.iconst 0, 1) := by decide +kernel
theorem dX7_weightOf_3 : decode cX7_weightOf 3 = .ok (.istore_n 3, 1) := by decide +kernel
theorem dX7_weightOf_4 : decode cX7_weightOf 4 = .ok (.iload_n 3, 1) := by decide +kernel
theorem dX7_weightOf_5 : decode cX7_weightOf 5 = .ok (.bipush 8, 2) := by decide +kernel
theorem dX7_weightOf_7 : decode cX7_weightOf 7 = .ok (.if_icmp .ge 31, 3) := by decide +kernel
theorem dX7_weightOf_10 : decode cX7_weightOf 10 = .ok (.iload_n 2, 1) := by decide +kernel
theorem dX7_weightOf_11 : decode cX7_weightOf 11 = .ok (.iload_n 1, 1) := by decide +kernel
theorem dX7_weightOf_12 : decode cX7_weightOf 12 = .ok (.iload_n 3, 1) := by decide +kernel
theorem dX7_weightOf_13 : decode cX7_weightOf 13 = .ok (.ishr, 1) := by decide +kernel
theorem dX7_weightOf_14 : decode cX7_weightOf 14 = .ok (.iconst 1, 1) := by decide +kernel
theorem dX7_weightOf_15 : decode cX7_weightOf 15 = .ok (.iand, 1) := by decide +kernel
theorem dX7_weightOf_16 : decode cX7_weightOf 16 = .ok (.iconst 1, 1) := by decide +kernel
theorem dX7_weightOf_17 : decode cX7_weightOf 17 = .ok (.if_icmp .ne 12, 3) := by decide +kernel
theorem dX7_weightOf_20 : decode cX7_weightOf 20 = .ok (.aload_n 0, 1) := by decide +kernel
theorem dX7_weightOf_21 : decode cX7_weightOf 21 = .ok (.getfield 23, 3) := by decide +kernel
theorem dX7_weightOf_24 : decode cX7_weightOf 24 = .ok (.iload_n 3, 1) := by decide +kernel
theorem dX7_weightOf_25 : decode cX7_weightOf 25 = .ok (.iaload, 1) := by decide +kernel
theorem dX7_weightOf_26 : decode cX7_weightOf 26 = .ok (.goto 4, 3) := by decide +kernel
theorem dX7_weightOf_29 : decode cX7_weightOf 29 = .ok (.iconst 0, 1) := by decide +kernel
theorem dX7_weightOf_30 : decode cX7_weightOf 30 = .ok (.iadd, 1) := by decide +kernel
theorem dX7_weightOf_31 : decode cX7_weightOf 31 = .ok (.istore_n 2, 1) := by decide +kernel
theorem dX7_weightOf_32 : decode cX7_weightOf 32 = .ok (.iinc 3 1, 3) := by decide +kernel
theorem dX7_weightOf_35 : decode cX7_weightOf 35 = .ok (.goto (-31), 3) := by decide +kernel
theorem dX7_weightOf_38 : decode cX7_weightOf 38 = .ok (.iload_n 2, 1) := by decide +kernel
theorem dX7_weightOf_39 : decode cX7_weightOf 39 = .ok (.ireturn, 1) := by decide +kernel
theorem dX7_begins_0 : decode cX7_begins 0 = .ok (.aload_n 0, 1) := by decide +kernel
theorem dX7_begins_1 : decode cX7_begins 1 = .ok (.getfield 29, 3) := by decide +kernel
theorem dX7_begins_4 : decode cX7_begins 4 = .ok (.iconst 5, 1) := by decide +kernel
theorem dX7_begins_5 : decode cX7_begins 5 = .ok (.iload_n 1, 1) := by decide +kernel
theorem dX7_begins_6 : decode cX7_begins 6 = .ok (.imul, 1) := by decide +kernel
theorem dX7_begins_7 : decode cX7_begins 7 = .ok (.iconst 1, 1) := by decide +kernel
theorem dX7_begins_8 : decode cX7_begins 8 = .ok (.iadd, 1) := by decide +kernel
theorem dX7_begins_9 : decode cX7_begins 9 = .ok (.iaload, 1) := by decide +kernel
theorem dX7_begins_10 : decode cX7_begins 10 = .ok (.istore_n 2, 1) := by decide +kernel
theorem dX7_begins_11 : decode cX7_begins 11 = .ok (.aload_n 0, 1) := by decide +kernel
theorem dX7_begins_12 : decode cX7_begins 12 = .ok (.aload_n 0, 1) := by decide +kernel
theorem dX7_begins_13 : decode cX7_begins 13 = .ok (.iload_n 2, 1) := by decide +kernel
theorem dX7_begins_14 : decode cX7_begins 14 = .ok (.aload_n 0, 1) := by decide +kernel
theorem dX7_begins_15 : decode cX7_begins 15 = .ok (.getfield 29, 3) := by decide +kernel
theorem dX7_begins_18 : decode cX7_begins 18 = .ok (.iconst 5, 1) := by decide +kernel
theorem dX7_begins_19 : decode cX7_begins 19 = .ok (.iload_n 1, 1) := by decide +kernel
theorem dX7_begins_20 : decode cX7_begins 20 = .ok (.imul, 1) := by decide +kernel
theorem dX7_begins_21 : decode cX7_begins 21 = .ok (.iconst 2, 1) := by decide +kernel
theorem dX7_begins_22 : decode cX7_begins 22 = .ok (.iadd, 1) := by decide +kernel
theorem dX7_begins_23 : decode cX7_begins 23 = .ok (.iaload, 1) := by decide +kernel
theorem dX7_begins_24 : decode cX7_begins 24 = .ok (.iand, 1) := by decide +kernel
theorem dX7_begins_25 : decode cX7_begins 25 = .ok (.invokevirtual 337, 3) := by decide +kernel
theorem dX7_begins_28 : decode cX7_begins 28 = .ok (.putfield 113, 3) := by decide +kernel
theorem dX7_begins_31 : decode cX7_begins 31 = .ok (.aload_n 0, 1) := by decide +kernel
theorem dX7_begins_32 : decode cX7_begins 32 = .ok (.aload_n 0, 1) := by decide +kernel
theorem dX7_begins_33 : decode cX7_begins 33 = .ok (.iload_n 2, 1) := by decide +kernel
theorem dX7_begins_34 : decode cX7_begins 34 = .ok (.aload_n 0, 1) := by decide +kernel
theorem dX7_begins_35 : decode cX7_begins 35 = .ok (.getfield 29, 3) := by decide +kernel
theorem dX7_begins_38 : decode cX7_begins 38 = .ok (.iconst 5, 1) := by decide +kernel
theorem dX7_begins_39 : decode cX7_begins 39 = .ok (.iload_n 1, 1) := by decide +kernel
theorem dX7_begins_40 : decode cX7_begins 40 = .ok (.imul, 1) := by decide +kernel
theorem dX7_begins_41 : decode cX7_begins 41 = .ok (.iconst 2, 1) := by decide +kernel
theorem dX7_begins_42 : decode cX7_begins 42 = .ok (.iadd, 1) := by decide +kernel
theorem dX7_begins_43 : decode cX7_begins 43 = .ok (.iaload, 1) := by decide +kernel
theorem dX7_begins_44 : decode cX7_begins 44 = .ok (.iconst (-1), 1) := by decide +kernel
theorem dX7_begins_45 : decode cX7_begins 45 = .ok (.ixor, 1) := by decide +kernel
theorem dX7_begins_46 : decode cX7_begins 46 = .ok (.iand, 1) := by decide +kernel
theorem dX7_begins_47 : decode cX7_begins 47 = .ok (.invokevirtual 337, 3) := by decide +kernel
theorem dX7_begins_50 : decode cX7_begins 50 = .ok (.putfield 116, 3) := by decide +kernel
theorem dX7_begins_53 : decode cX7_begins 53 = .ok (.aload_n 0, 1) := by decide +kernel
theorem dX7_begins_54 : decode cX7_begins 54 = .ok (.aload_n 0, 1) := by decide +kernel
theorem dX7_begins_55 : decode cX7_begins 55 = .ok (.getfield 29, 3) := by decide +kernel
theorem dX7_begins_58 : decode cX7_begins 58 = .ok (.iconst 5, 1) := by decide +kernel
theorem dX7_begins_59 : decode cX7_begins 59 = .ok (.iload_n 1, 1) := by decide +kernel
theorem dX7_begins_60 : decode cX7_begins 60 = .ok (.imul, 1) := by decide +kernel
theorem dX7_begins_61 : decode cX7_begins 61 = .ok (.iconst 3, 1) := by decide +kernel
theorem dX7_begins_62 : decode cX7_begins 62 = .ok (.iadd, 1) := by decide +kernel
theorem dX7_begins_63 : decode cX7_begins 63 = .ok (.iaload, 1) := by decide +kernel
theorem dX7_begins_64 : decode cX7_begins 64 = .ok (.putfield 340, 3) := by decide +kernel
theorem dX7_begins_67 : decode cX7_begins 67 = .ok (.aload_n 0, 1) := by decide +kernel
theorem dX7_begins_68 : decode cX7_begins 68 = .ok (.aload_n 0, 1) := by decide +kernel
theorem dX7_begins_69 : decode cX7_begins 69 = .ok (.getfield 29, 3) := by decide +kernel
theorem dX7_begins_72 : decode cX7_begins 72 = .ok (.iconst 5, 1) := by decide +kernel
theorem dX7_begins_73 : decode cX7_begins 73 = .ok (.iload_n 1, 1) := by decide +kernel
theorem dX7_begins_74 : decode cX7_begins 74 = .ok (.imul, 1) := by decide +kernel
theorem dX7_begins_75 : decode cX7_begins 75 = .ok (.iconst 4, 1) := by decide +kernel
theorem dX7_begins_76 : decode cX7_begins 76 = .ok (.iadd, 1) := by decide +kernel
theorem dX7_begins_77 : decode cX7_begins 77 = .ok (.iaload, 1) := by decide +kernel
theorem dX7_begins_78 : decode cX7_begins 78 = .ok (.putfield 128, 3) := by decide +kernel
theorem dX7_begins_81 : decode cX7_begins 81 = .ok (.aload_n 0, 1) := by decide +kernel
theorem dX7_begins_82 : decode cX7_begins 82 = .ok (.aload_n 0, 1) := by decide +kernel
theorem dX7_begins_83 : decode cX7_begins 83 = .ok (.getfield 95, 3) := by decide +kernel
theorem dX7_begins_86 : decode cX7_begins 86 = .ok (.putfield 343, 3) := by decide +kernel
theorem dX7_begins_89 : decode cX7_begins 89 = .ok (.return_, 1) := by decide +kernel
theorem dX7_asks_0 : decode cX7_asks 0 = .ok (.aload_n 0, 1) := by decide +kernel
theorem dX7_asks_1 : decode cX7_asks 1 = .ok (.aload_n 0, 1) := by decide +kernel
theorem dX7_asks_2 : decode cX7_asks 2 = .ok (.getfield 113, 3) := by decide +kernel
theorem dX7_asks_5 : decode cX7_asks 5 = .ok (.putfield 189, 3) := by decide +kernel
theorem dX7_asks_8 : decode cX7_asks 8 = .ok (.aload_n 0, 1) := by decide +kernel
theorem dX7_asks_9 : decode cX7_asks 9 = .ok (.aload_n 0, 1) := by decide +kernel
theorem dX7_asks_10 : decode cX7_asks 10 = .ok (.getfield 116, 3) := by decide +kernel
theorem dX7_asks_13 : decode cX7_asks 13 = .ok (.putfield 192, 3) := by decide +kernel
theorem dX7_asks_16 : decode cX7_asks 16 = .ok (.aload_n 0, 1) := by decide +kernel
theorem dX7_asks_17 : decode cX7_asks 17 = .ok (.aload_n 0, 1) := by decide +kernel
theorem dX7_asks_18 : decode cX7_asks 18 = .ok (.getfield 340, 3) := by decide +kernel
theorem dX7_asks_21 : decode cX7_asks 21 = .ok (.putfield 195, 3) := by decide +kernel
theorem dX7_asks_24 : decode cX7_asks 24 = .ok (.aload_n 0, 1) := by decide +kernel
theorem dX7_asks_25 : decode cX7_asks 25 = .ok (.aload_n 0, 1) := by decide +kernel
theorem dX7_asks_26 : decode cX7_asks 26 = .ok (.getfield 29, 3) := by decide +kernel
theorem dX7_asks_29 : decode cX7_asks 29 = .ok (.iconst 5, 1) := by decide +kernel
theorem dX7_asks_30 : decode cX7_asks 30 = .ok (.iload_n 2, 1) := by decide +kernel
theorem dX7_asks_31 : decode cX7_asks 31 = .ok (.imul, 1) := by decide +kernel
theorem dX7_asks_32 : decode cX7_asks 32 = .ok (.iaload, 1) := by decide +kernel
theorem dX7_asks_33 : decode cX7_asks 33 = .ok (.putfield 198, 3) := by decide +kernel
theorem dX7_asks_36 : decode cX7_asks 36 = .ok (.aload_n 0, 1) := by decide +kernel
theorem dX7_asks_37 : decode cX7_asks 37 = .ok (.aload_n 0, 1) := by decide +kernel
theorem dX7_asks_38 : decode cX7_asks 38 = .ok (.getfield 343, 3) := by decide +kernel
theorem dX7_asks_41 : decode cX7_asks 41 = .ok (.putfield 201, 3) := by decide +kernel
theorem dX7_asks_44 : decode cX7_asks 44 = .ok (.aload_n 0, 1) := by decide +kernel
theorem dX7_asks_45 : decode cX7_asks 45 = .ok (.aload_n 0, 1) := by decide +kernel
theorem dX7_asks_46 : decode cX7_asks 46 = .ok (.getfield 128, 3) := by decide +kernel
theorem dX7_asks_49 : decode cX7_asks 49 = .ok (.putfield 204, 3) := by decide +kernel
theorem dX7_asks_52 : decode cX7_asks 52 = .ok (.aload_n 0, 1) := by decide +kernel
theorem dX7_asks_53 : decode cX7_asks 53 = .ok (.aload_n 0, 1) := by decide +kernel
theorem dX7_asks_54 : decode cX7_asks 54 = .ok (.getfield 98, 3) := by decide +kernel
theorem dX7_asks_57 : decode cX7_asks 57 = .ok (.iload_n 1, 1) := by decide +kernel
theorem dX7_asks_58 : decode cX7_asks 58 = .ok (.invokevirtual 334, 3) := by decide +kernel
theorem dX7_asks_61 : decode cX7_asks 61 = .ok (.istore_n 3, 1) := by decide +kernel
theorem dX7_asks_62 : decode cX7_asks 62 = .ok (.iload_n 1, 1) := by decide +kernel
theorem dX7_asks_63 : decode cX7_asks 63 = .ok (.iconst 2, 1) := by decide +kernel
theorem dX7_asks_64 : decode cX7_asks 64 = .ok (.if_icmp .ne 7, 3) := by decide +kernel
theorem dX7_asks_67 : decode cX7_asks 67 = .ok (.iload_n 3, 1) := by decide +kernel
theorem dX7_asks_68 : decode cX7_asks 68 = .ok (.goto 20, 3) := by decide +kernel
theorem dX7_asks_71 : decode cX7_asks 71 = .ok (.iload_n 3, 1) := by decide +kernel
theorem dX7_asks_72 : decode cX7_asks 72 = .ok (.iconst 0, 1) := by decide +kernel
theorem dX7_asks_73 : decode cX7_asks 73 = .ok (.iload_n 1, 1) := by decide +kernel
theorem dX7_asks_74 : decode cX7_asks 74 = .ok (.ifCond .ne 9, 3) := by decide +kernel
theorem dX7_asks_77 : decode cX7_asks 77 = .ok (.sipush 999, 3) := by decide +kernel
theorem dX7_asks_80 : decode cX7_asks 80 = .ok (.goto 5, 3) := by decide +kernel
theorem dX7_asks_83 : decode cX7_asks 83 = .ok (.bipush 99, 2) := by decide +kernel
theorem dX7_asks_85 : decode cX7_asks 85 = .ok (.invokestatic 346, 3) := by decide +kernel
theorem dX7_asks_88 : decode cX7_asks 88 = .ok (.ireturn, 1) := by decide +kernel
theorem dX7_lastsOf_0 : decode cX7_lastsOf 0 = .ok (.aload_n 0, 1) := by decide +kernel
theorem dX7_lastsOf_1 : decode cX7_lastsOf 1 = .ok (.getfield 26, 3) := by decide +kernel
theorem dX7_lastsOf_4 : decode cX7_lastsOf 4 = .ok (.iload_n 1, 1) := by decide +kernel
theorem dX7_lastsOf_5 : decode cX7_lastsOf 5 = .ok (.iaload, 1) := by decide +kernel
theorem dX7_lastsOf_6 : decode cX7_lastsOf 6 = .ok (.istore_n 2, 1) := by decide +kernel
theorem dX7_lastsOf_7 : decode cX7_lastsOf 7 = .ok (.iload_n 2, 1) := by decide +kernel
theorem dX7_lastsOf_8 : decode cX7_lastsOf 8 = .ok (.iconst 5, 1) := by decide +kernel
theorem dX7_lastsOf_9 : decode cX7_lastsOf 9 = .ok (.if_icmp .eq 17, 3) := by decide +kernel
theorem dX7_lastsOf_12 : decode cX7_lastsOf 12 = .ok (.iload_n 2, 1) := by decide +kernel
theorem dX7_lastsOf_13 : decode cX7_lastsOf 13 = .ok (.iconst 3, 1) := by decide +kernel
theorem dX7_lastsOf_14 : decode cX7_lastsOf 14 = .ok (.if_icmp .ne 25, 3) := by decide +kernel
theorem dX7_lastsOf_17 : decode cX7_lastsOf 17 = .ok (.aload_n 0, 1) := by decide +kernel
theorem dX7_lastsOf_18 : decode cX7_lastsOf 18 = .ok (.getfield 113, 3) := by decide +kernel
theorem dX7_lastsOf_21 : decode cX7_lastsOf 21 = .ok (.bipush 10, 2) := by decide +kernel
theorem dX7_lastsOf_23 : decode cX7_lastsOf 23 = .ok (.if_icmp .ge 16, 3) := by decide +kernel
theorem dX7_lastsOf_26 : decode cX7_lastsOf 26 = .ok (.iload_n 2, 1) := by decide +kernel
theorem dX7_lastsOf_27 : decode cX7_lastsOf 27 = .ok (.iconst 5, 1) := by decide +kernel
theorem dX7_lastsOf_28 : decode cX7_lastsOf 28 = .ok (.if_icmp .ne 9, 3) := by decide +kernel
theorem dX7_lastsOf_31 : decode cX7_lastsOf 31 = .ok (.sipush 999, 3) := by decide +kernel
theorem dX7_lastsOf_34 : decode cX7_lastsOf 34 = .ok (.goto 4, 3) := by decide +kernel
theorem dX7_lastsOf_37 : decode cX7_lastsOf 37 = .ok (.iconst 0, 1) := by decide +kernel
theorem dX7_lastsOf_38 : decode cX7_lastsOf 38 = .ok (.ireturn, 1) := by decide +kernel
theorem dX7_lastsOf_39 : decode cX7_lastsOf 39 = .ok (.aload_n 0, 1) := by decide +kernel
theorem dX7_lastsOf_40 : decode cX7_lastsOf 40 = .ok (.iconst 0, 1) := by decide +kernel
theorem dX7_lastsOf_41 : decode cX7_lastsOf 41 = .ok (.iload_n 1, 1) := by decide +kernel
theorem dX7_lastsOf_42 : decode cX7_lastsOf 42 = .ok (.invokevirtual 350, 3) := by decide +kernel
theorem dX7_lastsOf_45 : decode cX7_lastsOf 45 = .ok (.istore_n 3, 1) := by decide +kernel
theorem dX7_lastsOf_46 : decode cX7_lastsOf 46 = .ok (.iload_n 2, 1) := by decide +kernel
theorem dX7_lastsOf_47 : decode cX7_lastsOf 47 = .ok (.iconst 1, 1) := by decide +kernel
theorem dX7_lastsOf_48 : decode cX7_lastsOf 48 = .ok (.if_icmp .eq 8, 3) := by decide +kernel
theorem dX7_lastsOf_51 : decode cX7_lastsOf 51 = .ok (.iload_n 2, 1) := by decide +kernel
theorem dX7_lastsOf_52 : decode cX7_lastsOf 52 = .ok (.iconst 3, 1) := by decide +kernel
theorem dX7_lastsOf_53 : decode cX7_lastsOf 53 = .ok (.if_icmp .ne 16, 3) := by decide +kernel
theorem dX7_lastsOf_56 : decode cX7_lastsOf 56 = .ok (.iload_n 3, 1) := by decide +kernel
theorem dX7_lastsOf_57 : decode cX7_lastsOf 57 = .ok (.aload_n 0, 1) := by decide +kernel
theorem dX7_lastsOf_58 : decode cX7_lastsOf 58 = .ok (.getfield 29, 3) := by decide +kernel
theorem dX7_lastsOf_61 : decode cX7_lastsOf 61 = .ok (.iconst 5, 1) := by decide +kernel
theorem dX7_lastsOf_62 : decode cX7_lastsOf 62 = .ok (.iload_n 1, 1) := by decide +kernel
theorem dX7_lastsOf_63 : decode cX7_lastsOf 63 = .ok (.imul, 1) := by decide +kernel
theorem dX7_lastsOf_64 : decode cX7_lastsOf 64 = .ok (.iaload, 1) := by decide +kernel
theorem dX7_lastsOf_65 : decode cX7_lastsOf 65 = .ok (.iadd, 1) := by decide +kernel
theorem dX7_lastsOf_66 : decode cX7_lastsOf 66 = .ok (.goto 31, 3) := by decide +kernel
theorem dX7_lastsOf_69 : decode cX7_lastsOf 69 = .ok (.iload_n 2, 1) := by decide +kernel
theorem dX7_lastsOf_70 : decode cX7_lastsOf 70 = .ok (.iconst 2, 1) := by decide +kernel
theorem dX7_lastsOf_71 : decode cX7_lastsOf 71 = .ok (.if_icmp .ne 9, 3) := by decide +kernel
theorem dX7_lastsOf_74 : decode cX7_lastsOf 74 = .ok (.iload_n 3, 1) := by decide +kernel
theorem dX7_lastsOf_75 : decode cX7_lastsOf 75 = .ok (.iconst 2, 1) := by decide +kernel
theorem dX7_lastsOf_76 : decode cX7_lastsOf 76 = .ok (.idiv, 1) := by decide +kernel
theorem dX7_lastsOf_77 : decode cX7_lastsOf 77 = .ok (.goto 20, 3) := by decide +kernel
theorem dX7_lastsOf_80 : decode cX7_lastsOf 80 = .ok (.iload_n 2, 1) := by decide +kernel
theorem dX7_lastsOf_81 : decode cX7_lastsOf 81 = .ok (.iconst 4, 1) := by decide +kernel
theorem dX7_lastsOf_82 : decode cX7_lastsOf 82 = .ok (.if_icmp .ne 14, 3) := by decide +kernel
theorem dX7_lastsOf_85 : decode cX7_lastsOf 85 = .ok (.iload_n 3, 1) := by decide +kernel
theorem dX7_lastsOf_86 : decode cX7_lastsOf 86 = .ok (.iconst 2, 1) := by decide +kernel
theorem dX7_lastsOf_87 : decode cX7_lastsOf 87 = .ok (.idiv, 1) := by decide +kernel
theorem dX7_lastsOf_88 : decode cX7_lastsOf 88 = .ok (.aload_n 0, 1) := by decide +kernel
theorem dX7_lastsOf_89 : decode cX7_lastsOf 89 = .ok (.getfield 113, 3) := by decide +kernel
theorem dX7_lastsOf_92 : decode cX7_lastsOf 92 = .ok (.iadd, 1) := by decide +kernel

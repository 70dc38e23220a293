theorem dX11_fit_46 : decode cX11_fit 46 = .ok (.iload_n 1, 1) := by decide +kernel
theorem dX11_fit_47 : decode cX11_fit 47 = .ok (.iadd, 1) := by decide +kernel
theorem dX11_fit_48 : decode cX11_fit 48 = .ok (.iload_n 2, 1) := by decide +kernel
theorem dX11_fit_49 : decode cX11_fit 49 = .ok (.iastore, 1) := by decide +kernel
theorem dX11_fit_50 : decode cX11_fit 50 = .ok (.iload_n 3, 1) := by decide +kernel
theorem dX11_fit_51 : decode cX11_fit 51 = .ok (.ireturn, 1) := by decide +kernel
theorem dX11_person_0 : decode cX11_person 0 = .ok (.aload_n 0, 1) := by decide +kernel
theorem dX11_person_1 : decode cX11_person 1 = .ok (.getfield 7, 3) := by decide +kernel
theorem dX11_person_4 : decode cX11_person 4 = .ok (.sipush 8526, 3) := by decide +kernel
theorem dX11_person_7 : decode cX11_person 7 = .ok (.iaload, 1) := by decide +kernel
theorem dX11_person_8 : decode cX11_person 8 = .ok (.bipush 40, 2) := by decide +kernel
theorem dX11_person_10 : decode cX11_person 10 = .ok (.if_icmp .ne 6, 3) := by decide +kernel
theorem dX11_person_13 : decode cX11_person 13 = .ok (.bipush (-4), 2) := by decide +kernel
theorem dX11_person_15 : decode cX11_person 15 = .ok (.ireturn, 1) := by decide +kernel
theorem dX11_person_16 : decode cX11_person 16 = .ok (.aload_n 0, 1) := by decide +kernel
theorem dX11_person_17 : decode cX11_person 17 = .ok (.invokevirtual 71, 3) := by decide +kernel
theorem dX11_person_20 : decode cX11_person 20 = .ok (.aload_n 0, 1) := by decide +kernel
theorem dX11_person_21 : decode cX11_person 21 = .ok (.getfield 7, 3) := by decide +kernel
theorem dX11_person_24 : decode cX11_person 24 = .ok (.sipush 8526, 3) := by decide +kernel
theorem dX11_person_27 : decode cX11_person 27 = .ok (.dup2, 1) := by decide +kernel
theorem dX11_person_28 : decode cX11_person 28 = .ok (.iaload, 1) := by decide +kernel
theorem dX11_person_29 : decode cX11_person 29 = .ok (.iconst 1, 1) := by decide +kernel
theorem dX11_person_30 : decode cX11_person 30 = .ok (.iadd, 1) := by decide +kernel
theorem dX11_person_31 : decode cX11_person 31 = .ok (.iastore, 1) := by decide +kernel
theorem dX11_person_32 : decode cX11_person 32 = .ok (.aload_n 0, 1) := by decide +kernel
theorem dX11_person_33 : decode cX11_person 33 = .ok (.getfield 7, 3) := by decide +kernel
theorem dX11_person_36 : decode cX11_person 36 = .ok (.sipush 8526, 3) := by decide +kernel
theorem dX11_person_39 : decode cX11_person 39 = .ok (.iaload, 1) := by decide +kernel
theorem dX11_person_40 : decode cX11_person 40 = .ok (.iconst 1, 1) := by decide +kernel
theorem dX11_person_41 : decode cX11_person 41 = .ok (.isub, 1) := by decide +kernel
theorem dX11_person_42 : decode cX11_person 42 = .ok (.ireturn, 1) := by decide +kernel
theorem dX11_lend_0 : decode cX11_lend 0 = .ok (.aload_n 0, 1) := by decide +kernel
theorem dX11_lend_1 : decode cX11_lend 1 = .ok (.iload_n 1, 1) := by decide +kernel
theorem dX11_lend_2 : decode cX11_lend 2 = .ok (.invokevirtual 125, 3) := by decide +kernel
theorem dX11_lend_5 : decode cX11_lend 5 = .ok (.ifCond .eq 23, 3) := by decide +kernel
theorem dX11_lend_8 : decode cX11_lend 8 = .ok (.iload_n 2, 1) := by decide +kernel
theorem dX11_lend_9 : decode cX11_lend 9 = .ok (.i2l, 1) := by decide +kernel
theorem dX11_lend_10 : decode cX11_lend 10 = .ok (.lconst 0, 1) := by decide +kernel
theorem dX11_lend_11 : decode cX11_lend 11 = .ok (.aload_n 0, 1) := by decide +kernel
theorem dX11_lend_12 : decode cX11_lend 12 = .ok (.getfield 7, 3) := by decide +kernel
theorem dX11_lend_15 : decode cX11_lend 15 = .ok (.sipush 8526, 3) := by decide +kernel
theorem dX11_lend_18 : decode cX11_lend 18 = .ok (.iaload, 1) := by decide +kernel
theorem dX11_lend_19 : decode cX11_lend 19 = .ok (.iconst 1, 1) := by decide +kernel
theorem dX11_lend_20 : decode cX11_lend 20 = .ok (.isub, 1) := by decide +kernel
theorem dX11_lend_21 : decode cX11_lend 21 = .ok (.i2l, 1) := by decide +kernel
theorem dX11_lend_22 : decode cX11_lend 22 = .ok (.invokestatic 67, 3) := by decide +kernel
theorem dX11_lend_25 : decode cX11_lend 25 = .ok (.ifCond .ne 6, 3) := by decide +kernel
theorem dX11_lend_28 : decode cX11_lend 28 = .ok (.bipush (-2), 2) := by decide +kernel
theorem dX11_lend_30 : decode cX11_lend 30 = .ok (.ireturn, 1) := by decide +kernel
theorem dX11_lend_31 : decode cX11_lend 31 = .ok (.aload_n 0, 1) := by decide +kernel
theorem dX11_lend_32 : decode cX11_lend 32 = .ok (.getfield 7, 3) := by decide +kernel
theorem dX11_lend_35 : decode cX11_lend 35 = .ok (.sipush 4100, 3) := by decide +kernel
theorem dX11_lend_38 : decode cX11_lend 38 = .ok (.iload_n 1, 1) := by decide +kernel
theorem dX11_lend_39 : decode cX11_lend 39 = .ok (.iadd, 1) := by decide +kernel
theorem dX11_lend_40 : decode cX11_lend 40 = .ok (.iaload, 1) := by decide +kernel
theorem dX11_lend_41 : decode cX11_lend 41 = .ok (.iconst (-1), 1) := by decide +kernel
theorem dX11_lend_42 : decode cX11_lend 42 = .ok (.if_icmp .eq 6, 3) := by decide +kernel
theorem dX11_lend_45 : decode cX11_lend 45 = .ok (.bipush (-3), 2) := by decide +kernel
theorem dX11_lend_47 : decode cX11_lend 47 = .ok (.ireturn, 1) := by decide +kernel
theorem dX11_lend_48 : decode cX11_lend 48 = .ok (.aload_n 0, 1) := by decide +kernel
theorem dX11_lend_49 : decode cX11_lend 49 = .ok (.invokevirtual 71, 3) := by decide +kernel
theorem dX11_lend_52 : decode cX11_lend 52 = .ok (.aload_n 0, 1) := by decide +kernel
theorem dX11_lend_53 : decode cX11_lend 53 = .ok (.getfield 7, 3) := by decide +kernel
theorem dX11_lend_56 : decode cX11_lend 56 = .ok (.sipush 4100, 3) := by decide +kernel
theorem dX11_lend_59 : decode cX11_lend 59 = .ok (.iload_n 1, 1) := by decide +kernel
theorem dX11_lend_60 : decode cX11_lend 60 = .ok (.iadd, 1) := by decide +kernel
theorem dX11_lend_61 : decode cX11_lend 61 = .ok (.iload_n 2, 1) := by decide +kernel
theorem dX11_lend_62 : decode cX11_lend 62 = .ok (.iastore, 1) := by decide +kernel
theorem dX11_lend_63 : decode cX11_lend 63 = .ok (.iconst 0, 1) := by decide +kernel
theorem dX11_lend_64 : decode cX11_lend 64 = .ok (.istore_n 3, 1) := by decide +kernel
theorem dX11_lend_65 : decode cX11_lend 65 = .ok (.iconst 0, 1) := by decide +kernel
theorem dX11_lend_66 : decode cX11_lend 66 = .ok (.istore 4, 2) := by decide +kernel
theorem dX11_lend_68 : decode cX11_lend 68 = .ok (.iload 4, 2) := by decide +kernel
theorem dX11_lend_70 : decode cX11_lend 70 = .ok (.aload_n 0, 1) := by decide +kernel
theorem dX11_lend_71 : decode cX11_lend 71 = .ok (.getfield 7, 3) := by decide +kernel
theorem dX11_lend_74 : decode cX11_lend 74 = .ok (.sipush 8523, 3) := by decide +kernel
theorem dX11_lend_77 : decode cX11_lend 77 = .ok (.iaload, 1) := by decide +kernel
theorem dX11_lend_78 : decode cX11_lend 78 = .ok (.if_icmp .ge 32, 3) := by decide +kernel
theorem dX11_lend_81 : decode cX11_lend 81 = .ok (.iload_n 3, 1) := by decide +kernel
theorem dX11_lend_82 : decode cX11_lend 82 = .ok (.aload_n 0, 1) := by decide +kernel
theorem dX11_lend_83 : decode cX11_lend 83 = .ok (.getfield 7, 3) := by decide +kernel
theorem dX11_lend_86 : decode cX11_lend 86 = .ok (.sipush 4100, 3) := by decide +kernel
theorem dX11_lend_89 : decode cX11_lend 89 = .ok (.iload 4, 2) := by decide +kernel
theorem dX11_lend_91 : decode cX11_lend 91 = .ok (.iadd, 1) := by decide +kernel
theorem dX11_lend_92 : decode cX11_lend 92 = .ok (.iaload, 1) := by decide +kernel
theorem dX11_lend_93 : decode cX11_lend 93 = .ok (.iload_n 2, 1) := by decide +kernel
theorem dX11_lend_94 : decode cX11_lend 94 = .ok (.if_icmp .ne 7, 3) := by decide +kernel
theorem dX11_lend_97 : decode cX11_lend 97 = .ok (.iconst 1, 1) := by decide +kernel
theorem dX11_lend_98 : decode cX11_lend 98 = .ok (.goto 4, 3) := by decide +kernel
theorem dX11_lend_101 : decode cX11_lend 101 = .ok (.iconst 0, 1) := by decide +kernel
theorem dX11_lend_102 : decode cX11_lend 102 = .ok (.iadd, 1) := by decide +kernel
theorem dX11_lend_103 : decode cX11_lend 103 = .ok (.istore_n 3, 1) := by decide +kernel
theorem dX11_lend_104 : decode cX11_lend 104 = .ok (.iinc 4 1, 3) := by decide +kernel
theorem dX11_lend_107 : decode cX11_lend 107 = .ok (.goto (-39), 3) := by decide +kernel
theorem dX11_lend_110 : decode cX11_lend 110 = .ok (.iload_n 3, 1) := by decide +kernel
theorem dX11_lend_111 : decode cX11_lend 111 = .ok (.ireturn, 1) := by decide +kernel
theorem dX11_bringBack_0 : decode cX11_bringBack 0 = .ok (.aload_n 0, 1) := by decide +kernel
theorem dX11_bringBack_1 : decode cX11_bringBack 1 = .ok (.iload_n 1, 1) := by decide +kernel
theorem dX11_bringBack_2 : decode cX11_bringBack 2 = .ok (.invokevirtual 125, 3) := by decide +kernel
theorem dX11_bringBack_5 : decode cX11_bringBack 5 = .ok (.ifCond .ne 6, 3) := by decide +kernel
theorem dX11_bringBack_8 : decode cX11_bringBack 8 = .ok (.bipush (-2), 2) := by decide +kernel
theorem dX11_bringBack_10 : decode cX11_bringBack 10 = .ok (.ireturn, 1) := by decide +kernel
theorem dX11_bringBack_11 : decode cX11_bringBack 11 = .ok (.aload_n 0, 1) := by decide +kernel
theorem dX11_bringBack_12 : decode cX11_bringBack 12 = .ok (.getfield 7, 3) := by decide +kernel
theorem dX11_bringBack_15 : decode cX11_bringBack 15 = .ok (.sipush 4100, 3) := by decide +kernel
theorem dX11_bringBack_18 : decode cX11_bringBack 18 = .ok (.iload_n 1, 1) := by decide +kernel
theorem dX11_bringBack_19 : decode cX11_bringBack 19 = .ok (.iadd, 1) := by decide +kernel
theorem dX11_bringBack_20 : decode cX11_bringBack 20 = .ok (.iaload, 1) := by decide +kernel
theorem dX11_bringBack_21 : decode cX11_bringBack 21 = .ok (.istore_n 2, 1) := by decide +kernel
theorem dX11_bringBack_22 : decode cX11_bringBack 22 = .ok (.iload_n 2, 1) := by decide +kernel
theorem dX11_bringBack_23 : decode cX11_bringBack 23 = .ok (.ifCond .ge 6, 3) := by decide +kernel
theorem dX11_bringBack_26 : decode cX11_bringBack 26 = .ok (.bipush (-3), 2) := by decide +kernel
theorem dX11_bringBack_28 : decode cX11_bringBack 28 = .ok (.ireturn, 1) := by decide +kernel
theorem dX11_bringBack_29 : decode cX11_bringBack 29 = .ok (.aload_n 0, 1) := by decide +kernel
theorem dX11_bringBack_30 : decode cX11_bringBack 30 = .ok (.invokevirtual 71, 3) := by decide +kernel
theorem dX11_bringBack_33 : decode cX11_bringBack 33 = .ok (.aload_n 0, 1) := by decide +kernel
theorem dX11_bringBack_34 : decode cX11_bringBack 34 = .ok (.getfield 7, 3) := by decide +kernel
theorem dX11_bringBack_37 : decode cX11_bringBack 37 = .ok (.sipush 4100, 3) := by decide +kernel
theorem dX11_bringBack_40 : decode cX11_bringBack 40 = .ok (.iload_n 1, 1) := by decide +kernel
theorem dX11_bringBack_41 : decode cX11_bringBack 41 = .ok (.iadd, 1) := by decide +kernel
theorem dX11_bringBack_42 : decode cX11_bringBack 42 = .ok (.iconst (-1), 1) := by decide +kernel
theorem dX11_bringBack_43 : decode cX11_bringBack 43 = .ok (.iastore, 1) := by decide +kernel
theorem dX11_bringBack_44 : decode cX11_bringBack 44 = .ok (.iload_n 2, 1) := by decide +kernel
theorem dX11_bringBack_45 : decode cX11_bringBack 45 = .ok (.ireturn, 1) := by decide +kernel
theorem dX11_lose_0 : decode cX11_lose 0 = .ok (.aload_n 0, 1) := by decide +kernel
theorem dX11_lose_1 : decode cX11_lose 1 = .ok (.iload_n 1, 1) := by decide +kernel
theorem dX11_lose_2 : decode cX11_lose 2 = .ok (.invokevirtual 125, 3) := by decide +kernel
theorem dX11_lose_5 : decode cX11_lose 5 = .ok (.ifCond .ne 6, 3) := by decide +kernel
theorem dX11_lose_8 : decode cX11_lose 8 = .ok (.bipush (-2), 2) := by decide +kernel
theorem dX11_lose_10 : decode cX11_lose 10 = .ok (.ireturn, 1) := by decide +kernel
theorem dX11_lose_11 : decode cX11_lose 11 = .ok (.aload_n 0, 1) := by decide +kernel
theorem dX11_lose_12 : decode cX11_lose 12 = .ok (.getfield 7, 3) := by decide +kernel
theorem dX11_lose_15 : decode cX11_lose 15 = .ok (.sipush 4100, 3) := by decide +kernel
theorem dX11_lose_18 : decode cX11_lose 18 = .ok (.iload_n 1, 1) := by decide +kernel
theorem dX11_lose_19 : decode cX11_lose 19 = .ok (.iadd, 1) := by decide +kernel
theorem dX11_lose_20 : decode cX11_lose 20 = .ok (.iaload, 1) := by decide +kernel
theorem dX11_lose_21 : decode cX11_lose 21 = .ok (.istore_n 2, 1) := by decide +kernel
theorem dX11_lose_22 : decode cX11_lose 22 = .ok (.iload_n 2, 1) := by decide +kernel
theorem dX11_lose_23 : decode cX11_lose 23 = .ok (.bipush (-6), 2) := by decide +kernel
theorem dX11_lose_25 : decode cX11_lose 25 = .ok (.if_icmp .ne 6, 3) := by decide +kernel
theorem dX11_lose_28 : decode cX11_lose 28 = .ok (.bipush (-3), 2) := by decide +kernel
theorem dX11_lose_30 : decode cX11_lose 30 = .ok (.ireturn, 1) := by decide +kernel
theorem dX11_lose_31 : decode cX11_lose 31 = .ok (.aload_n 0, 1) := by decide +kernel
theorem dX11_lose_32 : decode cX11_lose 32 = .ok (.invokevirtual 71, 3) := by decide +kernel
theorem dX11_lose_35 : decode cX11_lose 35 = .ok (.aload_n 0, 1) := by decide +kernel
theorem dX11_lose_36 : decode cX11_lose 36 = .ok (.getfield 7, 3) := by decide +kernel
theorem dX11_lose_39 : decode cX11_lose 39 = .ok (.sipush 4100, 3) := by decide +kernel
theorem dX11_lose_42 : decode cX11_lose 42 = .ok (.iload_n 1, 1) := by decide +kernel
theorem dX11_lose_43 : decode cX11_lose 43 = .ok (.iadd, 1) := by decide +kernel
theorem dX11_lose_44 : decode cX11_lose 44 = .ok (.bipush (-6), 2) := by decide +kernel
theorem dX11_lose_46 : decode cX11_lose 46 = .ok (.iastore, 1) := by decide +kernel
theorem dX11_lose_47 : decode cX11_lose 47 = .ok (.iload_n 2, 1) := by decide +kernel
theorem dX11_lose_48 : decode cX11_lose 48 = .ok (.ireturn, 1) := by decide +kernel
theorem dX11_found_0 : decode cX11_found 0 = .ok (.aload_n 0, 1) := by decide +kernel
theorem dX11_found_1 : decode cX11_found 1 = .ok (.iload_n 1, 1) := by decide +kernel
theorem dX11_found_2 : decode cX11_found 2 = .ok (.invokevirtual 125, 3) := by decide +kernel
theorem dX11_found_5 : decode cX11_found 5 = .ok (.ifCond .ne 6, 3) := by decide +kernel
theorem dX11_found_8 : decode cX11_found 8 = .ok (.bipush (-2), 2) := by decide +kernel
theorem dX11_found_10 : decode cX11_found 10 = .ok (.ireturn, 1) := by decide +kernel
theorem dX11_found_11 : decode cX11_found 11 = .ok (.aload_n 0, 1) := by decide +kernel
theorem dX11_found_12 : decode cX11_found 12 = .ok (.getfield 7, 3) := by decide +kernel
theorem dX11_found_15 : decode cX11_found 15 = .ok (.sipush 4100, 3) := by decide +kernel
theorem dX11_found_18 : decode cX11_found 18 = .ok (.iload_n 1, 1) := by decide +kernel
theorem dX11_found_19 : decode cX11_found 19 = .ok (.iadd, 1) := by decide +kernel
theorem dX11_found_20 : decode cX11_found 20 = .ok (.iaload, 1) := by decide +kernel
theorem dX11_found_21 : decode cX11_found 21 = .ok (.bipush (-6), 2) := by decide +kernel
theorem dX11_found_23 : decode cX11_found 23 = .ok (.if_icmp .eq 6, 3) := by decide +kernel
theorem dX11_found_26 : decode cX11_found 26 = .ok (.bipush (-3), 2) := by decide +kernel
theorem dX11_found_28 : decode cX11_found 28 = .ok (.ireturn, 1) := by decide +kernel
theorem dX11_found_29 : decode cX11_found 29 = .ok (.aload_n 0, 1) := by decide +kernel
theorem dX11_found_30 : decode cX11_found 30 = .ok (.invokevirtual 71, 3) := by decide +kernel
theorem dX11_found_33 : decode cX11_found 33 = .ok (.aload_n 0, 1) := by decide +kernel
theorem dX11_found_34 : decode cX11_found 34 = .ok (.getfield 7, 3) := by decide +kernel
theorem dX11_found_37 : decode cX11_found 37 = .ok (.sipush 4100, 3) := by decide +kernel
theorem dX11_found_40 : decode cX11_found 40 = .ok (.iload_n 1, 1) := by decide +kernel
theorem dX11_found_41 : decode cX11_found 41 = .ok (.iadd, 1) := by decide +kernel
theorem dX11_found_42 : decode cX11_found 42 = .ok (.iconst (-1), 1) := by decide +kernel
theorem dX11_found_43 : decode cX11_found 43 = .ok (.iastore, 1) := by decide +kernel
theorem dX11_found_44 : decode cX11_found 44 = .ok (.iconst 1, 1) := by decide +kernel
theorem dX11_found_45 : decode cX11_found 45 = .ok (.ireturn, 1) := by decide +kernel
theorem dX11_holder_0 : decode cX11_holder 0 = .ok (.aload_n 0, 1) := by decide +kernel
theorem dX11_holder_1 : decode cX11_holder 1 = .ok (.iload_n 1, 1) := by decide +kernel
theorem dX11_holder_2 : decode cX11_holder 2 = .ok (.invokevirtual 125, 3) := by decide +kernel
theorem dX11_holder_5 : decode cX11_holder 5 = .ok (.ifCond .eq 16, 3) := by decide +kernel
theorem dX11_holder_8 : decode cX11_holder 8 = .ok (.aload_n 0, 1) := by decide +kernel
theorem dX11_holder_9 : decode cX11_holder 9 = .ok (.getfield 7, 3) := by decide +kernel
theorem dX11_holder_12 : decode cX11_holder 12 = .ok (.sipush 4100, 3) := by decide +kernel
theorem dX11_holder_15 : decode cX11_holder 15 = .ok (.iload_n 1, 1) := by decide +kernel
theorem dX11_holder_16 : decode cX11_holder 16 = .ok (.iadd, 1) := by decide +kernel
theorem dX11_holder_17 : decode cX11_holder 17 = .ok (.iaload, 1) := by decide +kernel
theorem dX11_holder_18 : decode cX11_holder 18 = .ok (.goto 5, 3) := by decide +kernel
theorem dX11_holder_21 : decode cX11_holder 21 = .ok (.bipush (-2), 2) := by decide +kernel
theorem dX11_holder_23 : decode cX11_holder 23 = .ok (.ireturn, 1) := by decide +kernel
theorem dX11_wish_0 : decode cX11_wish 0 = .ok (.aload_n 0, 1) := by decide +kernel
theorem dX11_wish_1 : decode cX11_wish 1 = .ok (.iload_n 1, 1) := by decide +kernel
theorem dX11_wish_2 : decode cX11_wish 2 = .ok (.invokevirtual 125, 3) := by decide +kernel
theorem dX11_wish_5 : decode cX11_wish 5 = .ok (.ifCond .eq 23, 3) := by decide +kernel
theorem dX11_wish_8 : decode cX11_wish 8 = .ok (.aload_n 0, 1) := by decide +kernel
theorem dX11_wish_9 : decode cX11_wish 9 = .ok (.iload_n 2, 1) := by decide +kernel
theorem dX11_wish_10 : decode cX11_wish 10 = .ok (.invokevirtual 138, 3) := by decide +kernel
theorem dX11_wish_13 : decode cX11_wish 13 = .ok (.ifCond .eq 15, 3) := by decide +kernel
theorem dX11_wish_16 : decode cX11_wish 16 = .ok (.iload_n 3, 1) := by decide +kernel
theorem dX11_wish_17 : decode cX11_wish 17 = .ok (.i2l, 1) := by decide +kernel
theorem dX11_wish_18 : decode cX11_wish 18 = .ok (.lconst 0, 1) := by decide +kernel
theorem dX11_wish_19 : decode cX11_wish 19 = .ok (.ldc2_w 147, 3) := by decide +kernel
theorem dX11_wish_22 : decode cX11_wish 22 = .ok (.invokestatic 67, 3) := by decide +kernel
theorem dX11_wish_25 : decode cX11_wish 25 = .ok (.ifCond .ne 6, 3) := by decide +kernel
theorem dX11_wish_28 : decode cX11_wish 28 = .ok (.bipush (-2), 2) := by decide +kernel
theorem dX11_wish_30 : decode cX11_wish 30 = .ok (.ireturn, 1) := by decide +kernel
theorem dX11_wish_31 : decode cX11_wish 31 = .ok (.aload_n 0, 1) := by decide +kernel
theorem dX11_wish_32 : decode cX11_wish 32 = .ok (.invokevirtual 71, 3) := by decide +kernel
theorem dX11_wish_35 : decode cX11_wish 35 = .ok (.aload_n 0, 1) := by decide +kernel
theorem dX11_wish_36 : decode cX11_wish 36 = .ok (.getfield 7, 3) := by decide +kernel
theorem dX11_wish_39 : decode cX11_wish 39 = .ok (.sipush 4504, 3) := by decide +kernel
theorem dX11_wish_42 : decode cX11_wish 42 = .ok (.bipush 40, 2) := by decide +kernel
theorem dX11_wish_44 : decode cX11_wish 44 = .ok (.iload_n 1, 1) := by decide +kernel
theorem dX11_wish_45 : decode cX11_wish 45 = .ok (.imul, 1) := by decide +kernel
theorem dX11_wish_46 : decode cX11_wish 46 = .ok (.iadd, 1) := by decide +kernel
theorem dX11_wish_47 : decode cX11_wish 47 = .ok (.iload_n 2, 1) := by decide +kernel
theorem dX11_wish_48 : decode cX11_wish 48 = .ok (.iadd, 1) := by decide +kernel
theorem dX11_wish_49 : decode cX11_wish 49 = .ok (.iaload, 1) := by decide +kernel
theorem dX11_wish_50 : decode cX11_wish 50 = .ok (.istore 4, 2) := by decide +kernel
theorem dX11_wish_52 : decode cX11_wish 52 = .ok (.aload_n 0, 1) := by decide +kernel
theorem dX11_wish_53 : decode cX11_wish 53 = .ok (.getfield 7, 3) := by decide +kernel
theorem dX11_wish_56 : decode cX11_wish 56 = .ok (.sipush 4504, 3) := by decide +kernel
theorem dX11_wish_59 : decode cX11_wish 59 = .ok (.bipush 40, 2) := by decide +kernel
theorem dX11_wish_61 : decode cX11_wish 61 = .ok (.iload_n 1, 1) := by decide +kernel
theorem dX11_wish_62 : decode cX11_wish 62 = .ok (.imul, 1) := by decide +kernel
theorem dX11_wish_63 : decode cX11_wish 63 = .ok (.iadd, 1) := by decide +kernel
theorem dX11_wish_64 : decode cX11_wish 64 = .ok (.iload_n 2, 1) := by decide +kernel
theorem dX11_wish_65 : decode cX11_wish 65 = .ok (.iadd, 1) := by decide +kernel
theorem dX11_wish_66 : decode cX11_wish 66 = .ok (.iload_n 3, 1) := by decide +kernel
theorem dX11_wish_67 : decode cX11_wish 67 = .ok (.iastore, 1) := by decide +kernel
theorem dX11_wish_68 : decode cX11_wish 68 = .ok (.iload 4, 2) := by decide +kernel
theorem dX11_wish_70 : decode cX11_wish 70 = .ok (.ireturn, 1) := by decide +kernel
theorem dX11_areRight_0 : decode cX11_areRight 0 = .ok (.iload_n 0, 1) := by decide +kernel
theorem dX11_areRight_1 : decode cX11_areRight 1 = .ok (.i2l, 1) := by decide +kernel
theorem dX11_areRight_2 : decode cX11_areRight 2 = .ok (.lconst 1, 1) := by decide +kernel
theorem dX11_areRight_3 : decode cX11_areRight 3 = .ok (.ldc2_w 149, 3) := by decide +kernel
theorem dX11_areRight_6 : decode cX11_areRight 6 = .ok (.invokestatic 67, 3) := by decide +kernel
theorem dX11_areRight_9 : decode cX11_areRight 9 = .ok (.ifCond .eq 43, 3) := by decide +kernel
theorem dX11_areRight_12 : decode cX11_areRight 12 = .ok (.iload_n 1, 1) := by decide +kernel
theorem dX11_areRight_13 : decode cX11_areRight 13 = .ok (.i2l, 1) := by decide +kernel
theorem dX11_areRight_14 : decode cX11_areRight 14 = .ok (.lconst 1, 1) := by decide +kernel
theorem dX11_areRight_15 : decode cX11_areRight 15 = .ok (.ldc2_w 149, 3) := by decide +kernel
theorem dX11_areRight_18 : decode cX11_areRight 18 = .ok (.invokestatic 67, 3) := by decide +kernel
theorem dX11_areRight_21 : decode cX11_areRight 21 = .ok (.ifCond .eq 31, 3) := by decide +kernel
theorem dX11_areRight_24 : decode cX11_areRight 24 = .ok (.iload_n 2, 1) := by decide +kernel
theorem dX11_areRight_25 : decode cX11_areRight 25 = .ok (.i2l, 1) := by decide +kernel
theorem dX11_areRight_26 : decode cX11_areRight 26 = .ok (.lconst 1, 1) := by decide +kernel
theorem dX11_areRight_27 : decode cX11_areRight 27 = .ok (.ldc2_w 151, 3) := by decide +kernel
theorem dX11_areRight_30 : decode cX11_areRight 30 = .ok (.invokestatic 67, 3) := by decide +kernel
theorem dX11_areRight_33 : decode cX11_areRight 33 = .ok (.ifCond .eq 19, 3) := by decide +kernel
theorem dX11_areRight_36 : decode cX11_areRight 36 = .ok (.iload_n 3, 1) := by decide +kernel
theorem dX11_areRight_37 : decode cX11_areRight 37 = .ok (.i2l, 1) := by decide +kernel
theorem dX11_areRight_38 : decode cX11_areRight 38 = .ok (.lconst 0, 1) := by decide +kernel
theorem dX11_areRight_39 : decode cX11_areRight 39 = .ok (.ldc2_w 91, 3) := by decide +kernel
theorem dX11_areRight_42 : decode cX11_areRight 42 = .ok (.invokestatic 67, 3) := by decide +kernel
theorem dX11_areRight_45 : decode cX11_areRight 45 = .ok (.ifCond .eq 7, 3) := by decide +kernel
theorem dX11_areRight_48 : decode cX11_areRight 48 = .ok (.iconst 1, 1) := by decide +kernel
theorem dX11_areRight_49 : decode cX11_areRight 49 = .ok (.goto 4, 3) := by decide +kernel
theorem dX11_areRight_52 : decode cX11_areRight 52 = .ok (.iconst 0, 1) := by decide +kernel
theorem dX11_areRight_53 : decode cX11_areRight 53 = .ok (.ireturn, 1) := by decide +kernel
theorem dX11_against_0 : decode cX11_against 0 = .ok (.iconst 0, 1) := by decide +kernel
theorem dX11_against_1 : decode cX11_against 1 = .ok (.istore_n 3, 1) := by decide +kernel
theorem dX11_against_2 : decode cX11_against 2 = .ok (.iload_n 3, 1) := by decide +kernel
theorem dX11_against_3 : decode cX11_against 3 = .ok (.iload_n 1, 1) := by decide +kernel
theorem dX11_against_4 : decode cX11_against 4 = .ok (.if_icmp .ge 150, 3) := by decide +kernel
theorem dX11_against_7 : decode cX11_against 7 = .ok (.aload_n 0, 1) := by decide +kernel
theorem dX11_against_8 : decode cX11_against 8 = .ok (.getfield 7, 3) := by decide +kernel
theorem dX11_against_11 : decode cX11_against 11 = .ok (.sipush 4464, 3) := by decide +kernel
theorem dX11_against_14 : decode cX11_against 14 = .ok (.iload_n 3, 1) := by decide +kernel
theorem dX11_against_15 : decode cX11_against 15 = .ok (.iadd, 1) := by decide +kernel
theorem dX11_against_16 : decode cX11_against 16 = .ok (.iaload, 1) := by decide +kernel
theorem dX11_against_17 : decode cX11_against 17 = .ok (.istore 4, 2) := by decide +kernel
theorem dX11_against_19 : decode cX11_against 19 = .ok (.iload 4, 2) := by decide +kernel
theorem dX11_against_21 : decode cX11_against 21 = .ok (.iconst (-1), 1) := by decide +kernel
theorem dX11_against_22 : decode cX11_against 22 = .ok (.if_icmp .eq 29, 3) := by decide +kernel
theorem dX11_against_25 : decode cX11_against 25 = .ok (.aload_n 0, 1) := by decide +kernel
theorem dX11_against_26 : decode cX11_against 26 = .ok (.getfield 7, 3) := by decide +kernel
theorem dX11_against_29 : decode cX11_against 29 = .ok (.iconst 0, 1) := by decide +kernel
theorem dX11_against_30 : decode cX11_against 30 = .ok (.iload 4, 2) := by decide +kernel
theorem dX11_against_32 : decode cX11_against 32 = .ok (.iadd, 1) := by decide +kernel
theorem dX11_against_33 : decode cX11_against 33 = .ok (.iaload, 1) := by decide +kernel
theorem dX11_against_34 : decode cX11_against 34 = .ok (.iconst 4, 1) := by decide +kernel
theorem dX11_against_35 : decode cX11_against 35 = .ok (.if_icmp .eq 16, 3) := by decide +kernel
theorem dX11_against_38 : decode cX11_against 38 = .ok (.aload_n 0, 1) := by decide +kernel
theorem dX11_against_39 : decode cX11_against 39 = .ok (.getfield 7, 3) := by decide +kernel
theorem dX11_against_42 : decode cX11_against 42 = .ok (.bipush 100, 2) := by decide +kernel
theorem dX11_against_44 : decode cX11_against 44 = .ok (.iload 4, 2) := by decide +kernel
theorem dX11_against_46 : decode cX11_against 46 = .ok (.iadd, 1) := by decide +kernel
theorem dX11_against_47 : decode cX11_against 47 = .ok (.iaload, 1) := by decide +kernel
theorem dX11_against_48 : decode cX11_against 48 = .ok (.ifCond .ge 28, 3) := by decide +kernel
theorem dX11_against_51 : decode cX11_against 51 = .ok (.iload 4, 2) := by decide +kernel
theorem dX11_against_53 : decode cX11_against 53 = .ok (.iconst (-1), 1) := by decide +kernel
theorem dX11_against_54 : decode cX11_against 54 = .ok (.if_icmp .eq 20, 3) := by decide +kernel
theorem dX11_against_57 : decode cX11_against 57 = .ok (.aload_n 0, 1) := by decide +kernel
theorem dX11_against_58 : decode cX11_against 58 = .ok (.getfield 7, 3) := by decide +kernel
theorem dX11_against_61 : decode cX11_against 61 = .ok (.iconst 0, 1) := by decide +kernel
theorem dX11_against_62 : decode cX11_against 62 = .ok (.iload 4, 2) := by decide +kernel
theorem dX11_against_64 : decode cX11_against 64 = .ok (.iadd, 1) := by decide +kernel
theorem dX11_against_65 : decode cX11_against 65 = .ok (.iaload, 1) := by decide +kernel
theorem dX11_against_66 : decode cX11_against 66 = .ok (.iconst 4, 1) := by decide +kernel
theorem dX11_against_67 : decode cX11_against 67 = .ok (.if_icmp .ne 7, 3) := by decide +kernel
theorem dX11_against_70 : decode cX11_against 70 = .ok (.iconst 3, 1) := by decide +kernel
theorem dX11_against_71 : decode cX11_against 71 = .ok (.goto 4, 3) := by decide +kernel
theorem dX11_against_74 : decode cX11_against 74 = .ok (.iconst 1, 1) := by decide +kernel
theorem dX11_against_75 : decode cX11_against 75 = .ok (.ireturn, 1) := by decide +kernel
theorem dX11_against_76 : decode cX11_against 76 = .ok (.aload_n 0, 1) := by decide +kernel
theorem dX11_against_77 : decode cX11_against 77 = .ok (.getfield 7, 3) := by decide +kernel
theorem dX11_against_80 : decode cX11_against 80 = .ok (.bipush 100, 2) := by decide +kernel
theorem dX11_against_82 : decode cX11_against 82 = .ok (.iload 4, 2) := by decide +kernel
theorem dX11_against_84 : decode cX11_against 84 = .ok (.iadd, 1) := by decide +kernel
theorem dX11_against_85 : decode cX11_against 85 = .ok (.iaload, 1) := by decide +kernel
theorem dX11_against_86 : decode cX11_against 86 = .ok (.iload_n 2, 1) := by decide +kernel
theorem dX11_against_87 : decode cX11_against 87 = .ok (.if_icmp .eq 7, 3) := by decide +kernel
theorem dX11_against_90 : decode cX11_against 90 = .ok (.iconst 1, 1) := by decide +kernel
theorem dX11_against_91 : decode cX11_against 91 = .ok (.goto 4, 3) := by decide +kernel
theorem dX11_against_94 : decode cX11_against 94 = .ok (.iconst 0, 1) := by decide +kernel
theorem dX11_against_95 : decode cX11_against 95 = .ok (.istore 5, 2) := by decide +kernel
theorem dX11_against_97 : decode cX11_against 97 = .ok (.iconst 0, 1) := by decide +kernel
theorem dX11_against_98 : decode cX11_against 98 = .ok (.istore 6, 2) := by decide +kernel
theorem dX11_against_100 : decode cX11_against 100 = .ok (.iload 6, 2) := by decide +kernel
theorem dX11_against_102 : decode cX11_against 102 = .ok (.iload_n 3, 1) := by decide +kernel
theorem dX11_against_103 : decode cX11_against 103 = .ok (.if_icmp .ge 37, 3) := by decide +kernel
theorem dX11_against_106 : decode cX11_against 106 = .ok (.iload 5, 2) := by decide +kernel
theorem dX11_against_108 : decode cX11_against 108 = .ok (.ifCond .ne 19, 3) := by decide +kernel
theorem dX11_against_111 : decode cX11_against 111 = .ok (.aload_n 0, 1) := by decide +kernel
theorem dX11_against_112 : decode cX11_against 112 = .ok (.getfield 7, 3) := by decide +kernel
theorem dX11_against_115 : decode cX11_against 115 = .ok (.sipush 4464, 3) := by decide +kernel
theorem dX11_against_118 : decode cX11_against 118 = .ok (.iload 6, 2) := by decide +kernel
theorem dX11_against_120 : decode cX11_against 120 = .ok (.iadd, 1) := by decide +kernel
theorem dX11_against_121 : decode cX11_against 121 = .ok (.iaload, 1) := by decide +kernel
theorem dX11_against_122 : decode cX11_against 122 = .ok (.iload 4, 2) := by decide +kernel
theorem dX11_against_124 : decode cX11_against 124 = .ok (.if_icmp .ne 7, 3) := by decide +kernel
theorem dX11_against_127 : decode cX11_against 127 = .ok (.iconst 1, 1) := by decide +kernel
theorem dX11_against_128 : decode cX11_against 128 = .ok (.goto 4, 3) := by decide +kernel
theorem dX11_against_131 : decode cX11_against 131 = .ok (.iconst 0, 1) := by decide +kernel
theorem dX11_against_132 : decode cX11_against 132 = .ok (.istore 5, 2) := by decide +kernel
theorem dX11_against_134 : decode cX11_against 134 = .ok (.iinc 6 1, 3) := by decide +kernel
theorem dX11_against_137 : decode cX11_against 137 = .ok (.goto (-37), 3) := by decide +kernel
theorem dX11_against_140 : decode cX11_against 140 = .ok (.iload 5, 2) := by decide +kernel
theorem dX11_against_142 : decode cX11_against 142 = .ok (.ifCond .eq 6, 3) := by decide +kernel
theorem dX11_against_145 : decode cX11_against 145 = .ok (.bipush (-3), 2) := by decide +kernel
theorem dX11_against_147 : decode cX11_against 147 = .ok (.ireturn, 1) := by decide +kernel
theorem dX11_against_148 : decode cX11_against 148 = .ok (.iinc 3 1, 3) := by decide +kernel
theorem dX11_against_151 : decode cX11_against 151 = .ok (.goto (-149), 3) := by decide +kernel
theorem dX11_against_154 : decode cX11_against 154 = .ok (.iconst 0, 1) := by decide +kernel
theorem dX11_against_155 : decode cX11_against 155 = .ok (.ireturn, 1) := by decide +kernel
theorem dX11_work_0 : decode cX11_work 0 = .ok (.iload_n 1, 1) := by decide +kernel
theorem dX11_work_1 : decode cX11_work 1 = .ok (.iload_n 2, 1) := by decide +kernel
theorem dX11_work_2 : decode cX11_work 2 = .ok (.iload_n 3, 1) := by decide +kernel
theorem dX11_work_3 : decode cX11_work 3 = .ok (.iload 4, 2) := by decide +kernel
theorem dX11_work_5 : decode cX11_work 5 = .ok (.invokestatic 153, 3) := by decide +kernel
theorem dX11_work_8 : decode cX11_work 8 = .ok (.ifCond .ne 6, 3) := by decide +kernel
theorem dX11_work_11 : decode cX11_work 11 = .ok (.bipush (-2), 2) := by decide +kernel
theorem dX11_work_13 : decode cX11_work 13 = .ok (.ireturn, 1) := by decide +kernel
theorem dX11_work_14 : decode cX11_work 14 = .ok (.iload_n 1, 1) := by decide +kernel
theorem dX11_work_15 : decode cX11_work 15 = .ok (.aload_n 0, 1) := by decide +kernel
theorem dX11_work_16 : decode cX11_work 16 = .ok (.getfield 7, 3) := by decide +kernel
theorem dX11_work_19 : decode cX11_work 19 = .ok (.sipush 8523, 3) := by decide +kernel
theorem dX11_work_22 : decode cX11_work 22 = .ok (.iaload, 1) := by decide +kernel
theorem dX11_work_23 : decode cX11_work 23 = .ok (.if_icmp .gt 15, 3) := by decide +kernel
theorem dX11_work_26 : decode cX11_work 26 = .ok (.iload_n 2, 1) := by decide +kernel
theorem dX11_work_27 : decode cX11_work 27 = .ok (.aload_n 0, 1) := by decide +kernel
theorem dX11_work_28 : decode cX11_work 28 = .ok (.getfield 7, 3) := by decide +kernel
theorem dX11_work_31 : decode cX11_work 31 = .ok (.sipush 8525, 3) := by decide +kernel
theorem dX11_work_34 : decode cX11_work 34 = .ok (.iaload, 1) := by decide +kernel
theorem dX11_work_35 : decode cX11_work 35 = .ok (.if_icmp .le 8, 3) := by decide +kernel
theorem dX11_work_38 : decode cX11_work 38 = .ok (.bipush (-3), 2) := by decide +kernel
theorem dX11_work_40 : decode cX11_work 40 = .ok (.goto 13, 3) := by decide +kernel
theorem dX11_work_43 : decode cX11_work 43 = .ok (.aload_n 0, 1) := by decide +kernel
theorem dX11_work_44 : decode cX11_work 44 = .ok (.iconst (-1), 1) := by decide +kernel
theorem dX11_work_45 : decode cX11_work 45 = .ok (.iload_n 1, 1) := by decide +kernel
theorem dX11_work_46 : decode cX11_work 46 = .ok (.iload_n 2, 1) := by decide +kernel
theorem dX11_work_47 : decode cX11_work 47 = .ok (.iload_n 3, 1) := by decide +kernel
theorem dX11_work_48 : decode cX11_work 48 = .ok (.iload 4, 2) := by decide +kernel
theorem dX11_work_50 : decode cX11_work 50 = .ok (.invokevirtual 157, 3) := by decide +kernel
theorem dX11_work_53 : decode cX11_work 53 = .ok (.ireturn, 1) := by decide +kernel
theorem dX11_anew_0 : decode cX11_anew 0 = .ok (.iload_n 2, 1) := by decide +kernel
theorem dX11_anew_1 : decode cX11_anew 1 = .ok (.iload_n 3, 1) := by decide +kernel
theorem dX11_anew_2 : decode cX11_anew 2 = .ok (.iload 4, 2) := by decide +kernel
theorem dX11_anew_4 : decode cX11_anew 4 = .ok (.iload 5, 2) := by decide +kernel
theorem dX11_anew_6 : decode cX11_anew 6 = .ok (.invokestatic 153, 3) := by decide +kernel
theorem dX11_anew_9 : decode cX11_anew 9 = .ok (.ifCond .eq 16, 3) := by decide +kernel
theorem dX11_anew_12 : decode cX11_anew 12 = .ok (.iload_n 1, 1) := by decide +kernel
theorem dX11_anew_13 : decode cX11_anew 13 = .ok (.i2l, 1) := by decide +kernel
theorem dX11_anew_14 : decode cX11_anew 14 = .ok (.lconst 0, 1) := by decide +kernel
theorem dX11_anew_15 : decode cX11_anew 15 = .ok (.iload_n 2, 1) := by decide +kernel
theorem dX11_anew_16 : decode cX11_anew 16 = .ok (.iconst 1, 1) := by decide +kernel
theorem dX11_anew_17 : decode cX11_anew 17 = .ok (.isub, 1) := by decide +kernel
theorem dX11_anew_18 : decode cX11_anew 18 = .ok (.i2l, 1) := by decide +kernel
theorem dX11_anew_19 : decode cX11_anew 19 = .ok (.invokestatic 67, 3) := by decide +kernel
theorem dX11_anew_22 : decode cX11_anew 22 = .ok (.ifCond .ne 6, 3) := by decide +kernel
theorem dX11_anew_25 : decode cX11_anew 25 = .ok (.bipush (-2), 2) := by decide +kernel
theorem dX11_anew_27 : decode cX11_anew 27 = .ok (.ireturn, 1) := by decide +kernel
theorem dX11_anew_28 : decode cX11_anew 28 = .ok (.iload_n 2, 1) := by decide +kernel
theorem dX11_anew_29 : decode cX11_anew 29 = .ok (.aload_n 0, 1) := by decide +kernel
theorem dX11_anew_30 : decode cX11_anew 30 = .ok (.getfield 7, 3) := by decide +kernel
theorem dX11_anew_33 : decode cX11_anew 33 = .ok (.sipush 8523, 3) := by decide +kernel
theorem dX11_anew_36 : decode cX11_anew 36 = .ok (.iaload, 1) := by decide +kernel
theorem dX11_anew_37 : decode cX11_anew 37 = .ok (.if_icmp .gt 45, 3) := by decide +kernel
theorem dX11_anew_40 : decode cX11_anew 40 = .ok (.iload_n 3, 1) := by decide +kernel
theorem dX11_anew_41 : decode cX11_anew 41 = .ok (.aload_n 0, 1) := by decide +kernel
theorem dX11_anew_42 : decode cX11_anew 42 = .ok (.getfield 7, 3) := by decide +kernel
theorem dX11_anew_45 : decode cX11_anew 45 = .ok (.sipush 8525, 3) := by decide +kernel
theorem dX11_anew_48 : decode cX11_anew 48 = .ok (.iaload, 1) := by decide +kernel
theorem dX11_anew_49 : decode cX11_anew 49 = .ok (.if_icmp .gt 33, 3) := by decide +kernel
theorem dX11_anew_52 : decode cX11_anew 52 = .ok (.aload_n 0, 1) := by decide +kernel
theorem dX11_anew_53 : decode cX11_anew 53 = .ok (.getfield 7, 3) := by decide +kernel
theorem dX11_anew_56 : decode cX11_anew 56 = .ok (.sipush 4100, 3) := by decide +kernel
theorem dX11_anew_59 : decode cX11_anew 59 = .ok (.iload_n 1, 1) := by decide +kernel
theorem dX11_anew_60 : decode cX11_anew 60 = .ok (.iadd, 1) := by decide +kernel
theorem dX11_anew_61 : decode cX11_anew 61 = .ok (.iaload, 1) := by decide +kernel
theorem dX11_anew_62 : decode cX11_anew 62 = .ok (.bipush (-6), 2) := by decide +kernel
theorem dX11_anew_64 : decode cX11_anew 64 = .ok (.if_icmp .ne 18, 3) := by decide +kernel
theorem dX11_anew_67 : decode cX11_anew 67 = .ok (.aload_n 0, 1) := by decide +kernel
theorem dX11_anew_68 : decode cX11_anew 68 = .ok (.getfield 7, 3) := by decide +kernel
theorem dX11_anew_71 : decode cX11_anew 71 = .ok (.sipush 2200, 3) := by decide +kernel
theorem dX11_anew_74 : decode cX11_anew 74 = .ok (.iload_n 1, 1) := by decide +kernel
theorem dX11_anew_75 : decode cX11_anew 75 = .ok (.iadd, 1) := by decide +kernel
theorem dX11_anew_76 : decode cX11_anew 76 = .ok (.iaload, 1) := by decide +kernel
theorem dX11_anew_77 : decode cX11_anew 77 = .ok (.iload 4, 2) := by decide +kernel
theorem dX11_anew_79 : decode cX11_anew 79 = .ok (.if_icmp .eq 8, 3) := by decide +kernel
theorem dX11_anew_82 : decode cX11_anew 82 = .ok (.bipush (-3), 2) := by decide +kernel
theorem dX11_anew_84 : decode cX11_anew 84 = .ok (.goto 14, 3) := by decide +kernel
theorem dX11_anew_87 : decode cX11_anew 87 = .ok (.aload_n 0, 1) := by decide +kernel
theorem dX11_anew_88 : decode cX11_anew 88 = .ok (.iload_n 1, 1) := by decide +kernel
theorem dX11_anew_89 : decode cX11_anew 89 = .ok (.iload_n 2, 1) := by decide +kernel
theorem dX11_anew_90 : decode cX11_anew 90 = .ok (.iload_n 3, 1) := by decide +kernel
theorem dX11_anew_91 : decode cX11_anew 91 = .ok (.iload 4, 2) := by decide +kernel
theorem dX11_anew_93 : decode cX11_anew 93 = .ok (.iload 5, 2) := by decide +kernel
theorem dX11_anew_95 : decode cX11_anew 95 = .ok (.invokevirtual 157, 3) := by decide +kernel
theorem dX11_anew_98 : decode cX11_anew 98 = .ok (.ireturn, 1) := by decide +kernel
theorem dX11_searched_0 : decode cX11_searched 0 = .ok (.aload_n 0, 1) := by decide +kernel
theorem dX11_searched_1 : decode cX11_searched 1 = .ok (.iload_n 3, 1) := by decide +kernel
theorem dX11_searched_2 : decode cX11_searched 2 = .ok (.iload 4, 2) := by decide +kernel
theorem dX11_searched_4 : decode cX11_searched 4 = .ok (.invokevirtual 161, 3) := by decide +kernel
theorem dX11_searched_7 : decode cX11_searched 7 = .ok (.istore 6, 2) := by decide +kernel
theorem dX11_searched_9 : decode cX11_searched 9 = .ok (.iload 6, 2) := by decide +kernel
theorem dX11_searched_11 : decode cX11_searched 11 = .ok (.ifCond .eq 22, 3) := by decide +kernel
theorem dX11_searched_14 : decode cX11_searched 14 = .ok (.iload 6, 2) := by decide +kernel
theorem dX11_searched_16 : decode cX11_searched 16 = .ok (.bipush (-3), 2) := by decide +kernel
theorem dX11_searched_18 : decode cX11_searched 18 = .ok (.if_icmp .ne 8, 3) := by decide +kernel
theorem dX11_searched_21 : decode cX11_searched 21 = .ok (.bipush (-3), 2) := by decide +kernel
theorem dX11_searched_23 : decode cX11_searched 23 = .ok (.goto 9, 3) := by decide +kernel
theorem dX11_searched_26 : decode cX11_searched 26 = .ok (.aload_n 0, 1) := by decide +kernel
theorem dX11_searched_27 : decode cX11_searched 27 = .ok (.iload 6, 2) := by decide +kernel
theorem dX11_searched_29 : decode cX11_searched 29 = .ok (.invokevirtual 80, 3) := by decide +kernel
theorem dX11_searched_32 : decode cX11_searched 32 = .ok (.ireturn, 1) := by decide +kernel
theorem dX11_searched_33 : decode cX11_searched 33 = .ok (.aload_n 0, 1) := by decide +kernel
theorem dX11_searched_34 : decode cX11_searched 34 = .ok (.iconst 0, 1) := by decide +kernel
theorem dX11_searched_35 : decode cX11_searched 35 = .ok (.putfield 164, 3) := by decide +kernel
theorem dX11_searched_38 : decode cX11_searched 38 = .ok (.iconst 0, 1) := by decide +kernel
theorem dX11_searched_39 : decode cX11_searched 39 = .ok (.istore 7, 2) := by decide +kernel
theorem dX11_searched_41 : decode cX11_searched 41 = .ok (.iload 7, 2) := by decide +kernel
theorem dX11_searched_43 : decode cX11_searched 43 = .ok (.iload_n 2, 1) := by decide +kernel
theorem dX11_searched_44 : decode cX11_searched 44 = .ok (.if_icmp .ge 161, 3) := by decide +kernel
theorem dX11_searched_47 : decode cX11_searched 47 = .ok (.iload 7, 2) := by decide +kernel
theorem dX11_searched_49 : decode cX11_searched 49 = .ok (.iload_n 1, 1) := by decide +kernel
theorem dX11_searched_50 : decode cX11_searched 50 = .ok (.if_icmp .eq 24, 3) := by decide +kernel
theorem dX11_searched_53 : decode cX11_searched 53 = .ok (.aload_n 0, 1) := by decide +kernel
theorem dX11_searched_54 : decode cX11_searched 54 = .ok (.getfield 32, 3) := by decide +kernel
theorem dX11_searched_57 : decode cX11_searched 57 = .ok (.aload_n 0, 1) := by decide +kernel
theorem dX11_searched_58 : decode cX11_searched 58 = .ok (.getfield 164, 3) := by decide +kernel
theorem dX11_searched_61 : decode cX11_searched 61 = .ok (.iload 7, 2) := by decide +kernel
theorem dX11_searched_63 : decode cX11_searched 63 = .ok (.iastore, 1) := by decide +kernel
theorem dX11_searched_64 : decode cX11_searched 64 = .ok (.aload_n 0, 1) := by decide +kernel
theorem dX11_searched_65 : decode cX11_searched 65 = .ok (.dup, 1) := by decide +kernel
theorem dX11_searched_66 : decode cX11_searched 66 = .ok (.getfield 164, 3) := by decide +kernel
theorem dX11_searched_69 : decode cX11_searched 69 = .ok (.iconst 1, 1) := by decide +kernel
theorem dX11_searched_70 : decode cX11_searched 70 = .ok (.iadd, 1) := by decide +kernel
theorem dX11_searched_71 : decode cX11_searched 71 = .ok (.putfield 164, 3) := by decide +kernel
theorem dX11_searched_74 : decode cX11_searched 74 = .ok (.iconst 0, 1) := by decide +kernel
theorem dX11_searched_75 : decode cX11_searched 75 = .ok (.istore 8, 2) := by decide +kernel
theorem dX11_searched_77 : decode cX11_searched 77 = .ok (.iload 8, 2) := by decide +kernel
theorem dX11_searched_79 : decode cX11_searched 79 = .ok (.iload_n 3, 1) := by decide +kernel
theorem dX11_searched_80 : decode cX11_searched 80 = .ok (.if_icmp .ge 68, 3) := by decide +kernel
theorem dX11_searched_83 : decode cX11_searched 83 = .ok (.aload_n 0, 1) := by decide +kernel
theorem dX11_searched_84 : decode cX11_searched 84 = .ok (.getfield 7, 3) := by decide +kernel
theorem dX11_searched_87 : decode cX11_searched 87 = .ok (.sipush 4504, 3) := by decide +kernel
theorem dX11_searched_90 : decode cX11_searched 90 = .ok (.bipush 40, 2) := by decide +kernel
theorem dX11_searched_92 : decode cX11_searched 92 = .ok (.iload 7, 2) := by decide +kernel
theorem dX11_searched_94 : decode cX11_searched 94 = .ok (.imul, 1) := by decide +kernel
theorem dX11_searched_95 : decode cX11_searched 95 = .ok (.iadd, 1) := by decide +kernel
theorem dX11_searched_96 : decode cX11_searched 96 = .ok (.iload 8, 2) := by decide +kernel
theorem dX11_searched_98 : decode cX11_searched 98 = .ok (.iadd, 1) := by decide +kernel
theorem dX11_searched_99 : decode cX11_searched 99 = .ok (.iaload, 1) := by decide +kernel
theorem dX11_searched_100 : decode cX11_searched 100 = .ok (.istore 9, 2) := by decide +kernel
theorem dX11_searched_102 : decode cX11_searched 102 = .ok (.aload_n 0, 1) := by decide +kernel
theorem dX11_searched_103 : decode cX11_searched 103 = .ok (.getfield 35, 3) := by decide +kernel
theorem dX11_searched_106 : decode cX11_searched 106 = .ok (.bipush 6, 2) := by decide +kernel
theorem dX11_searched_108 : decode cX11_searched 108 = .ok (.iload 7, 2) := by decide +kernel
theorem dX11_searched_110 : decode cX11_searched 110 = .ok (.imul, 1) := by decide +kernel
theorem dX11_searched_111 : decode cX11_searched 111 = .ok (.iload 8, 2) := by decide +kernel
theorem dX11_searched_113 : decode cX11_searched 113 = .ok (.iadd, 1) := by decide +kernel
theorem dX11_searched_114 : decode cX11_searched 114 = .ok (.iload 7, 2) := by decide +kernel
theorem dX11_searched_116 : decode cX11_searched 116 = .ok (.iload_n 1, 1) := by decide +kernel
theorem dX11_searched_117 : decode cX11_searched 117 = .ok (.if_icmp .eq 8, 3) := by decide +kernel
theorem dX11_searched_120 : decode cX11_searched 120 = .ok (.iload 9, 2) := by decide +kernel
theorem dX11_searched_122 : decode cX11_searched 122 = .ok (.goto 19, 3) := by decide +kernel
theorem dX11_searched_125 : decode cX11_searched 125 = .ok (.aload_n 0, 1) := by decide +kernel
theorem dX11_searched_126 : decode cX11_searched 126 = .ok (.iload 7, 2) := by decide +kernel
theorem dX11_searched_128 : decode cX11_searched 128 = .ok (.iload 8, 2) := by decide +kernel
theorem dX11_searched_130 : decode cX11_searched 130 = .ok (.invokevirtual 167, 3) := by decide +kernel
theorem dX11_searched_133 : decode cX11_searched 133 = .ok (.ifCond .eq 7, 3) := by decide +kernel
theorem dX11_searched_136 : decode cX11_searched 136 = .ok (.iconst 2, 1) := by decide +kernel
theorem dX11_searched_137 : decode cX11_searched 137 = .ok (.goto 4, 3) := by decide +kernel
theorem dX11_searched_140 : decode cX11_searched 140 = .ok (.iconst 0, 1) := by decide +kernel
theorem dX11_searched_141 : decode cX11_searched 141 = .ok (.iastore, 1) := by decide +kernel
theorem dX11_searched_142 : decode cX11_searched 142 = .ok (.iinc 8 1, 3) := by decide +kernel
theorem dX11_searched_145 : decode cX11_searched 145 = .ok (.goto (-68), 3) := by decide +kernel
theorem dX11_searched_148 : decode cX11_searched 148 = .ok (.iconst 0, 1) := by decide +kernel
theorem dX11_searched_149 : decode cX11_searched 149 = .ok (.istore 8, 2) := by decide +kernel
theorem dX11_searched_151 : decode cX11_searched 151 = .ok (.iload 8, 2) := by decide +kernel
theorem dX11_searched_153 : decode cX11_searched 153 = .ok (.iload 4, 2) := by decide +kernel
theorem dX11_searched_155 : decode cX11_searched 155 = .ok (.if_icmp .ge 44, 3) := by decide +kernel
theorem dX11_searched_158 : decode cX11_searched 158 = .ok (.iload 7, 2) := by decide +kernel
theorem dX11_searched_160 : decode cX11_searched 160 = .ok (.iload_n 1, 1) := by decide +kernel
theorem dX11_searched_161 : decode cX11_searched 161 = .ok (.if_icmp .ne 38, 3) := by decide +kernel
theorem dX11_searched_164 : decode cX11_searched 164 = .ok (.aload_n 0, 1) := by decide +kernel
theorem dX11_searched_165 : decode cX11_searched 165 = .ok (.getfield 26, 3) := by decide +kernel
theorem dX11_searched_168 : decode cX11_searched 168 = .ok (.iconst 5, 1) := by decide +kernel
theorem dX11_searched_169 : decode cX11_searched 169 = .ok (.iload 7, 2) := by decide +kernel
theorem dX11_searched_171 : decode cX11_searched 171 = .ok (.imul, 1) := by decide +kernel
theorem dX11_searched_172 : decode cX11_searched 172 = .ok (.iload 8, 2) := by decide +kernel
theorem dX11_searched_174 : decode cX11_searched 174 = .ok (.iadd, 1) := by decide +kernel
theorem dX11_searched_175 : decode cX11_searched 175 = .ok (.aload_n 0, 1) := by decide +kernel
theorem dX11_searched_176 : decode cX11_searched 176 = .ok (.getfield 7, 3) := by decide +kernel
theorem dX11_searched_179 : decode cX11_searched 179 = .ok (.sipush 2300, 3) := by decide +kernel
theorem dX11_searched_182 : decode cX11_searched 182 = .ok (.bipush 18, 2) := by decide +kernel
theorem dX11_searched_184 : decode cX11_searched 184 = .ok (.iload 7, 2) := by decide +kernel
theorem dX11_searched_186 : decode cX11_searched 186 = .ok (.imul, 1) := by decide +kernel
theorem dX11_searched_187 : decode cX11_searched 187 = .ok (.iadd, 1) := by decide +kernel
theorem dX11_searched_188 : decode cX11_searched 188 = .ok (.iload 8, 2) := by decide +kernel
theorem dX11_searched_190 : decode cX11_searched 190 = .ok (.iadd, 1) := by decide +kernel
theorem dX11_searched_191 : decode cX11_searched 191 = .ok (.iaload, 1) := by decide +kernel
theorem dX11_searched_192 : decode cX11_searched 192 = .ok (.iastore, 1) := by decide +kernel
theorem dX11_searched_193 : decode cX11_searched 193 = .ok (.iinc 8 1, 3) := by decide +kernel
theorem dX11_searched_196 : decode cX11_searched 196 = .ok (.goto (-45), 3) := by decide +kernel
theorem dX11_searched_199 : decode cX11_searched 199 = .ok (.iinc 7 1, 3) := by decide +kernel
theorem dX11_searched_202 : decode cX11_searched 202 = .ok (.goto (-161), 3) := by decide +kernel
theorem dX11_searched_205 : decode cX11_searched 205 = .ok (.aload_n 0, 1) := by decide +kernel
theorem dX11_searched_206 : decode cX11_searched 206 = .ok (.iconst 0, 1) := by decide +kernel
theorem dX11_searched_207 : decode cX11_searched 207 = .ok (.putfield 170, 3) := by decide +kernel
theorem dX11_searched_210 : decode cX11_searched 210 = .ok (.aload_n 0, 1) := by decide +kernel
theorem dX11_searched_211 : decode cX11_searched 211 = .ok (.iload_n 1, 1) := by decide +kernel
theorem dX11_searched_212 : decode cX11_searched 212 = .ok (.iload_n 2, 1) := by decide +kernel
theorem dX11_searched_213 : decode cX11_searched 213 = .ok (.iload_n 3, 1) := by decide +kernel
theorem dX11_searched_214 : decode cX11_searched 214 = .ok (.iload 4, 2) := by decide +kernel
theorem dX11_searched_216 : decode cX11_searched 216 = .ok (.iload 5, 2) := by decide +kernel
theorem dX11_searched_218 : decode cX11_searched 218 = .ok (.invokevirtual 173, 3) := by decide +kernel
theorem dX11_searched_221 : decode cX11_searched 221 = .ok (.istore 7, 2) := by decide +kernel
theorem dX11_searched_223 : decode cX11_searched 223 = .ok (.iload 7, 2) := by decide +kernel
theorem dX11_searched_225 : decode cX11_searched 225 = .ok (.iconst 1, 1) := by decide +kernel
theorem dX11_searched_226 : decode cX11_searched 226 = .ok (.if_icmp .ne 14, 3) := by decide +kernel
theorem dX11_searched_229 : decode cX11_searched 229 = .ok (.aload_n 0, 1) := by decide +kernel
theorem dX11_searched_230 : decode cX11_searched 230 = .ok (.invokevirtual 71, 3) := by decide +kernel
theorem dX11_searched_233 : decode cX11_searched 233 = .ok (.aload_n 0, 1) := by decide +kernel
theorem dX11_searched_234 : decode cX11_searched 234 = .ok (.iload_n 3, 1) := by decide +kernel
theorem dX11_searched_235 : decode cX11_searched 235 = .ok (.iload 4, 2) := by decide +kernel
theorem dX11_searched_237 : decode cX11_searched 237 = .ok (.invokevirtual 176, 3) := by decide +kernel
theorem dX11_searched_240 : decode cX11_searched 240 = .ok (.aload_n 0, 1) := by decide +kernel
theorem dX11_searched_241 : decode cX11_searched 241 = .ok (.iload 7, 2) := by decide +kernel
theorem dX11_searched_243 : decode cX11_searched 243 = .ok (.invokevirtual 74, 3) := by decide +kernel
theorem dX11_searched_246 : decode cX11_searched 246 = .ok (.ireturn, 1) := by decide +kernel
theorem dX11_search_0 : decode cX11_search 0 = .ok (.aload_n 0, 1) := by decide +kernel
theorem dX11_search_1 : decode cX11_search 1 = .ok (.getfield 164, 3) := by decide +kernel
theorem dX11_search_4 : decode cX11_search 4 = .ok (.ifCond .ne 20, 3) := by decide +kernel
theorem dX11_search_7 : decode cX11_search 7 = .ok (.aload_n 0, 1) := by decide +kernel
theorem dX11_search_8 : decode cX11_search 8 = .ok (.iload_n 2, 1) := by decide +kernel
theorem dX11_search_9 : decode cX11_search 9 = .ok (.iload_n 3, 1) := by decide +kernel
theorem dX11_search_10 : decode cX11_search 10 = .ok (.iload 4, 2) := by decide +kernel
theorem dX11_search_12 : decode cX11_search 12 = .ok (.invokevirtual 180, 3) := by decide +kernel
theorem dX11_search_15 : decode cX11_search 15 = .ok (.ifCond .eq 7, 3) := by decide +kernel
theorem dX11_search_18 : decode cX11_search 18 = .ok (.iconst 1, 1) := by decide +kernel
theorem dX11_search_19 : decode cX11_search 19 = .ok (.goto 4, 3) := by decide +kernel
theorem dX11_search_22 : decode cX11_search 22 = .ok (.iconst 0, 1) := by decide +kernel
theorem dX11_search_23 : decode cX11_search 23 = .ok (.ireturn, 1) := by decide +kernel
theorem dX11_search_24 : decode cX11_search 24 = .ok (.iconst 0, 1) := by decide +kernel
theorem dX11_search_25 : decode cX11_search 25 = .ok (.istore 6, 2) := by decide +kernel
theorem dX11_search_27 : decode cX11_search 27 = .ok (.aload_n 0, 1) := by decide +kernel
theorem dX11_search_28 : decode cX11_search 28 = .ok (.getfield 29, 3) := by decide +kernel
theorem dX11_search_31 : decode cX11_search 31 = .ok (.iconst 0, 1) := by decide +kernel
theorem dX11_search_32 : decode cX11_search 32 = .ok (.iconst 0, 1) := by decide +kernel
theorem dX11_search_33 : decode cX11_search 33 = .ok (.iastore, 1) := by decide +kernel
theorem dX11_search_34 : decode cX11_search 34 = .ok (.iload 6, 2) := by decide +kernel
theorem dX11_search_36 : decode cX11_search 36 = .ok (.ifCond .lt 153, 3) := by decide +kernel
theorem dX11_search_39 : decode cX11_search 39 = .ok (.aload_n 0, 1) := by decide +kernel
theorem dX11_search_40 : decode cX11_search 40 = .ok (.getfield 29, 3) := by decide +kernel
theorem dX11_search_43 : decode cX11_search 43 = .ok (.iload 6, 2) := by decide +kernel
theorem dX11_search_45 : decode cX11_search 45 = .ok (.iaload, 1) := by decide +kernel
theorem dX11_search_46 : decode cX11_search 46 = .ok (.bipush 10, 2) := by decide +kernel
theorem dX11_search_48 : decode cX11_search 48 = .ok (.if_icmp .ne 9, 3) := by decide +kernel
theorem dX11_search_51 : decode cX11_search 51 = .ok (.iinc 6 (-1), 3) := by decide +kernel
theorem dX11_search_54 : decode cX11_search 54 = .ok (.goto (-20), 3) := by decide +kernel
theorem dX11_search_57 : decode cX11_search 57 = .ok (.aload_n 0, 1) := by decide +kernel
theorem dX11_search_58 : decode cX11_search 58 = .ok (.getfield 170, 3) := by decide +kernel
theorem dX11_search_61 : decode cX11_search 61 = .ok (.sipush 4000, 3) := by decide +kernel
theorem dX11_search_64 : decode cX11_search 64 = .ok (.if_icmp .ne 6, 3) := by decide +kernel
theorem dX11_search_67 : decode cX11_search 67 = .ok (.bipush (-5), 2) := by decide +kernel
theorem dX11_search_69 : decode cX11_search 69 = .ok (.ireturn, 1) := by decide +kernel
theorem dX11_search_70 : decode cX11_search 70 = .ok (.aload_n 0, 1) := by decide +kernel
theorem dX11_search_71 : decode cX11_search 71 = .ok (.dup, 1) := by decide +kernel
theorem dX11_search_72 : decode cX11_search 72 = .ok (.getfield 170, 3) := by decide +kernel
theorem dX11_search_75 : decode cX11_search 75 = .ok (.iconst 1, 1) := by decide +kernel
theorem dX11_search_76 : decode cX11_search 76 = .ok (.iadd, 1) := by decide +kernel
theorem dX11_search_77 : decode cX11_search 77 = .ok (.putfield 170, 3) := by decide +kernel
theorem dX11_search_80 : decode cX11_search 80 = .ok (.aload_n 0, 1) := by decide +kernel
theorem dX11_search_81 : decode cX11_search 81 = .ok (.getfield 26, 3) := by decide +kernel
theorem dX11_search_84 : decode cX11_search 84 = .ok (.iconst 5, 1) := by decide +kernel
theorem dX11_search_85 : decode cX11_search 85 = .ok (.aload_n 0, 1) := by decide +kernel
theorem dX11_search_86 : decode cX11_search 86 = .ok (.getfield 32, 3) := by decide +kernel
theorem dX11_search_89 : decode cX11_search 89 = .ok (.iload 6, 2) := by decide +kernel
theorem dX11_search_91 : decode cX11_search 91 = .ok (.iload 4, 2) := by decide +kernel
theorem dX11_search_93 : decode cX11_search 93 = .ok (.idiv, 1) := by decide +kernel
theorem dX11_search_94 : decode cX11_search 94 = .ok (.iaload, 1) := by decide +kernel
theorem dX11_search_95 : decode cX11_search 95 = .ok (.imul, 1) := by decide +kernel
theorem dX11_search_96 : decode cX11_search 96 = .ok (.iload 6, 2) := by decide +kernel
theorem dX11_search_98 : decode cX11_search 98 = .ok (.iload 4, 2) := by decide +kernel
theorem dX11_search_100 : decode cX11_search 100 = .ok (.irem, 1) := by decide +kernel
theorem dX11_search_101 : decode cX11_search 101 = .ok (.iadd, 1) := by decide +kernel
theorem dX11_search_102 : decode cX11_search 102 = .ok (.aload_n 0, 1) := by decide +kernel
theorem dX11_search_103 : decode cX11_search 103 = .ok (.getfield 29, 3) := by decide +kernel
theorem dX11_search_106 : decode cX11_search 106 = .ok (.iload 6, 2) := by decide +kernel
theorem dX11_search_108 : decode cX11_search 108 = .ok (.iaload, 1) := by decide +kernel
theorem dX11_search_109 : decode cX11_search 109 = .ok (.iastore, 1) := by decide +kernel
theorem dX11_search_110 : decode cX11_search 110 = .ok (.aload_n 0, 1) := by decide +kernel
theorem dX11_search_111 : decode cX11_search 111 = .ok (.getfield 29, 3) := by decide +kernel
theorem dX11_search_114 : decode cX11_search 114 = .ok (.iload 6, 2) := by decide +kernel
theorem dX11_search_116 : decode cX11_search 116 = .ok (.dup2, 1) := by decide +kernel
theorem dX11_search_117 : decode cX11_search 117 = .ok (.iaload, 1) := by decide +kernel
theorem dX11_search_118 : decode cX11_search 118 = .ok (.iconst 1, 1) := by decide +kernel
theorem dX11_search_119 : decode cX11_search 119 = .ok (.iadd, 1) := by decide +kernel
theorem dX11_search_120 : decode cX11_search 120 = .ok (.iastore, 1) := by decide +kernel
theorem dX11_search_121 : decode cX11_search 121 = .ok (.aload_n 0, 1) := by decide +kernel
theorem dX11_search_122 : decode cX11_search 122 = .ok (.iload 6, 2) := by decide +kernel
theorem dX11_search_124 : decode cX11_search 124 = .ok (.iload_n 1, 1) := by decide +kernel
theorem dX11_search_125 : decode cX11_search 125 = .ok (.iload_n 3, 1) := by decide +kernel
theorem dX11_search_126 : decode cX11_search 126 = .ok (.iload 4, 2) := by decide +kernel
theorem dX11_search_128 : decode cX11_search 128 = .ok (.iload 5, 2) := by decide +kernel
theorem dX11_search_130 : decode cX11_search 130 = .ok (.invokevirtual 184, 3) := by decide +kernel
theorem dX11_search_133 : decode cX11_search 133 = .ok (.ifCond .eq (-99), 3) := by decide +kernel
theorem dX11_search_136 : decode cX11_search 136 = .ok (.iload 6, 2) := by decide +kernel
theorem dX11_search_138 : decode cX11_search 138 = .ok (.iconst 1, 1) := by decide +kernel
theorem dX11_search_139 : decode cX11_search 139 = .ok (.iadd, 1) := by decide +kernel
theorem dX11_search_140 : decode cX11_search 140 = .ok (.aload_n 0, 1) := by decide +kernel
theorem dX11_search_141 : decode cX11_search 141 = .ok (.getfield 164, 3) := by decide +kernel
theorem dX11_search_144 : decode cX11_search 144 = .ok (.iload 4, 2) := by decide +kernel
theorem dX11_search_146 : decode cX11_search 146 = .ok (.imul, 1) := by decide +kernel
theorem dX11_search_147 : decode cX11_search 147 = .ok (.if_icmp .lt 14, 3) := by decide +kernel
theorem dX11_search_150 : decode cX11_search 150 = .ok (.aload_n 0, 1) := by decide +kernel
theorem dX11_search_151 : decode cX11_search 151 = .ok (.iload_n 2, 1) := by decide +kernel
theorem dX11_search_152 : decode cX11_search 152 = .ok (.iload_n 3, 1) := by decide +kernel
theorem dX11_search_153 : decode cX11_search 153 = .ok (.iload 4, 2) := by decide +kernel
theorem dX11_search_155 : decode cX11_search 155 = .ok (.invokevirtual 180, 3) := by decide +kernel
theorem dX11_search_158 : decode cX11_search 158 = .ok (.ifCond .eq (-124), 3) := by decide +kernel
theorem dX11_search_161 : decode cX11_search 161 = .ok (.iinc 6 1, 3) := by decide +kernel
theorem dX11_search_164 : decode cX11_search 164 = .ok (.iload 6, 2) := by decide +kernel
theorem dX11_search_166 : decode cX11_search 166 = .ok (.aload_n 0, 1) := by decide +kernel
theorem dX11_search_167 : decode cX11_search 167 = .ok (.getfield 164, 3) := by decide +kernel
theorem dX11_search_170 : decode cX11_search 170 = .ok (.iload 4, 2) := by decide +kernel
theorem dX11_search_172 : decode cX11_search 172 = .ok (.imul, 1) := by decide +kernel
theorem dX11_search_173 : decode cX11_search 173 = .ok (.if_icmp .ne 5, 3) := by decide +kernel
theorem dX11_search_176 : decode cX11_search 176 = .ok (.iconst 1, 1) := by decide +kernel
theorem dX11_search_177 : decode cX11_search 177 = .ok (.ireturn, 1) := by decide +kernel
theorem dX11_search_178 : decode cX11_search 178 = .ok (.aload_n 0, 1) := by decide +kernel
theorem dX11_search_179 : decode cX11_search 179 = .ok (.getfield 29, 3) := by decide +kernel
theorem dX11_search_182 : decode cX11_search 182 = .ok (.iload 6, 2) := by decide +kernel
theorem dX11_search_184 : decode cX11_search 184 = .ok (.iconst 0, 1) := by decide +kernel
theorem dX11_search_185 : decode cX11_search 185 = .ok (.iastore, 1) := by decide +kernel
theorem dX11_search_186 : decode cX11_search 186 = .ok (.goto (-152), 3) := by decide +kernel
theorem dX11_search_189 : decode cX11_search 189 = .ok (.iconst 0, 1) := by decide +kernel
theorem dX11_search_190 : decode cX11_search 190 = .ok (.ireturn, 1) := by decide +kernel
theorem dX11_stands_0 : decode cX11_stands 0 = .ok (.iload_n 1, 1) := by decide +kernel
theorem dX11_stands_1 : decode cX11_stands 1 = .ok (.iload 4, 2) := by decide +kernel
theorem dX11_stands_3 : decode cX11_stands 3 = .ok (.idiv, 1) := by decide +kernel
theorem dX11_stands_4 : decode cX11_stands 4 = .ok (.istore 6, 2) := by decide +kernel
theorem dX11_stands_6 : decode cX11_stands 6 = .ok (.aload_n 0, 1) := by decide +kernel
theorem dX11_stands_7 : decode cX11_stands 7 = .ok (.getfield 32, 3) := by decide +kernel
theorem dX11_stands_10 : decode cX11_stands 10 = .ok (.iload 6, 2) := by decide +kernel
theorem dX11_stands_12 : decode cX11_stands 12 = .ok (.iaload, 1) := by decide +kernel
theorem dX11_stands_13 : decode cX11_stands 13 = .ok (.istore 7, 2) := by decide +kernel
theorem dX11_stands_15 : decode cX11_stands 15 = .ok (.iload_n 1, 1) := by decide +kernel
theorem dX11_stands_16 : decode cX11_stands 16 = .ok (.iload 4, 2) := by decide +kernel
theorem dX11_stands_18 : decode cX11_stands 18 = .ok (.irem, 1) := by decide +kernel
theorem dX11_stands_19 : decode cX11_stands 19 = .ok (.istore 8, 2) := by decide +kernel
theorem dX11_stands_21 : decode cX11_stands 21 = .ok (.aload_n 0, 1) := by decide +kernel
theorem dX11_stands_22 : decode cX11_stands 22 = .ok (.getfield 26, 3) := by decide +kernel
theorem dX11_stands_25 : decode cX11_stands 25 = .ok (.iconst 5, 1) := by decide +kernel
theorem dX11_stands_26 : decode cX11_stands 26 = .ok (.iload 7, 2) := by decide +kernel
theorem dX11_stands_28 : decode cX11_stands 28 = .ok (.imul, 1) := by decide +kernel
theorem dX11_stands_29 : decode cX11_stands 29 = .ok (.iload 8, 2) := by decide +kernel
theorem dX11_stands_31 : decode cX11_stands 31 = .ok (.iadd, 1) := by decide +kernel
theorem dX11_stands_32 : decode cX11_stands 32 = .ok (.iaload, 1) := by decide +kernel
theorem dX11_stands_33 : decode cX11_stands 33 = .ok (.istore 9, 2) := by decide +kernel
theorem dX11_stands_35 : decode cX11_stands 35 = .ok (.iload 8, 2) := by decide +kernel
theorem dX11_stands_37 : decode cX11_stands 37 = .ok (.ifCond .le 36, 3) := by decide +kernel
theorem dX11_stands_40 : decode cX11_stands 40 = .ok (.iload 9, 2) := by decide +kernel
theorem dX11_stands_42 : decode cX11_stands 42 = .ok (.aload_n 0, 1) := by decide +kernel
theorem dX11_stands_43 : decode cX11_stands 43 = .ok (.getfield 26, 3) := by decide +kernel
theorem dX11_stands_46 : decode cX11_stands 46 = .ok (.iconst 5, 1) := by decide +kernel
theorem dX11_stands_47 : decode cX11_stands 47 = .ok (.iload 7, 2) := by decide +kernel
theorem dX11_stands_49 : decode cX11_stands 49 = .ok (.imul, 1) := by decide +kernel
theorem dX11_stands_50 : decode cX11_stands 50 = .ok (.iload 8, 2) := by decide +kernel
theorem dX11_stands_52 : decode cX11_stands 52 = .ok (.iadd, 1) := by decide +kernel
theorem dX11_stands_53 : decode cX11_stands 53 = .ok (.iconst 1, 1) := by decide +kernel
theorem dX11_stands_54 : decode cX11_stands 54 = .ok (.isub, 1) := by decide +kernel
theorem dX11_stands_55 : decode cX11_stands 55 = .ok (.iaload, 1) := by decide +kernel
theorem dX11_stands_56 : decode cX11_stands 56 = .ok (.isub, 1) := by decide +kernel
theorem dX11_stands_57 : decode cX11_stands 57 = .ok (.i2l, 1) := by decide +kernel
theorem dX11_stands_58 : decode cX11_stands 58 = .ok (.iload 5, 2) := by decide +kernel
theorem dX11_stands_60 : decode cX11_stands 60 = .ok (.ineg, 1) := by decide +kernel
theorem dX11_stands_61 : decode cX11_stands 61 = .ok (.i2l, 1) := by decide +kernel
theorem dX11_stands_62 : decode cX11_stands 62 = .ok (.iload 5, 2) := by decide +kernel
theorem dX11_stands_64 : decode cX11_stands 64 = .ok (.i2l, 1) := by decide +kernel
theorem dX11_stands_65 : decode cX11_stands 65 = .ok (.invokestatic 67, 3) := by decide +kernel
theorem dX11_stands_68 : decode cX11_stands 68 = .ok (.ifCond .ne 5, 3) := by decide +kernel
theorem dX11_stands_71 : decode cX11_stands 71 = .ok (.iconst 0, 1) := by decide +kernel
theorem dX11_stands_72 : decode cX11_stands 72 = .ok (.ireturn, 1) := by decide +kernel
theorem dX11_stands_73 : decode cX11_stands 73 = .ok (.iconst 0, 1) := by decide +kernel
theorem dX11_stands_74 : decode cX11_stands 74 = .ok (.istore 10, 2) := by decide +kernel
theorem dX11_stands_76 : decode cX11_stands 76 = .ok (.iload 10, 2) := by decide +kernel
theorem dX11_stands_78 : decode cX11_stands 78 = .ok (.iload_n 3, 1) := by decide +kernel
theorem dX11_stands_79 : decode cX11_stands 79 = .ok (.if_icmp .ge 65, 3) := by decide +kernel
theorem dX11_stands_82 : decode cX11_stands 82 = .ok (.aload_n 0, 1) := by decide +kernel
theorem dX11_stands_83 : decode cX11_stands 83 = .ok (.getfield 35, 3) := by decide +kernel
theorem dX11_stands_86 : decode cX11_stands 86 = .ok (.bipush 6, 2) := by decide +kernel
theorem dX11_stands_88 : decode cX11_stands 88 = .ok (.iload 7, 2) := by decide +kernel
theorem dX11_stands_90 : decode cX11_stands 90 = .ok (.imul, 1) := by decide +kernel
theorem dX11_stands_91 : decode cX11_stands 91 = .ok (.iload 10, 2) := by decide +kernel
theorem dX11_stands_93 : decode cX11_stands 93 = .ok (.iadd, 1) := by decide +kernel
theorem dX11_stands_94 : decode cX11_stands 94 = .ok (.iaload, 1) := by decide +kernel
theorem dX11_stands_95 : decode cX11_stands 95 = .ok (.iconst 1, 1) := by decide +kernel
theorem dX11_stands_96 : decode cX11_stands 96 = .ok (.if_icmp .ne 42, 3) := by decide +kernel
theorem dX11_stands_99 : decode cX11_stands 99 = .ok (.aload_n 0, 1) := by decide +kernel
theorem dX11_stands_100 : decode cX11_stands 100 = .ok (.iload 10, 2) := by decide +kernel
theorem dX11_stands_102 : decode cX11_stands 102 = .ok (.iload 8, 2) := by decide +kernel
theorem dX11_stands_104 : decode cX11_stands 104 = .ok (.iload 6, 2) := by decide +kernel
theorem dX11_stands_106 : decode cX11_stands 106 = .ok (.invokevirtual 188, 3) := by decide +kernel
theorem dX11_stands_109 : decode cX11_stands 109 = .ok (.invokestatic 97, 3) := by decide +kernel
theorem dX11_stands_112 : decode cX11_stands 112 = .ok (.aload_n 0, 1) := by decide +kernel
theorem dX11_stands_113 : decode cX11_stands 113 = .ok (.getfield 7, 3) := by decide +kernel
theorem dX11_stands_116 : decode cX11_stands 116 = .ok (.iconst 0, 1) := by decide +kernel
theorem dX11_stands_117 : decode cX11_stands 117 = .ok (.aload_n 0, 1) := by decide +kernel
theorem dX11_stands_118 : decode cX11_stands 118 = .ok (.getfield 7, 3) := by decide +kernel
theorem dX11_stands_121 : decode cX11_stands 121 = .ok (.sipush 4464, 3) := by decide +kernel
theorem dX11_stands_124 : decode cX11_stands 124 = .ok (.iload 10, 2) := by decide +kernel
theorem dX11_stands_126 : decode cX11_stands 126 = .ok (.iadd, 1) := by decide +kernel
theorem dX11_stands_127 : decode cX11_stands 127 = .ok (.iaload, 1) := by decide +kernel
theorem dX11_stands_128 : decode cX11_stands 128 = .ok (.iadd, 1) := by decide +kernel
theorem dX11_stands_129 : decode cX11_stands 129 = .ok (.iaload, 1) := by decide +kernel
theorem dX11_stands_130 : decode cX11_stands 130 = .ok (.invokestatic 100, 3) := by decide +kernel
theorem dX11_stands_133 : decode cX11_stands 133 = .ok (.if_icmp .le 5, 3) := by decide +kernel
theorem dX11_stands_136 : decode cX11_stands 136 = .ok (.iconst 0, 1) := by decide +kernel
theorem dX11_stands_137 : decode cX11_stands 137 = .ok (.ireturn, 1) := by decide +kernel
theorem dX11_stands_138 : decode cX11_stands 138 = .ok (.iinc 10 1, 3) := by decide +kernel
theorem dX11_stands_141 : decode cX11_stands 141 = .ok (.goto (-65), 3) := by decide +kernel
theorem dX11_stands_144 : decode cX11_stands 144 = .ok (.iconst 1, 1) := by decide +kernel
theorem dX11_stands_145 : decode cX11_stands 145 = .ok (.istore 10, 2) := by decide +kernel
theorem dX11_stands_147 : decode cX11_stands 147 = .ok (.iconst 0, 1) := by decide +kernel
theorem dX11_stands_148 : decode cX11_stands 148 = .ok (.istore 11, 2) := by decide +kernel
theorem dX11_stands_150 : decode cX11_stands 150 = .ok (.iload 11, 2) := by decide +kernel
theorem dX11_stands_152 : decode cX11_stands 152 = .ok (.iload 6, 2) := by decide +kernel
theorem dX11_stands_154 : decode cX11_stands 154 = .ok (.if_icmp .ge 48, 3) := by decide +kernel
theorem dX11_stands_157 : decode cX11_stands 157 = .ok (.iload 8, 2) := by decide +kernel
theorem dX11_stands_159 : decode cX11_stands 159 = .ok (.iload 4, 2) := by decide +kernel
theorem dX11_stands_161 : decode cX11_stands 161 = .ok (.iconst 1, 1) := by decide +kernel
theorem dX11_stands_162 : decode cX11_stands 162 = .ok (.isub, 1) := by decide +kernel
theorem dX11_stands_163 : decode cX11_stands 163 = .ok (.if_icmp .ne 39, 3) := by decide +kernel
theorem dX11_stands_166 : decode cX11_stands 166 = .ok (.iload 10, 2) := by decide +kernel
theorem dX11_stands_168 : decode cX11_stands 168 = .ok (.ifCond .eq 25, 3) := by decide +kernel
theorem dX11_stands_171 : decode cX11_stands 171 = .ok (.aload_n 0, 1) := by decide +kernel
theorem dX11_stands_172 : decode cX11_stands 172 = .ok (.iload 7, 2) := by decide +kernel
theorem dX11_stands_174 : decode cX11_stands 174 = .ok (.aload_n 0, 1) := by decide +kernel
theorem dX11_stands_175 : decode cX11_stands 175 = .ok (.getfield 32, 3) := by decide +kernel
theorem dX11_stands_178 : decode cX11_stands 178 = .ok (.iload 11, 2) := by decide +kernel
theorem dX11_stands_180 : decode cX11_stands 180 = .ok (.iaload, 1) := by decide +kernel
theorem dX11_stands_181 : decode cX11_stands 181 = .ok (.iload 4, 2) := by decide +kernel
theorem dX11_stands_183 : decode cX11_stands 183 = .ok (.invokevirtual 192, 3) := by decide +kernel
theorem dX11_stands_186 : decode cX11_stands 186 = .ok (.ifCond .ne 7, 3) := by decide +kernel
theorem dX11_stands_189 : decode cX11_stands 189 = .ok (.iconst 1, 1) := by decide +kernel
theorem dX11_stands_190 : decode cX11_stands 190 = .ok (.goto 4, 3) := by decide +kernel
theorem dX11_stands_193 : decode cX11_stands 193 = .ok (.iconst 0, 1) := by decide +kernel
theorem dX11_stands_194 : decode cX11_stands 194 = .ok (.istore 10, 2) := by decide +kernel
theorem dX11_stands_196 : decode cX11_stands 196 = .ok (.iinc 11 1, 3) := by decide +kernel
theorem dX11_stands_199 : decode cX11_stands 199 = .ok (.goto (-49), 3) := by decide +kernel
theorem dX11_stands_202 : decode cX11_stands 202 = .ok (.iload 10, 2) := by decide +kernel
theorem dX11_stands_204 : decode cX11_stands 204 = .ok (.ifCond .eq 33, 3) := by decide +kernel
theorem dX11_stands_207 : decode cX11_stands 207 = .ok (.iload 8, 2) := by decide +kernel
theorem dX11_stands_209 : decode cX11_stands 209 = .ok (.iload 4, 2) := by decide +kernel
theorem dX11_stands_211 : decode cX11_stands 211 = .ok (.iconst 1, 1) := by decide +kernel
theorem dX11_stands_212 : decode cX11_stands 212 = .ok (.isub, 1) := by decide +kernel
theorem dX11_stands_213 : decode cX11_stands 213 = .ok (.if_icmp .lt 20, 3) := by decide +kernel
theorem dX11_stands_216 : decode cX11_stands 216 = .ok (.iload_n 2, 1) := by decide +kernel
theorem dX11_stands_217 : decode cX11_stands 217 = .ok (.iconst (-1), 1) := by decide +kernel
theorem dX11_stands_218 : decode cX11_stands 218 = .ok (.if_icmp .eq 15, 3) := by decide +kernel
theorem dX11_stands_221 : decode cX11_stands 221 = .ok (.aload_n 0, 1) := by decide +kernel
theorem dX11_stands_222 : decode cX11_stands 222 = .ok (.iload 7, 2) := by decide +kernel
theorem dX11_stands_224 : decode cX11_stands 224 = .ok (.iload_n 2, 1) := by decide +kernel
theorem dX11_stands_225 : decode cX11_stands 225 = .ok (.iload 4, 2) := by decide +kernel
theorem dX11_stands_227 : decode cX11_stands 227 = .ok (.invokevirtual 192, 3) := by decide +kernel
theorem dX11_stands_230 : decode cX11_stands 230 = .ok (.ifCond .ne 7, 3) := by decide +kernel
theorem dX11_stands_233 : decode cX11_stands 233 = .ok (.iconst 1, 1) := by decide +kernel
theorem dX11_stands_234 : decode cX11_stands 234 = .ok (.goto 4, 3) := by decide +kernel
theorem dX11_stands_237 : decode cX11_stands 237 = .ok (.iconst 0, 1) := by decide +kernel
theorem dX11_stands_238 : decode cX11_stands 238 = .ok (.ireturn, 1) := by decide +kernel
theorem dX11_areAlike_0 : decode cX11_areAlike 0 = .ok (.iconst 1, 1) := by decide +kernel
theorem dX11_areAlike_1 : decode cX11_areAlike 1 = .ok (.istore 4, 2) := by decide +kernel
theorem dX11_areAlike_3 : decode cX11_areAlike 3 = .ok (.iconst 0, 1) := by decide +kernel
theorem dX11_areAlike_4 : decode cX11_areAlike 4 = .ok (.istore 5, 2) := by decide +kernel
theorem dX11_areAlike_6 : decode cX11_areAlike 6 = .ok (.iload 5, 2) := by decide +kernel
theorem dX11_areAlike_8 : decode cX11_areAlike 8 = .ok (.iload_n 3, 1) := by decide +kernel
theorem dX11_areAlike_9 : decode cX11_areAlike 9 = .ok (.if_icmp .ge 46, 3) := by decide +kernel
theorem dX11_areAlike_12 : decode cX11_areAlike 12 = .ok (.iload 4, 2) := by decide +kernel
theorem dX11_areAlike_14 : decode cX11_areAlike 14 = .ok (.ifCond .eq 32, 3) := by decide +kernel
theorem dX11_areAlike_17 : decode cX11_areAlike 17 = .ok (.aload_n 0, 1) := by decide +kernel
theorem dX11_areAlike_18 : decode cX11_areAlike 18 = .ok (.getfield 26, 3) := by decide +kernel
theorem dX11_areAlike_21 : decode cX11_areAlike 21 = .ok (.iconst 5, 1) := by decide +kernel
theorem dX11_areAlike_22 : decode cX11_areAlike 22 = .ok (.iload_n 1, 1) := by decide +kernel
theorem dX11_areAlike_23 : decode cX11_areAlike 23 = .ok (.imul, 1) := by decide +kernel
theorem dX11_areAlike_24 : decode cX11_areAlike 24 = .ok (.iload 5, 2) := by decide +kernel
theorem dX11_areAlike_26 : decode cX11_areAlike 26 = .ok (.iadd, 1) := by decide +kernel
theorem dX11_areAlike_27 : decode cX11_areAlike 27 = .ok (.iaload, 1) := by decide +kernel
theorem dX11_areAlike_28 : decode cX11_areAlike 28 = .ok (.aload_n 0, 1) := by decide +kernel
theorem dX11_areAlike_29 : decode cX11_areAlike 29 = .ok (.getfield 26, 3) := by decide +kernel
theorem dX11_areAlike_32 : decode cX11_areAlike 32 = .ok (.iconst 5, 1) := by decide +kernel
theorem dX11_areAlike_33 : decode cX11_areAlike 33 = .ok (.iload_n 2, 1) := by decide +kernel
theorem dX11_areAlike_34 : decode cX11_areAlike 34 = .ok (.imul, 1) := by decide +kernel
theorem dX11_areAlike_35 : decode cX11_areAlike 35 = .ok (.iload 5, 2) := by decide +kernel
theorem dX11_areAlike_37 : decode cX11_areAlike 37 = .ok (.iadd, 1) := by decide +kernel
theorem dX11_areAlike_38 : decode cX11_areAlike 38 = .ok (.iaload, 1) := by decide +kernel
theorem dX11_areAlike_39 : decode cX11_areAlike 39 = .ok (.if_icmp .ne 7, 3) := by decide +kernel
theorem dX11_areAlike_42 : decode cX11_areAlike 42 = .ok (.iconst 1, 1) := by decide +kernel
theorem dX11_areAlike_43 : decode cX11_areAlike 43 = .ok (.goto 4, 3) := by decide +kernel
theorem dX11_areAlike_46 : decode cX11_areAlike 46 = .ok (.iconst 0, 1) := by decide +kernel
theorem dX11_areAlike_47 : decode cX11_areAlike 47 = .ok (.istore 4, 2) := by decide +kernel
theorem dX11_areAlike_49 : decode cX11_areAlike 49 = .ok (.iinc 5 1, 3) := by decide +kernel
theorem dX11_areAlike_52 : decode cX11_areAlike 52 = .ok (.goto (-46), 3) := by decide +kernel
theorem dX11_areAlike_55 : decode cX11_areAlike 55 = .ok (.iload 4, 2) := by decide +kernel
theorem dX11_areAlike_57 : decode cX11_areAlike 57 = .ok (.ireturn, 1) := by decide +kernel
theorem dX11_cutsAt_0 : decode cX11_cutsAt 0 = .ok (.iconst 0, 1) := by decide +kernel
theorem dX11_cutsAt_1 : decode cX11_cutsAt 1 = .ok (.istore 4, 2) := by decide +kernel
theorem dX11_cutsAt_3 : decode cX11_cutsAt 3 = .ok (.iconst 0, 1) := by decide +kernel
theorem dX11_cutsAt_4 : decode cX11_cutsAt 4 = .ok (.istore 5, 2) := by decide +kernel
theorem dX11_cutsAt_6 : decode cX11_cutsAt 6 = .ok (.iload 5, 2) := by decide +kernel
theorem dX11_cutsAt_8 : decode cX11_cutsAt 8 = .ok (.iload_n 3, 1) := by decide +kernel
theorem dX11_cutsAt_9 : decode cX11_cutsAt 9 = .ok (.if_icmp .gt 57, 3) := by decide +kernel
theorem dX11_cutsAt_12 : decode cX11_cutsAt 12 = .ok (.iload 4, 2) := by decide +kernel
theorem dX11_cutsAt_14 : decode cX11_cutsAt 14 = .ok (.aload_n 0, 1) := by decide +kernel
theorem dX11_cutsAt_15 : decode cX11_cutsAt 15 = .ok (.getfield 35, 3) := by decide +kernel
theorem dX11_cutsAt_18 : decode cX11_cutsAt 18 = .ok (.bipush 6, 2) := by decide +kernel
theorem dX11_cutsAt_20 : decode cX11_cutsAt 20 = .ok (.aload_n 0, 1) := by decide +kernel
theorem dX11_cutsAt_21 : decode cX11_cutsAt 21 = .ok (.getfield 32, 3) := by decide +kernel
theorem dX11_cutsAt_24 : decode cX11_cutsAt 24 = .ok (.iload 5, 2) := by decide +kernel
theorem dX11_cutsAt_26 : decode cX11_cutsAt 26 = .ok (.iaload, 1) := by decide +kernel
theorem dX11_cutsAt_27 : decode cX11_cutsAt 27 = .ok (.imul, 1) := by decide +kernel
theorem dX11_cutsAt_28 : decode cX11_cutsAt 28 = .ok (.iload_n 1, 1) := by decide +kernel
theorem dX11_cutsAt_29 : decode cX11_cutsAt 29 = .ok (.iadd, 1) := by decide +kernel
theorem dX11_cutsAt_30 : decode cX11_cutsAt 30 = .ok (.iaload, 1) := by decide +kernel
theorem dX11_cutsAt_31 : decode cX11_cutsAt 31 = .ok (.iconst 1, 1) := by decide +kernel
theorem dX11_cutsAt_32 : decode cX11_cutsAt 32 = .ok (.if_icmp .ne 24, 3) := by decide +kernel
theorem dX11_cutsAt_35 : decode cX11_cutsAt 35 = .ok (.iconst 1, 1) := by decide +kernel
theorem dX11_cutsAt_36 : decode cX11_cutsAt 36 = .ok (.aload_n 0, 1) := by decide +kernel
theorem dX11_cutsAt_37 : decode cX11_cutsAt 37 = .ok (.getfield 26, 3) := by decide +kernel
theorem dX11_cutsAt_40 : decode cX11_cutsAt 40 = .ok (.iconst 5, 1) := by decide +kernel
theorem dX11_cutsAt_41 : decode cX11_cutsAt 41 = .ok (.aload_n 0, 1) := by decide +kernel
theorem dX11_cutsAt_42 : decode cX11_cutsAt 42 = .ok (.getfield 32, 3) := by decide +kernel
theorem dX11_cutsAt_45 : decode cX11_cutsAt 45 = .ok (.iload 5, 2) := by decide +kernel
theorem dX11_cutsAt_47 : decode cX11_cutsAt 47 = .ok (.iaload, 1) := by decide +kernel
theorem dX11_cutsAt_48 : decode cX11_cutsAt 48 = .ok (.imul, 1) := by decide +kernel
theorem dX11_cutsAt_49 : decode cX11_cutsAt 49 = .ok (.iload_n 2, 1) := by decide +kernel
theorem dX11_cutsAt_50 : decode cX11_cutsAt 50 = .ok (.iadd, 1) := by decide +kernel
theorem dX11_cutsAt_51 : decode cX11_cutsAt 51 = .ok (.iaload, 1) := by decide +kernel
theorem dX11_cutsAt_52 : decode cX11_cutsAt 52 = .ok (.ishl, 1) := by decide +kernel
theorem dX11_cutsAt_53 : decode cX11_cutsAt 53 = .ok (.goto 4, 3) := by decide +kernel
theorem dX11_cutsAt_56 : decode cX11_cutsAt 56 = .ok (.iconst 0, 1) := by decide +kernel
theorem dX11_cutsAt_57 : decode cX11_cutsAt 57 = .ok (.ior, 1) := by decide +kernel
theorem dX11_cutsAt_58 : decode cX11_cutsAt 58 = .ok (.istore 4, 2) := by decide +kernel
theorem dX11_cutsAt_60 : decode cX11_cutsAt 60 = .ok (.iinc 5 1, 3) := by decide +kernel
theorem dX11_cutsAt_63 : decode cX11_cutsAt 63 = .ok (.goto (-57), 3) := by decide +kernel
theorem dX11_cutsAt_66 : decode cX11_cutsAt 66 = .ok (.iload 4, 2) := by decide +kernel
theorem dX11_cutsAt_68 : decode cX11_cutsAt 68 = .ok (.ireturn, 1) := by decide +kernel
theorem dX11_areNeversMet_0 : decode cX11_areNeversMet 0 = .ok (.iconst 0, 1) := by decide +kernel
theorem dX11_areNeversMet_1 : decode cX11_areNeversMet 1 = .ok (.istore 4, 2) := by decide +kernel
theorem dX11_areNeversMet_3 : decode cX11_areNeversMet 3 = .ok (.iload 4, 2) := by decide +kernel
theorem dX11_areNeversMet_5 : decode cX11_areNeversMet 5 = .ok (.iload_n 2, 1) := by decide +kernel
theorem dX11_areNeversMet_6 : decode cX11_areNeversMet 6 = .ok (.if_icmp .ge 88, 3) := by decide +kernel
theorem dX11_areNeversMet_9 : decode cX11_areNeversMet 9 = .ok (.iconst 0, 1) := by decide +kernel
theorem dX11_areNeversMet_10 : decode cX11_areNeversMet 10 = .ok (.istore 5, 2) := by decide +kernel
theorem dX11_areNeversMet_12 : decode cX11_areNeversMet 12 = .ok (.iload 5, 2) := by decide +kernel
theorem dX11_areNeversMet_14 : decode cX11_areNeversMet 14 = .ok (.iload_n 3, 1) := by decide +kernel
theorem dX11_areNeversMet_15 : decode cX11_areNeversMet 15 = .ok (.if_icmp .ge 73, 3) := by decide +kernel
theorem dX11_areNeversMet_18 : decode cX11_areNeversMet 18 = .ok (.aload_n 0, 1) := by decide +kernel
theorem dX11_areNeversMet_19 : decode cX11_areNeversMet 19 = .ok (.iload 4, 2) := by decide +kernel
theorem dX11_areNeversMet_21 : decode cX11_areNeversMet 21 = .ok (.iload 5, 2) := by decide +kernel
theorem dX11_areNeversMet_23 : decode cX11_areNeversMet 23 = .ok (.aload_n 0, 1) := by decide +kernel
theorem dX11_areNeversMet_24 : decode cX11_areNeversMet 24 = .ok (.getfield 164, 3) := by decide +kernel
theorem dX11_areNeversMet_27 : decode cX11_areNeversMet 27 = .ok (.iconst 1, 1) := by decide +kernel
theorem dX11_areNeversMet_28 : decode cX11_areNeversMet 28 = .ok (.isub, 1) := by decide +kernel
theorem dX11_areNeversMet_29 : decode cX11_areNeversMet 29 = .ok (.invokevirtual 188, 3) := by decide +kernel
theorem dX11_areNeversMet_32 : decode cX11_areNeversMet 32 = .ok (.istore 6, 2) := by decide +kernel
theorem dX11_areNeversMet_34 : decode cX11_areNeversMet 34 = .ok (.aload_n 0, 1) := by decide +kernel
theorem dX11_areNeversMet_35 : decode cX11_areNeversMet 35 = .ok (.getfield 38, 3) := by decide +kernel
theorem dX11_areNeversMet_38 : decode cX11_areNeversMet 38 = .ok (.iconst 5, 1) := by decide +kernel
theorem dX11_areNeversMet_39 : decode cX11_areNeversMet 39 = .ok (.iload 4, 2) := by decide +kernel
theorem dX11_areNeversMet_41 : decode cX11_areNeversMet 41 = .ok (.imul, 1) := by decide +kernel
theorem dX11_areNeversMet_42 : decode cX11_areNeversMet 42 = .ok (.iload 5, 2) := by decide +kernel
theorem dX11_areNeversMet_44 : decode cX11_areNeversMet 44 = .ok (.iadd, 1) := by decide +kernel
theorem dX11_areNeversMet_45 : decode cX11_areNeversMet 45 = .ok (.iload 6, 2) := by decide +kernel
theorem dX11_areNeversMet_47 : decode cX11_areNeversMet 47 = .ok (.ifCond .le 8, 3) := by decide +kernel
theorem dX11_areNeversMet_50 : decode cX11_areNeversMet 50 = .ok (.iload 6, 2) := by decide +kernel
theorem dX11_areNeversMet_52 : decode cX11_areNeversMet 52 = .ok (.goto 29, 3) := by decide +kernel
theorem dX11_areNeversMet_55 : decode cX11_areNeversMet 55 = .ok (.aload_n 0, 1) := by decide +kernel
theorem dX11_areNeversMet_56 : decode cX11_areNeversMet 56 = .ok (.getfield 7, 3) := by decide +kernel
theorem dX11_areNeversMet_59 : decode cX11_areNeversMet 59 = .ok (.sipush 400, 3) := by decide +kernel
theorem dX11_areNeversMet_62 : decode cX11_areNeversMet 62 = .ok (.bipush 18, 2) := by decide +kernel
theorem dX11_areNeversMet_64 : decode cX11_areNeversMet 64 = .ok (.aload_n 0, 1) := by decide +kernel
theorem dX11_areNeversMet_65 : decode cX11_areNeversMet 65 = .ok (.getfield 7, 3) := by decide +kernel
theorem dX11_areNeversMet_68 : decode cX11_areNeversMet 68 = .ok (.sipush 4464, 3) := by decide +kernel
theorem dX11_areNeversMet_71 : decode cX11_areNeversMet 71 = .ok (.iload 4, 2) := by decide +kernel
theorem dX11_areNeversMet_73 : decode cX11_areNeversMet 73 = .ok (.iadd, 1) := by decide +kernel
theorem dX11_areNeversMet_74 : decode cX11_areNeversMet 74 = .ok (.iaload, 1) := by decide +kernel
theorem dX11_areNeversMet_75 : decode cX11_areNeversMet 75 = .ok (.imul, 1) := by decide +kernel
theorem dX11_areNeversMet_76 : decode cX11_areNeversMet 76 = .ok (.iadd, 1) := by decide +kernel
theorem dX11_areNeversMet_77 : decode cX11_areNeversMet 77 = .ok (.iload 5, 2) := by decide +kernel
theorem dX11_areNeversMet_79 : decode cX11_areNeversMet 79 = .ok (.iadd, 1) := by decide +kernel
theorem dX11_areNeversMet_80 : decode cX11_areNeversMet 80 = .ok (.iaload, 1) := by decide +kernel
theorem dX11_areNeversMet_81 : decode cX11_areNeversMet 81 = .ok (.iastore, 1) := by decide +kernel
theorem dX11_areNeversMet_82 : decode cX11_areNeversMet 82 = .ok (.iinc 5 1, 3) := by decide +kernel
theorem dX11_areNeversMet_85 : decode cX11_areNeversMet 85 = .ok (.goto (-73), 3) := by decide +kernel
theorem dX11_areNeversMet_88 : decode cX11_areNeversMet 88 = .ok (.iinc 4 1, 3) := by decide +kernel
theorem dX11_areNeversMet_91 : decode cX11_areNeversMet 91 = .ok (.goto (-88), 3) := by decide +kernel
theorem dX11_areNeversMet_94 : decode cX11_areNeversMet 94 = .ok (.iconst 1, 1) := by decide +kernel
theorem dX11_areNeversMet_95 : decode cX11_areNeversMet 95 = .ok (.istore 4, 2) := by decide +kernel
theorem dX11_areNeversMet_97 : decode cX11_areNeversMet 97 = .ok (.iconst 0, 1) := by decide +kernel
theorem dX11_areNeversMet_98 : decode cX11_areNeversMet 98 = .ok (.istore 5, 2) := by decide +kernel
theorem dX11_areNeversMet_100 : decode cX11_areNeversMet 100 = .ok (.iload 5, 2) := by decide +kernel
theorem dX11_areNeversMet_102 : decode cX11_areNeversMet 102 = .ok (.iload_n 1, 1) := by decide +kernel
theorem dX11_areNeversMet_103 : decode cX11_areNeversMet 103 = .ok (.if_icmp .ge 65, 3) := by decide +kernel
theorem dX11_areNeversMet_106 : decode cX11_areNeversMet 106 = .ok (.iconst 0, 1) := by decide +kernel
theorem dX11_areNeversMet_107 : decode cX11_areNeversMet 107 = .ok (.istore 6, 2) := by decide +kernel
theorem dX11_areNeversMet_109 : decode cX11_areNeversMet 109 = .ok (.iload 6, 2) := by decide +kernel
theorem dX11_areNeversMet_111 : decode cX11_areNeversMet 111 = .ok (.iload_n 2, 1) := by decide +kernel
theorem dX11_areNeversMet_112 : decode cX11_areNeversMet 112 = .ok (.if_icmp .ge 50, 3) := by decide +kernel
theorem dX11_areNeversMet_115 : decode cX11_areNeversMet 115 = .ok (.iload 4, 2) := by decide +kernel
theorem dX11_areNeversMet_117 : decode cX11_areNeversMet 117 = .ok (.ifCond .eq 36, 3) := by decide +kernel
theorem dX11_areNeversMet_120 : decode cX11_areNeversMet 120 = .ok (.aload_n 0, 1) := by decide +kernel
theorem dX11_areNeversMet_121 : decode cX11_areNeversMet 121 = .ok (.getfield 35, 3) := by decide +kernel
theorem dX11_areNeversMet_124 : decode cX11_areNeversMet 124 = .ok (.bipush 6, 2) := by decide +kernel
theorem dX11_areNeversMet_126 : decode cX11_areNeversMet 126 = .ok (.iload 5, 2) := by decide +kernel
theorem dX11_areNeversMet_128 : decode cX11_areNeversMet 128 = .ok (.imul, 1) := by decide +kernel
theorem dX11_areNeversMet_129 : decode cX11_areNeversMet 129 = .ok (.iload 6, 2) := by decide +kernel
theorem dX11_areNeversMet_131 : decode cX11_areNeversMet 131 = .ok (.iadd, 1) := by decide +kernel
theorem dX11_areNeversMet_132 : decode cX11_areNeversMet 132 = .ok (.iaload, 1) := by decide +kernel
theorem dX11_areNeversMet_133 : decode cX11_areNeversMet 133 = .ok (.iconst 2, 1) := by decide +kernel
theorem dX11_areNeversMet_134 : decode cX11_areNeversMet 134 = .ok (.if_icmp .ne 15, 3) := by decide +kernel
theorem dX11_areNeversMet_137 : decode cX11_areNeversMet 137 = .ok (.aload_n 0, 1) := by decide +kernel
theorem dX11_areNeversMet_138 : decode cX11_areNeversMet 138 = .ok (.iload 5, 2) := by decide +kernel
theorem dX11_areNeversMet_140 : decode cX11_areNeversMet 140 = .ok (.iload 6, 2) := by decide +kernel
theorem dX11_areNeversMet_142 : decode cX11_areNeversMet 142 = .ok (.iload_n 3, 1) := by decide +kernel
theorem dX11_areNeversMet_143 : decode cX11_areNeversMet 143 = .ok (.invokevirtual 195, 3) := by decide +kernel
theorem dX11_areNeversMet_146 : decode cX11_areNeversMet 146 = .ok (.ifCond .eq 7, 3) := by decide +kernel
theorem dX11_areNeversMet_149 : decode cX11_areNeversMet 149 = .ok (.iconst 1, 1) := by decide +kernel
theorem dX11_areNeversMet_150 : decode cX11_areNeversMet 150 = .ok (.goto 4, 3) := by decide +kernel
theorem dX11_areNeversMet_153 : decode cX11_areNeversMet 153 = .ok (.iconst 0, 1) := by decide +kernel
theorem dX11_areNeversMet_154 : decode cX11_areNeversMet 154 = .ok (.istore 4, 2) := by decide +kernel
theorem dX11_areNeversMet_156 : decode cX11_areNeversMet 156 = .ok (.iinc 6 1, 3) := by decide +kernel
theorem dX11_areNeversMet_159 : decode cX11_areNeversMet 159 = .ok (.goto (-50), 3) := by decide +kernel
theorem dX11_areNeversMet_162 : decode cX11_areNeversMet 162 = .ok (.iinc 5 1, 3) := by decide +kernel
theorem dX11_areNeversMet_165 : decode cX11_areNeversMet 165 = .ok (.goto (-65), 3) := by decide +kernel
theorem dX11_areNeversMet_168 : decode cX11_areNeversMet 168 = .ok (.iload 4, 2) := by decide +kernel
theorem dX11_areNeversMet_170 : decode cX11_areNeversMet 170 = .ok (.ireturn, 1) := by decide +kernel
theorem dX11_bars_0 : decode cX11_bars 0 = .ok (.aload_n 0, 1) := by decide +kernel
theorem dX11_bars_1 : decode cX11_bars 1 = .ok (.getfield 7, 3) := by decide +kernel
theorem dX11_bars_4 : decode cX11_bars 4 = .ok (.iconst 0, 1) := by decide +kernel
theorem dX11_bars_5 : decode cX11_bars 5 = .ok (.aload_n 0, 1) := by decide +kernel
theorem dX11_bars_6 : decode cX11_bars 6 = .ok (.getfield 7, 3) := by decide +kernel
theorem dX11_bars_9 : decode cX11_bars 9 = .ok (.sipush 4464, 3) := by decide +kernel
theorem dX11_bars_12 : decode cX11_bars 12 = .ok (.iload_n 2, 1) := by decide +kernel
theorem dX11_bars_13 : decode cX11_bars 13 = .ok (.iadd, 1) := by decide +kernel
theorem dX11_bars_14 : decode cX11_bars 14 = .ok (.iaload, 1) := by decide +kernel
theorem dX11_bars_15 : decode cX11_bars 15 = .ok (.iadd, 1) := by decide +kernel
theorem dX11_bars_16 : decode cX11_bars 16 = .ok (.iaload, 1) := by decide +kernel
theorem dX11_bars_17 : decode cX11_bars 17 = .ok (.iconst 3, 1) := by decide +kernel
theorem dX11_bars_18 : decode cX11_bars 18 = .ok (.if_icmp .ne 7, 3) := by decide +kernel
theorem dX11_bars_21 : decode cX11_bars 21 = .ok (.iconst 1, 1) := by decide +kernel
theorem dX11_bars_22 : decode cX11_bars 22 = .ok (.goto 4, 3) := by decide +kernel
theorem dX11_bars_25 : decode cX11_bars 25 = .ok (.iconst 0, 1) := by decide +kernel
theorem dX11_bars_26 : decode cX11_bars 26 = .ok (.istore 4, 2) := by decide +kernel
theorem dX11_bars_28 : decode cX11_bars 28 = .ok (.iconst 0, 1) := by decide +kernel
theorem dX11_bars_29 : decode cX11_bars 29 = .ok (.istore 5, 2) := by decide +kernel
theorem dX11_bars_31 : decode cX11_bars 31 = .ok (.iload 5, 2) := by decide +kernel
theorem dX11_bars_33 : decode cX11_bars 33 = .ok (.iload_n 3, 1) := by decide +kernel
theorem dX11_bars_34 : decode cX11_bars 34 = .ok (.if_icmp .ge 58, 3) := by decide +kernel
theorem dX11_bars_37 : decode cX11_bars 37 = .ok (.aload_n 0, 1) := by decide +kernel
theorem dX11_bars_38 : decode cX11_bars 38 = .ok (.getfield 38, 3) := by decide +kernel
theorem dX11_bars_41 : decode cX11_bars 41 = .ok (.iconst 5, 1) := by decide +kernel
theorem dX11_bars_42 : decode cX11_bars 42 = .ok (.iload_n 2, 1) := by decide +kernel
theorem dX11_bars_43 : decode cX11_bars 43 = .ok (.imul, 1) := by decide +kernel
theorem dX11_bars_44 : decode cX11_bars 44 = .ok (.iload 5, 2) := by decide +kernel
theorem dX11_bars_46 : decode cX11_bars 46 = .ok (.iadd, 1) := by decide +kernel
theorem dX11_bars_47 : decode cX11_bars 47 = .ok (.iaload, 1) := by decide +kernel
theorem dX11_bars_48 : decode cX11_bars 48 = .ok (.istore 6, 2) := by decide +kernel
theorem dX11_bars_50 : decode cX11_bars 50 = .ok (.iload 4, 2) := by decide +kernel
theorem dX11_bars_52 : decode cX11_bars 52 = .ok (.ifCond .ne 27, 3) := by decide +kernel
theorem dX11_bars_55 : decode cX11_bars 55 = .ok (.iload 6, 2) := by decide +kernel
theorem dX11_bars_57 : decode cX11_bars 57 = .ok (.ifCond .eq 26, 3) := by decide +kernel
theorem dX11_bars_60 : decode cX11_bars 60 = .ok (.iload 6, 2) := by decide +kernel
theorem dX11_bars_62 : decode cX11_bars 62 = .ok (.aload_n 0, 1) := by decide +kernel
theorem dX11_bars_63 : decode cX11_bars 63 = .ok (.getfield 26, 3) := by decide +kernel
theorem dX11_bars_66 : decode cX11_bars 66 = .ok (.iconst 5, 1) := by decide +kernel
theorem dX11_bars_67 : decode cX11_bars 67 = .ok (.iload_n 1, 1) := by decide +kernel
theorem dX11_bars_68 : decode cX11_bars 68 = .ok (.imul, 1) := by decide +kernel
theorem dX11_bars_69 : decode cX11_bars 69 = .ok (.iload 5, 2) := by decide +kernel
theorem dX11_bars_71 : decode cX11_bars 71 = .ok (.iadd, 1) := by decide +kernel
theorem dX11_bars_72 : decode cX11_bars 72 = .ok (.iaload, 1) := by decide +kernel
theorem dX11_bars_73 : decode cX11_bars 73 = .ok (.ishr, 1) := by decide +kernel
theorem dX11_bars_74 : decode cX11_bars 74 = .ok (.iconst 1, 1) := by decide +kernel
theorem dX11_bars_75 : decode cX11_bars 75 = .ok (.iand, 1) := by decide +kernel
theorem dX11_bars_76 : decode cX11_bars 76 = .ok (.ifCond .ne 7, 3) := by decide +kernel
theorem dX11_bars_79 : decode cX11_bars 79 = .ok (.iconst 1, 1) := by decide +kernel
theorem dX11_bars_80 : decode cX11_bars 80 = .ok (.goto 4, 3) := by decide +kernel
theorem dX11_bars_83 : decode cX11_bars 83 = .ok (.iconst 0, 1) := by decide +kernel
theorem dX11_bars_84 : decode cX11_bars 84 = .ok (.istore 4, 2) := by decide +kernel
theorem dX11_bars_86 : decode cX11_bars 86 = .ok (.iinc 5 1, 3) := by decide +kernel
theorem dX11_bars_89 : decode cX11_bars 89 = .ok (.goto (-58), 3) := by decide +kernel
theorem dX11_bars_92 : decode cX11_bars 92 = .ok (.iload 4, 2) := by decide +kernel
theorem dX11_bars_94 : decode cX11_bars 94 = .ok (.ireturn, 1) := by decide +kernel
theorem dX11_take_0 : decode cX11_take 0 = .ok (.iconst 0, 1) := by decide +kernel
theorem dX11_take_1 : decode cX11_take 1 = .ok (.istore_n 3, 1) := by decide +kernel
theorem dX11_take_2 : decode cX11_take 2 = .ok (.iload_n 3, 1) := by decide +kernel
theorem dX11_take_3 : decode cX11_take 3 = .ok (.aload_n 0, 1) := by decide +kernel
theorem dX11_take_4 : decode cX11_take 4 = .ok (.getfield 164, 3) := by decide +kernel
theorem dX11_take_7 : decode cX11_take 7 = .ok (.if_icmp .ge 73, 3) := by decide +kernel
theorem dX11_take_10 : decode cX11_take 10 = .ok (.aload_n 0, 1) := by decide +kernel
theorem dX11_take_11 : decode cX11_take 11 = .ok (.getfield 32, 3) := by decide +kernel
theorem dX11_take_14 : decode cX11_take 14 = .ok (.iload_n 3, 1) := by decide +kernel
theorem dX11_take_15 : decode cX11_take 15 = .ok (.iaload, 1) := by decide +kernel
theorem dX11_take_16 : decode cX11_take 16 = .ok (.istore 4, 2) := by decide +kernel
theorem dX11_take_18 : decode cX11_take 18 = .ok (.aload_n 0, 1) := by decide +kernel
theorem dX11_take_19 : decode cX11_take 19 = .ok (.getfield 7, 3) := by decide +kernel
theorem dX11_take_22 : decode cX11_take 22 = .ok (.sipush 2200, 3) := by decide +kernel
theorem dX11_take_25 : decode cX11_take 25 = .ok (.iload 4, 2) := by decide +kernel
theorem dX11_take_27 : decode cX11_take 27 = .ok (.iadd, 1) := by decide +kernel
theorem dX11_take_28 : decode cX11_take 28 = .ok (.iload_n 2, 1) := by decide +kernel
theorem dX11_take_29 : decode cX11_take 29 = .ok (.iastore, 1) := by decide +kernel
theorem dX11_take_30 : decode cX11_take 30 = .ok (.iconst 0, 1) := by decide +kernel
theorem dX11_take_31 : decode cX11_take 31 = .ok (.istore 5, 2) := by decide +kernel
theorem dX11_take_33 : decode cX11_take 33 = .ok (.iload 5, 2) := by decide +kernel
theorem dX11_take_35 : decode cX11_take 35 = .ok (.iload_n 2, 1) := by decide +kernel
theorem dX11_take_36 : decode cX11_take 36 = .ok (.if_icmp .ge 38, 3) := by decide +kernel
theorem dX11_take_39 : decode cX11_take 39 = .ok (.aload_n 0, 1) := by decide +kernel
theorem dX11_take_40 : decode cX11_take 40 = .ok (.getfield 7, 3) := by decide +kernel
theorem dX11_take_43 : decode cX11_take 43 = .ok (.sipush 2300, 3) := by decide +kernel
theorem dX11_take_46 : decode cX11_take 46 = .ok (.bipush 18, 2) := by decide +kernel
theorem dX11_take_48 : decode cX11_take 48 = .ok (.iload 4, 2) := by decide +kernel
theorem dX11_take_50 : decode cX11_take 50 = .ok (.imul, 1) := by decide +kernel
theorem dX11_take_51 : decode cX11_take 51 = .ok (.iadd, 1) := by decide +kernel
theorem dX11_take_52 : decode cX11_take 52 = .ok (.iload 5, 2) := by decide +kernel
theorem dX11_take_54 : decode cX11_take 54 = .ok (.iadd, 1) := by decide +kernel
theorem dX11_take_55 : decode cX11_take 55 = .ok (.aload_n 0, 1) := by decide +kernel
theorem dX11_take_56 : decode cX11_take 56 = .ok (.getfield 26, 3) := by decide +kernel
theorem dX11_take_59 : decode cX11_take 59 = .ok (.iconst 5, 1) := by decide +kernel
theorem dX11_take_60 : decode cX11_take 60 = .ok (.iload 4, 2) := by decide +kernel
theorem dX11_take_62 : decode cX11_take 62 = .ok (.imul, 1) := by decide +kernel
theorem dX11_take_63 : decode cX11_take 63 = .ok (.iload 5, 2) := by decide +kernel
theorem dX11_take_65 : decode cX11_take 65 = .ok (.iadd, 1) := by decide +kernel
theorem dX11_take_66 : decode cX11_take 66 = .ok (.iaload, 1) := by decide +kernel
theorem dX11_take_67 : decode cX11_take 67 = .ok (.iastore, 1) := by decide +kernel
theorem dX11_take_68 : decode cX11_take 68 = .ok (.iinc 5 1, 3) := by decide +kernel
theorem dX11_take_71 : decode cX11_take 71 = .ok (.goto (-38), 3) := by decide +kernel
theorem dX11_take_74 : decode cX11_take 74 = .ok (.iinc 3 1, 3) := by decide +kernel
theorem dX11_take_77 : decode cX11_take 77 = .ok (.goto (-75), 3) := by decide +kernel
theorem dX11_take_80 : decode cX11_take 80 = .ok (.iconst 0, 1) := by decide +kernel
theorem dX11_take_81 : decode cX11_take 81 = .ok (.istore_n 3, 1) := by decide +kernel
theorem dX11_take_82 : decode cX11_take 82 = .ok (.iload_n 3, 1) := by decide +kernel
theorem dX11_take_83 : decode cX11_take 83 = .ok (.iload_n 1, 1) := by decide +kernel
theorem dX11_take_84 : decode cX11_take 84 = .ok (.if_icmp .ge 60, 3) := by decide +kernel
theorem dX11_take_87 : decode cX11_take 87 = .ok (.iconst 0, 1) := by decide +kernel
theorem dX11_take_88 : decode cX11_take 88 = .ok (.istore 4, 2) := by decide +kernel
theorem dX11_take_90 : decode cX11_take 90 = .ok (.iload 4, 2) := by decide +kernel
theorem dX11_take_92 : decode cX11_take 92 = .ok (.iload_n 2, 1) := by decide +kernel
theorem dX11_take_93 : decode cX11_take 93 = .ok (.if_icmp .ge 45, 3) := by decide +kernel
theorem dX11_take_96 : decode cX11_take 96 = .ok (.aload_n 0, 1) := by decide +kernel
theorem dX11_take_97 : decode cX11_take 97 = .ok (.getfield 7, 3) := by decide +kernel
theorem dX11_take_100 : decode cX11_take 100 = .ok (.sipush 400, 3) := by decide +kernel
theorem dX11_take_103 : decode cX11_take 103 = .ok (.bipush 18, 2) := by decide +kernel
theorem dX11_take_105 : decode cX11_take 105 = .ok (.aload_n 0, 1) := by decide +kernel
theorem dX11_take_106 : decode cX11_take 106 = .ok (.getfield 7, 3) := by decide +kernel
theorem dX11_take_109 : decode cX11_take 109 = .ok (.sipush 4464, 3) := by decide +kernel
theorem dX11_take_112 : decode cX11_take 112 = .ok (.iload_n 3, 1) := by decide +kernel
theorem dX11_take_113 : decode cX11_take 113 = .ok (.iadd, 1) := by decide +kernel
theorem dX11_take_114 : decode cX11_take 114 = .ok (.iaload, 1) := by decide +kernel
theorem dX11_take_115 : decode cX11_take 115 = .ok (.imul, 1) := by decide +kernel
theorem dX11_take_116 : decode cX11_take 116 = .ok (.iadd, 1) := by decide +kernel
theorem dX11_take_117 : decode cX11_take 117 = .ok (.iload 4, 2) := by decide +kernel
theorem dX11_take_119 : decode cX11_take 119 = .ok (.iadd, 1) := by decide +kernel
theorem dX11_take_120 : decode cX11_take 120 = .ok (.aload_n 0, 1) := by decide +kernel
theorem dX11_take_121 : decode cX11_take 121 = .ok (.getfield 38, 3) := by decide +kernel
theorem dX11_take_124 : decode cX11_take 124 = .ok (.iconst 5, 1) := by decide +kernel
theorem dX11_take_125 : decode cX11_take 125 = .ok (.iload_n 3, 1) := by decide +kernel
theorem dX11_take_126 : decode cX11_take 126 = .ok (.imul, 1) := by decide +kernel
theorem dX11_take_127 : decode cX11_take 127 = .ok (.iload 4, 2) := by decide +kernel
theorem dX11_take_129 : decode cX11_take 129 = .ok (.iadd, 1) := by decide +kernel
theorem dX11_take_130 : decode cX11_take 130 = .ok (.iaload, 1) := by decide +kernel
theorem dX11_take_131 : decode cX11_take 131 = .ok (.iastore, 1) := by decide +kernel
theorem dX11_take_132 : decode cX11_take 132 = .ok (.iinc 4 1, 3) := by decide +kernel
theorem dX11_take_135 : decode cX11_take 135 = .ok (.goto (-45), 3) := by decide +kernel
theorem dX11_take_138 : decode cX11_take 138 = .ok (.iinc 3 1, 3) := by decide +kernel
theorem dX11_take_141 : decode cX11_take 141 = .ok (.goto (-59), 3) := by decide +kernel
theorem dX11_take_144 : decode cX11_take 144 = .ok (.return_, 1) := by decide +kernel
theorem dX11_trials_0 : decode cX11_trials 0 = .ok (.aload_n 0, 1) := by decide +kernel
theorem dX11_trials_1 : decode cX11_trials 1 = .ok (.getfield 170, 3) := by decide +kernel
theorem dX11_trials_4 : decode cX11_trials 4 = .ok (.ireturn, 1) := by decide +kernel
theorem dX11_narrows_0 : decode cX11_narrows 0 = .ok (.iload_n 1, 1) := by decide +kernel
theorem dX11_narrows_1 : decode cX11_narrows 1 = .ok (.iconst (-1), 1) := by decide +kernel
theorem dX11_narrows_2 : decode cX11_narrows 2 = .ok (.if_icmp .ne 5, 3) := by decide +kernel
theorem dX11_narrows_5 : decode cX11_narrows 5 = .ok (.iconst 0, 1) := by decide +kernel
theorem dX11_narrows_6 : decode cX11_narrows 6 = .ok (.ireturn, 1) := by decide +kernel
theorem dX11_narrows_7 : decode cX11_narrows 7 = .ok (.aload_n 0, 1) := by decide +kernel
theorem dX11_narrows_8 : decode cX11_narrows 8 = .ok (.getfield 7, 3) := by decide +kernel
theorem dX11_narrows_11 : decode cX11_narrows 11 = .ok (.iconst 0, 1) := by decide +kernel
theorem dX11_narrows_12 : decode cX11_narrows 12 = .ok (.iload_n 1, 1) := by decide +kernel
theorem dX11_narrows_13 : decode cX11_narrows 13 = .ok (.iadd, 1) := by decide +kernel
theorem dX11_narrows_14 : decode cX11_narrows 14 = .ok (.iaload, 1) := by decide +kernel
theorem dX11_narrows_15 : decode cX11_narrows 15 = .ok (.iconst 4, 1) := by decide +kernel
theorem dX11_narrows_16 : decode cX11_narrows 16 = .ok (.if_icmp .ne 47, 3) := by decide +kernel
theorem dX11_narrows_19 : decode cX11_narrows 19 = .ok (.aload_n 0, 1) := by decide +kernel
theorem dX11_narrows_20 : decode cX11_narrows 20 = .ok (.aload_n 0, 1) := by decide +kernel
theorem dX11_narrows_21 : decode cX11_narrows 21 = .ok (.getfield 7, 3) := by decide +kernel
theorem dX11_narrows_24 : decode cX11_narrows 24 = .ok (.sipush 200, 3) := by decide +kernel
theorem dX11_narrows_27 : decode cX11_narrows 27 = .ok (.iload_n 1, 1) := by decide +kernel
theorem dX11_narrows_28 : decode cX11_narrows 28 = .ok (.iadd, 1) := by decide +kernel
theorem dX11_narrows_29 : decode cX11_narrows 29 = .ok (.iaload, 1) := by decide +kernel
theorem dX11_narrows_30 : decode cX11_narrows 30 = .ok (.iload_n 2, 1) := by decide +kernel
theorem dX11_narrows_31 : decode cX11_narrows 31 = .ok (.invokevirtual 198, 3) := by decide +kernel
theorem dX11_narrows_34 : decode cX11_narrows 34 = .ok (.istore_n 3, 1) := by decide +kernel
theorem dX11_narrows_35 : decode cX11_narrows 35 = .ok (.iload_n 3, 1) := by decide +kernel
theorem dX11_narrows_36 : decode cX11_narrows 36 = .ok (.ifCond .eq 25, 3) := by decide +kernel
theorem dX11_narrows_39 : decode cX11_narrows 39 = .ok (.aload_n 0, 1) := by decide +kernel
theorem dX11_narrows_40 : decode cX11_narrows 40 = .ok (.aload_n 0, 1) := by decide +kernel
theorem dX11_narrows_41 : decode cX11_narrows 41 = .ok (.getfield 7, 3) := by decide +kernel
theorem dX11_narrows_44 : decode cX11_narrows 44 = .ok (.sipush 300, 3) := by decide +kernel
theorem dX11_narrows_47 : decode cX11_narrows 47 = .ok (.iload_n 1, 1) := by decide +kernel
theorem dX11_narrows_48 : decode cX11_narrows 48 = .ok (.iadd, 1) := by decide +kernel
theorem dX11_narrows_49 : decode cX11_narrows 49 = .ok (.iaload, 1) := by decide +kernel
theorem dX11_narrows_50 : decode cX11_narrows 50 = .ok (.iload_n 2, 1) := by decide +kernel
theorem dX11_narrows_51 : decode cX11_narrows 51 = .ok (.invokevirtual 198, 3) := by decide +kernel
theorem dX11_narrows_54 : decode cX11_narrows 54 = .ok (.ifCond .eq 7, 3) := by decide +kernel
theorem dX11_narrows_57 : decode cX11_narrows 57 = .ok (.iconst 1, 1) := by decide +kernel
theorem dX11_narrows_58 : decode cX11_narrows 58 = .ok (.goto 4, 3) := by decide +kernel
theorem dX11_narrows_61 : decode cX11_narrows 61 = .ok (.iconst 0, 1) := by decide +kernel
theorem dX11_narrows_62 : decode cX11_narrows 62 = .ok (.ireturn, 1) := by decide +kernel
theorem dX11_narrows_63 : decode cX11_narrows 63 = .ok (.aload_n 0, 1) := by decide +kernel
theorem dX11_narrows_64 : decode cX11_narrows 64 = .ok (.aload_n 0, 1) := by decide +kernel
theorem dX11_narrows_65 : decode cX11_narrows 65 = .ok (.getfield 201, 3) := by decide +kernel
theorem dX11_narrows_68 : decode cX11_narrows 68 = .ok (.ifCond .ne 15, 3) := by decide +kernel
theorem dX11_narrows_71 : decode cX11_narrows 71 = .ok (.aload_n 0, 1) := by decide +kernel
theorem dX11_narrows_72 : decode cX11_narrows 72 = .ok (.getfield 7, 3) := by decide +kernel
theorem dX11_narrows_75 : decode cX11_narrows 75 = .ok (.iconst 0, 1) := by decide +kernel
theorem dX11_narrows_76 : decode cX11_narrows 76 = .ok (.iload_n 1, 1) := by decide +kernel
theorem dX11_narrows_77 : decode cX11_narrows 77 = .ok (.iadd, 1) := by decide +kernel
theorem dX11_narrows_78 : decode cX11_narrows 78 = .ok (.iaload, 1) := by decide +kernel
theorem dX11_narrows_79 : decode cX11_narrows 79 = .ok (.iconst 3, 1) := by decide +kernel
theorem dX11_narrows_80 : decode cX11_narrows 80 = .ok (.if_icmp .ne 7, 3) := by decide +kernel
theorem dX11_narrows_83 : decode cX11_narrows 83 = .ok (.iconst 1, 1) := by decide +kernel
theorem dX11_narrows_84 : decode cX11_narrows 84 = .ok (.goto 4, 3) := by decide +kernel
theorem dX11_narrows_87 : decode cX11_narrows 87 = .ok (.iconst 0, 1) := by decide +kernel
theorem dX11_narrows_88 : decode cX11_narrows 88 = .ok (.putfield 201, 3) := by decide +kernel
theorem dX11_narrows_91 : decode cX11_narrows 91 = .ok (.iconst 0, 1) := by decide +kernel
theorem dX11_narrows_92 : decode cX11_narrows 92 = .ok (.istore_n 3, 1) := by decide +kernel
theorem dX11_narrows_93 : decode cX11_narrows 93 = .ok (.iload_n 3, 1) := by decide +kernel
theorem dX11_narrows_94 : decode cX11_narrows 94 = .ok (.aload_n 0, 1) := by decide +kernel
theorem dX11_narrows_95 : decode cX11_narrows 95 = .ok (.getfield 7, 3) := by decide +kernel
theorem dX11_narrows_98 : decode cX11_narrows 98 = .ok (.bipush 100, 2) := by decide +kernel
theorem dX11_narrows_100 : decode cX11_narrows 100 = .ok (.iload_n 1, 1) := by decide +kernel
theorem dX11_narrows_101 : decode cX11_narrows 101 = .ok (.iadd, 1) := by decide +kernel
theorem dX11_narrows_102 : decode cX11_narrows 102 = .ok (.iaload, 1) := by decide +kernel
theorem dX11_narrows_103 : decode cX11_narrows 103 = .ok (.if_icmp .ge 60, 3) := by decide +kernel
theorem dX11_narrows_106 : decode cX11_narrows 106 = .ok (.aload_n 0, 1) := by decide +kernel
theorem dX11_narrows_107 : decode cX11_narrows 107 = .ok (.getfield 7, 3) := by decide +kernel
theorem dX11_narrows_110 : decode cX11_narrows 110 = .ok (.sipush 400, 3) := by decide +kernel
theorem dX11_narrows_113 : decode cX11_narrows 113 = .ok (.bipush 18, 2) := by decide +kernel
theorem dX11_narrows_115 : decode cX11_narrows 115 = .ok (.iload_n 1, 1) := by decide +kernel
theorem dX11_narrows_116 : decode cX11_narrows 116 = .ok (.imul, 1) := by decide +kernel
theorem dX11_narrows_117 : decode cX11_narrows 117 = .ok (.iadd, 1) := by decide +kernel
theorem dX11_narrows_118 : decode cX11_narrows 118 = .ok (.iload_n 3, 1) := by decide +kernel
theorem dX11_narrows_119 : decode cX11_narrows 119 = .ok (.iadd, 1) := by decide +kernel
theorem dX11_narrows_120 : decode cX11_narrows 120 = .ok (.iaload, 1) := by decide +kernel
theorem dX11_narrows_121 : decode cX11_narrows 121 = .ok (.istore 4, 2) := by decide +kernel
theorem dX11_narrows_123 : decode cX11_narrows 123 = .ok (.iload 4, 2) := by decide +kernel
theorem dX11_narrows_125 : decode cX11_narrows 125 = .ok (.ifCond .eq 16, 3) := by decide +kernel
theorem dX11_narrows_128 : decode cX11_narrows 128 = .ok (.iload_n 3, 1) := by decide +kernel
theorem dX11_narrows_129 : decode cX11_narrows 129 = .ok (.iload_n 2, 1) := by decide +kernel
theorem dX11_narrows_130 : decode cX11_narrows 130 = .ok (.if_icmp .lt 11, 3) := by decide +kernel
theorem dX11_narrows_133 : decode cX11_narrows 133 = .ok (.aload_n 0, 1) := by decide +kernel
theorem dX11_narrows_134 : decode cX11_narrows 134 = .ok (.iconst 1, 1) := by decide +kernel
theorem dX11_narrows_135 : decode cX11_narrows 135 = .ok (.putfield 201, 3) := by decide +kernel
theorem dX11_narrows_138 : decode cX11_narrows 138 = .ok (.goto 19, 3) := by decide +kernel
theorem dX11_narrows_141 : decode cX11_narrows 141 = .ok (.iload 4, 2) := by decide +kernel
theorem dX11_narrows_143 : decode cX11_narrows 143 = .ok (.ifCond .eq 14, 3) := by decide +kernel
theorem dX11_narrows_146 : decode cX11_narrows 146 = .ok (.aload_n 0, 1) := by decide +kernel
theorem dX11_narrows_147 : decode cX11_narrows 147 = .ok (.getfield 41, 3) := by decide +kernel
theorem dX11_narrows_150 : decode cX11_narrows 150 = .ok (.iload_n 3, 1) := by decide +kernel
theorem dX11_narrows_151 : decode cX11_narrows 151 = .ok (.dup2, 1) := by decide +kernel
theorem dX11_narrows_152 : decode cX11_narrows 152 = .ok (.iaload, 1) := by decide +kernel
theorem dX11_narrows_153 : decode cX11_narrows 153 = .ok (.iload 4, 2) := by decide +kernel
theorem dX11_narrows_155 : decode cX11_narrows 155 = .ok (.iand, 1) := by decide +kernel
theorem dX11_narrows_156 : decode cX11_narrows 156 = .ok (.iastore, 1) := by decide +kernel
theorem dX11_narrows_157 : decode cX11_narrows 157 = .ok (.iinc 3 1, 3) := by decide +kernel
theorem dX11_narrows_160 : decode cX11_narrows 160 = .ok (.goto (-67), 3) := by decide +kernel
theorem dX11_narrows_163 : decode cX11_narrows 163 = .ok (.aload_n 0, 1) := by decide +kernel
theorem dX11_narrows_164 : decode cX11_narrows 164 = .ok (.getfield 7, 3) := by decide +kernel
theorem dX11_narrows_167 : decode cX11_narrows 167 = .ok (.bipush 100, 2) := by decide +kernel
theorem dX11_narrows_169 : decode cX11_narrows 169 = .ok (.iload_n 1, 1) := by decide +kernel
theorem dX11_narrows_170 : decode cX11_narrows 170 = .ok (.iadd, 1) := by decide +kernel
theorem dX11_narrows_171 : decode cX11_narrows 171 = .ok (.iaload, 1) := by decide +kernel
theorem dX11_narrows_172 : decode cX11_narrows 172 = .ok (.ifCond .lt 7, 3) := by decide +kernel
theorem dX11_narrows_175 : decode cX11_narrows 175 = .ok (.iconst 1, 1) := by decide +kernel
theorem dX11_narrows_176 : decode cX11_narrows 176 = .ok (.goto 4, 3) := by decide +kernel
theorem dX11_narrows_179 : decode cX11_narrows 179 = .ok (.iconst 0, 1) := by decide +kernel
theorem dX11_narrows_180 : decode cX11_narrows 180 = .ok (.ireturn, 1) := by decide +kernel
theorem dX11_count_0 : decode cX11_count 0 = .ok (.aload_n 0, 1) := by decide +kernel
theorem dX11_count_1 : decode cX11_count 1 = .ok (.iload_n 1, 1) := by decide +kernel
theorem dX11_count_2 : decode cX11_count 2 = .ok (.invokevirtual 138, 3) := by decide +kernel
theorem dX11_count_5 : decode cX11_count 5 = .ok (.ifCond .eq 27, 3) := by decide +kernel
theorem dX11_count_8 : decode cX11_count 8 = .ok (.iload_n 2, 1) := by decide +kernel
theorem dX11_count_9 : decode cX11_count 9 = .ok (.i2l, 1) := by decide +kernel
theorem dX11_count_10 : decode cX11_count 10 = .ok (.lconst 0, 1) := by decide +kernel
theorem dX11_count_11 : decode cX11_count 11 = .ok (.ldc2_w 204, 3) := by decide +kernel
theorem dX11_count_14 : decode cX11_count 14 = .ok (.invokestatic 67, 3) := by decide +kernel
theorem dX11_count_17 : decode cX11_count 17 = .ok (.ifCond .eq 15, 3) := by decide +kernel
theorem dX11_count_20 : decode cX11_count 20 = .ok (.iload_n 3, 1) := by decide +kernel
theorem dX11_count_21 : decode cX11_count 21 = .ok (.i2l, 1) := by decide +kernel
theorem dX11_count_22 : decode cX11_count 22 = .ok (.lconst 0, 1) := by decide +kernel
theorem dX11_count_23 : decode cX11_count 23 = .ok (.ldc2_w 91, 3) := by decide +kernel
theorem dX11_count_26 : decode cX11_count 26 = .ok (.invokestatic 67, 3) := by decide +kernel
theorem dX11_count_29 : decode cX11_count 29 = .ok (.ifCond .ne 7, 3) := by decide +kernel
theorem dX11_count_32 : decode cX11_count 32 = .ok (.ldc2_w 206, 3) := by decide +kernel
theorem dX11_count_35 : decode cX11_count 35 = .ok (.lreturn, 1) := by decide +kernel
theorem dX11_count_36 : decode cX11_count 36 = .ok (.iconst 0, 1) := by decide +kernel
theorem dX11_count_37 : decode cX11_count 37 = .ok (.istore 4, 2) := by decide +kernel
theorem dX11_count_39 : decode cX11_count 39 = .ok (.iload 4, 2) := by decide +kernel
theorem dX11_count_41 : decode cX11_count 41 = .ok (.bipush 18, 2) := by decide +kernel
theorem dX11_count_43 : decode cX11_count 43 = .ok (.if_icmp .ge 19, 3) := by decide +kernel
theorem dX11_count_46 : decode cX11_count 46 = .ok (.aload_n 0, 1) := by decide +kernel
theorem dX11_count_47 : decode cX11_count 47 = .ok (.getfield 41, 3) := by decide +kernel
theorem dX11_count_50 : decode cX11_count 50 = .ok (.iload 4, 2) := by decide +kernel
theorem dX11_count_52 : decode cX11_count 52 = .ok (.sipush 1023, 3) := by decide +kernel
theorem dX11_count_55 : decode cX11_count 55 = .ok (.iastore, 1) := by decide +kernel
theorem dX11_count_56 : decode cX11_count 56 = .ok (.iinc 4 1, 3) := by decide +kernel
theorem dX11_count_59 : decode cX11_count 59 = .ok (.goto (-20), 3) := by decide +kernel
theorem dX11_count_62 : decode cX11_count 62 = .ok (.aload_n 0, 1) := by decide +kernel
theorem dX11_count_63 : decode cX11_count 63 = .ok (.iconst 0, 1) := by decide +kernel
theorem dX11_count_64 : decode cX11_count 64 = .ok (.putfield 201, 3) := by decide +kernel
theorem dX11_count_67 : decode cX11_count 67 = .ok (.aload_n 0, 1) := by decide +kernel
theorem dX11_count_68 : decode cX11_count 68 = .ok (.aload_n 0, 1) := by decide +kernel
theorem dX11_count_69 : decode cX11_count 69 = .ok (.getfield 7, 3) := by decide +kernel
theorem dX11_count_72 : decode cX11_count 72 = .ok (.sipush 4464, 3) := by decide +kernel
theorem dX11_count_75 : decode cX11_count 75 = .ok (.iload_n 1, 1) := by decide +kernel
theorem dX11_count_76 : decode cX11_count 76 = .ok (.iadd, 1) := by decide +kernel
theorem dX11_count_77 : decode cX11_count 77 = .ok (.iaload, 1) := by decide +kernel
theorem dX11_count_78 : decode cX11_count 78 = .ok (.iload_n 2, 1) := by decide +kernel
theorem dX11_count_79 : decode cX11_count 79 = .ok (.invokevirtual 198, 3) := by decide +kernel
theorem dX11_count_82 : decode cX11_count 82 = .ok (.ifCond .ne 10, 3) := by decide +kernel
theorem dX11_count_85 : decode cX11_count 85 = .ok (.aload_n 0, 1) := by decide +kernel
theorem dX11_count_86 : decode cX11_count 86 = .ok (.iconst 1, 1) := by decide +kernel
theorem dX11_count_87 : decode cX11_count 87 = .ok (.invokevirtual 80, 3) := by decide +kernel
theorem dX11_count_90 : decode cX11_count 90 = .ok (.i2l, 1) := by decide +kernel
theorem dX11_count_91 : decode cX11_count 91 = .ok (.lreturn, 1) := by decide +kernel
theorem dX11_count_92 : decode cX11_count 92 = .ok (.aload_n 0, 1) := by decide +kernel
theorem dX11_count_93 : decode cX11_count 93 = .ok (.iconst 0, 1) := by decide +kernel
theorem dX11_count_94 : decode cX11_count 94 = .ok (.putfield 57, 3) := by decide +kernel
theorem dX11_count_97 : decode cX11_count 97 = .ok (.aload_n 0, 1) := by decide +kernel
theorem dX11_count_98 : decode cX11_count 98 = .ok (.getfield 201, 3) := by decide +kernel
theorem dX11_count_101 : decode cX11_count 101 = .ok (.ifCond .ne 7, 3) := by decide +kernel
theorem dX11_count_104 : decode cX11_count 104 = .ok (.iload_n 2, 1) := by decide +kernel
theorem dX11_count_105 : decode cX11_count 105 = .ok (.ifCond .ne 16, 3) := by decide +kernel
theorem dX11_count_108 : decode cX11_count 108 = .ok (.aload_n 0, 1) := by decide +kernel
theorem dX11_count_109 : decode cX11_count 109 = .ok (.getfield 201, 3) := by decide +kernel
theorem dX11_count_112 : decode cX11_count 112 = .ok (.ifCond .eq 7, 3) := by decide +kernel
theorem dX11_count_115 : decode cX11_count 115 = .ok (.lconst 0, 1) := by decide +kernel
theorem dX11_count_116 : decode cX11_count 116 = .ok (.goto 4, 3) := by decide +kernel
theorem dX11_count_119 : decode cX11_count 119 = .ok (.lconst 1, 1) := by decide +kernel
theorem dX11_count_120 : decode cX11_count 120 = .ok (.lreturn, 1) := by decide +kernel
theorem dX11_count_121 : decode cX11_count 121 = .ok (.iconst 0, 1) := by decide +kernel
theorem dX11_count_122 : decode cX11_count 122 = .ok (.istore 4, 2) := by decide +kernel
theorem dX11_count_124 : decode cX11_count 124 = .ok (.iload 4, 2) := by decide +kernel
theorem dX11_count_126 : decode cX11_count 126 = .ok (.bipush 10, 2) := by decide +kernel
theorem dX11_count_128 : decode cX11_count 128 = .ok (.if_icmp .ge 28, 3) := by decide +kernel
theorem dX11_count_131 : decode cX11_count 131 = .ok (.aload_n 0, 1) := by decide +kernel
theorem dX11_count_132 : decode cX11_count 132 = .ok (.getfield 44, 3) := by decide +kernel
theorem dX11_count_135 : decode cX11_count 135 = .ok (.iload 4, 2) := by decide +kernel
theorem dX11_count_137 : decode cX11_count 137 = .ok (.aload_n 0, 1) := by decide +kernel
theorem dX11_count_138 : decode cX11_count 138 = .ok (.getfield 41, 3) := by decide +kernel
theorem dX11_count_141 : decode cX11_count 141 = .ok (.iconst 0, 1) := by decide +kernel
theorem dX11_count_142 : decode cX11_count 142 = .ok (.iaload, 1) := by decide +kernel
theorem dX11_count_143 : decode cX11_count 143 = .ok (.iload 4, 2) := by decide +kernel
theorem dX11_count_145 : decode cX11_count 145 = .ok (.ishr, 1) := by decide +kernel
theorem dX11_count_146 : decode cX11_count 146 = .ok (.iconst 1, 1) := by decide +kernel
theorem dX11_count_147 : decode cX11_count 147 = .ok (.iand, 1) := by decide +kernel
theorem dX11_count_148 : decode cX11_count 148 = .ok (.i2l, 1) := by decide +kernel
theorem dX11_count_149 : decode cX11_count 149 = .ok (.lastore, 1) := by decide +kernel
theorem dX11_count_150 : decode cX11_count 150 = .ok (.iinc 4 1, 3) := by decide +kernel
theorem dX11_count_153 : decode cX11_count 153 = .ok (.goto (-29), 3) := by decide +kernel
theorem dX11_count_156 : decode cX11_count 156 = .ok (.iconst 1, 1) := by decide +kernel
theorem dX11_count_157 : decode cX11_count 157 = .ok (.istore 4, 2) := by decide +kernel
theorem dX11_count_159 : decode cX11_count 159 = .ok (.iload 4, 2) := by decide +kernel
theorem dX11_count_161 : decode cX11_count 161 = .ok (.iload_n 2, 1) := by decide +kernel
theorem dX11_count_162 : decode cX11_count 162 = .ok (.if_icmp .ge 133, 3) := by decide +kernel
theorem dX11_count_165 : decode cX11_count 165 = .ok (.iconst 0, 1) := by decide +kernel
theorem dX11_count_166 : decode cX11_count 166 = .ok (.istore 5, 2) := by decide +kernel
theorem dX11_count_168 : decode cX11_count 168 = .ok (.iload 5, 2) := by decide +kernel
theorem dX11_count_170 : decode cX11_count 170 = .ok (.bipush 10, 2) := by decide +kernel
theorem dX11_count_172 : decode cX11_count 172 = .ok (.if_icmp .ge 87, 3) := by decide +kernel
theorem dX11_count_175 : decode cX11_count 175 = .ok (.aload_n 0, 1) := by decide +kernel
theorem dX11_count_176 : decode cX11_count 176 = .ok (.getfield 48, 3) := by decide +kernel
theorem dX11_count_179 : decode cX11_count 179 = .ok (.iload 5, 2) := by decide +kernel
theorem dX11_count_181 : decode cX11_count 181 = .ok (.lconst 0, 1) := by decide +kernel
theorem dX11_count_182 : decode cX11_count 182 = .ok (.lastore, 1) := by decide +kernel
theorem dX11_count_183 : decode cX11_count 183 = .ok (.iconst 0, 1) := by decide +kernel
theorem dX11_count_184 : decode cX11_count 184 = .ok (.istore 6, 2) := by decide +kernel
theorem dX11_count_186 : decode cX11_count 186 = .ok (.iload 6, 2) := by decide +kernel
theorem dX11_count_188 : decode cX11_count 188 = .ok (.bipush 10, 2) := by decide +kernel
theorem dX11_count_190 : decode cX11_count 190 = .ok (.if_icmp .ge 63, 3) := by decide +kernel
theorem dX11_count_193 : decode cX11_count 193 = .ok (.aload_n 0, 1) := by decide +kernel
theorem dX11_count_194 : decode cX11_count 194 = .ok (.getfield 48, 3) := by decide +kernel
theorem dX11_count_197 : decode cX11_count 197 = .ok (.iload 5, 2) := by decide +kernel
theorem dX11_count_199 : decode cX11_count 199 = .ok (.dup2, 1) := by decide +kernel
theorem dX11_count_200 : decode cX11_count 200 = .ok (.laload, 1) := by decide +kernel
theorem dX11_count_201 : decode cX11_count 201 = .ok (.iload 5, 2) := by decide +kernel
theorem dX11_count_203 : decode cX11_count 203 = .ok (.iload 6, 2) := by decide +kernel
theorem dX11_count_205 : decode cX11_count 205 = .ok (.isub, 1) := by decide +kernel
theorem dX11_count_206 : decode cX11_count 206 = .ok (.i2l, 1) := by decide +kernel
theorem dX11_count_207 : decode cX11_count 207 = .ok (.iload_n 3, 1) := by decide +kernel
theorem dX11_count_208 : decode cX11_count 208 = .ok (.ineg, 1) := by decide +kernel
theorem dX11_count_209 : decode cX11_count 209 = .ok (.i2l, 1) := by decide +kernel
theorem dX11_count_210 : decode cX11_count 210 = .ok (.iload_n 3, 1) := by decide +kernel
theorem dX11_count_211 : decode cX11_count 211 = .ok (.i2l, 1) := by decide +kernel
theorem dX11_count_212 : decode cX11_count 212 = .ok (.invokestatic 67, 3) := by decide +kernel
theorem dX11_count_215 : decode cX11_count 215 = .ok (.ifCond .eq 29, 3) := by decide +kernel
theorem dX11_count_218 : decode cX11_count 218 = .ok (.aload_n 0, 1) := by decide +kernel
theorem dX11_count_219 : decode cX11_count 219 = .ok (.getfield 41, 3) := by decide +kernel
theorem dX11_count_222 : decode cX11_count 222 = .ok (.iload 4, 2) := by decide +kernel
theorem dX11_count_224 : decode cX11_count 224 = .ok (.iaload, 1) := by decide +kernel
theorem dX11_count_225 : decode cX11_count 225 = .ok (.iload 5, 2) := by decide +kernel
theorem dX11_count_227 : decode cX11_count 227 = .ok (.ishr, 1) := by decide +kernel
theorem dX11_count_228 : decode cX11_count 228 = .ok (.iconst 1, 1) := by decide +kernel
theorem dX11_count_229 : decode cX11_count 229 = .ok (.iand, 1) := by decide +kernel
theorem dX11_count_230 : decode cX11_count 230 = .ok (.iconst 1, 1) := by decide +kernel
theorem dX11_count_231 : decode cX11_count 231 = .ok (.if_icmp .ne 13, 3) := by decide +kernel
theorem dX11_count_234 : decode cX11_count 234 = .ok (.aload_n 0, 1) := by decide +kernel
theorem dX11_count_235 : decode cX11_count 235 = .ok (.getfield 44, 3) := by decide +kernel
theorem dX11_count_238 : decode cX11_count 238 = .ok (.iload 6, 2) := by decide +kernel
theorem dX11_count_240 : decode cX11_count 240 = .ok (.laload, 1) := by decide +kernel
theorem dX11_count_241 : decode cX11_count 241 = .ok (.goto 4, 3) := by decide +kernel
theorem dX11_count_244 : decode cX11_count 244 = .ok (.lconst 0, 1) := by decide +kernel
theorem dX11_count_245 : decode cX11_count 245 = .ok (.ladd, 1) := by decide +kernel
theorem dX11_count_246 : decode cX11_count 246 = .ok (.lastore, 1) := by decide +kernel
theorem dX11_count_247 : decode cX11_count 247 = .ok (.iinc 6 1, 3) := by decide +kernel
theorem dX11_count_250 : decode cX11_count 250 = .ok (.goto (-64), 3) := by decide +kernel
theorem dX11_count_253 : decode cX11_count 253 = .ok (.iinc 5 1, 3) := by decide +kernel
theorem dX11_count_256 : decode cX11_count 256 = .ok (.goto (-88), 3) := by decide +kernel
theorem dX11_count_259 : decode cX11_count 259 = .ok (.iconst 0, 1) := by decide +kernel
theorem dX11_count_260 : decode cX11_count 260 = .ok (.istore 5, 2) := by decide +kernel
theorem dX11_count_262 : decode cX11_count 262 = .ok (.iload 5, 2) := by decide +kernel
theorem dX11_count_264 : decode cX11_count 264 = .ok (.bipush 10, 2) := by decide +kernel
theorem dX11_count_266 : decode cX11_count 266 = .ok (.if_icmp .ge 23, 3) := by decide +kernel
theorem dX11_count_269 : decode cX11_count 269 = .ok (.aload_n 0, 1) := by decide +kernel
theorem dX11_count_270 : decode cX11_count 270 = .ok (.getfield 44, 3) := by decide +kernel
theorem dX11_count_273 : decode cX11_count 273 = .ok (.iload 5, 2) := by decide +kernel
theorem dX11_count_275 : decode cX11_count 275 = .ok (.aload_n 0, 1) := by decide +kernel
theorem dX11_count_276 : decode cX11_count 276 = .ok (.getfield 48, 3) := by decide +kernel
theorem dX11_count_279 : decode cX11_count 279 = .ok (.iload 5, 2) := by decide +kernel
theorem dX11_count_281 : decode cX11_count 281 = .ok (.laload, 1) := by decide +kernel
theorem dX11_count_282 : decode cX11_count 282 = .ok (.lastore, 1) := by decide +kernel
theorem dX11_count_283 : decode cX11_count 283 = .ok (.iinc 5 1, 3) := by decide +kernel
theorem dX11_count_286 : decode cX11_count 286 = .ok (.goto (-24), 3) := by decide +kernel
theorem dX11_count_289 : decode cX11_count 289 = .ok (.iinc 4 1, 3) := by decide +kernel
theorem dX11_count_292 : decode cX11_count 292 = .ok (.goto (-133), 3) := by decide +kernel
theorem dX11_count_295 : decode cX11_count 295 = .ok (.lconst 0, 1) := by decide +kernel
theorem dX11_count_296 : decode cX11_count 296 = .ok (.lstore 4, 2) := by decide +kernel
theorem dX11_count_298 : decode cX11_count 298 = .ok (.iconst 0, 1) := by decide +kernel
theorem dX11_count_299 : decode cX11_count 299 = .ok (.istore 6, 2) := by decide +kernel
theorem dX11_count_301 : decode cX11_count 301 = .ok (.iload 6, 2) := by decide +kernel
theorem dX11_count_303 : decode cX11_count 303 = .ok (.bipush 10, 2) := by decide +kernel
theorem dX11_count_305 : decode cX11_count 305 = .ok (.if_icmp .ge 21, 3) := by decide +kernel
theorem dX11_count_308 : decode cX11_count 308 = .ok (.lload 4, 2) := by decide +kernel
theorem dX11_count_310 : decode cX11_count 310 = .ok (.aload_n 0, 1) := by decide +kernel
theorem dX11_count_311 : decode cX11_count 311 = .ok (.getfield 44, 3) := by decide +kernel
theorem dX11_count_314 : decode cX11_count 314 = .ok (.iload 6, 2) := by decide +kernel
theorem dX11_count_316 : decode cX11_count 316 = .ok (.laload, 1) := by decide +kernel
theorem dX11_count_317 : decode cX11_count 317 = .ok (.ladd, 1) := by decide +kernel
theorem dX11_count_318 : decode cX11_count 318 = .ok (.lstore 4, 2) := by decide +kernel
theorem dX11_count_320 : decode cX11_count 320 = .ok (.iinc 6 1, 3) := by decide +kernel
theorem dX11_count_323 : decode cX11_count 323 = .ok (.goto (-22), 3) := by decide +kernel
theorem dX11_count_326 : decode cX11_count 326 = .ok (.lload 4, 2) := by decide +kernel
theorem dX11_count_328 : decode cX11_count 328 = .ok (.lreturn, 1) := by decide +kernel
theorem dX11_opened_0 : decode cX11_opened 0 = .ok (.iconst 0, 1) := by decide +kernel
theorem dX11_opened_1 : decode cX11_opened 1 = .ok (.istore_n 2, 1) := by decide +kernel
theorem dX11_opened_2 : decode cX11_opened 2 = .ok (.iconst 0, 1) := by decide +kernel
theorem dX11_opened_3 : decode cX11_opened 3 = .ok (.istore_n 3, 1) := by decide +kernel
theorem dX11_opened_4 : decode cX11_opened 4 = .ok (.iload_n 3, 1) := by decide +kernel
theorem dX11_opened_5 : decode cX11_opened 5 = .ok (.bipush 31, 2) := by decide +kernel
theorem dX11_opened_7 : decode cX11_opened 7 = .ok (.if_icmp .ge 40, 3) := by decide +kernel
theorem dX11_opened_10 : decode cX11_opened 10 = .ok (.iload_n 3, 1) := by decide +kernel
theorem dX11_opened_11 : decode cX11_opened 11 = .ok (.aload_n 0, 1) := by decide +kernel
theorem dX11_opened_12 : decode cX11_opened 12 = .ok (.getfield 7, 3) := by decide +kernel
theorem dX11_opened_15 : decode cX11_opened 15 = .ok (.sipush 8525, 3) := by decide +kernel
theorem dX11_opened_18 : decode cX11_opened 18 = .ok (.iaload, 1) := by decide +kernel
theorem dX11_opened_19 : decode cX11_opened 19 = .ok (.if_icmp .ge 28, 3) := by decide +kernel
theorem dX11_opened_22 : decode cX11_opened 22 = .ok (.iload_n 2, 1) := by decide +kernel
theorem dX11_opened_23 : decode cX11_opened 23 = .ok (.aload_n 0, 1) := by decide +kernel
theorem dX11_opened_24 : decode cX11_opened 24 = .ok (.iload_n 1, 1) := by decide +kernel
theorem dX11_opened_25 : decode cX11_opened 25 = .ok (.iload_n 3, 1) := by decide +kernel
theorem dX11_opened_26 : decode cX11_opened 26 = .ok (.invokevirtual 167, 3) := by decide +kernel
theorem dX11_opened_29 : decode cX11_opened 29 = .ok (.ifCond .eq 9, 3) := by decide +kernel
theorem dX11_opened_32 : decode cX11_opened 32 = .ok (.iconst 1, 1) := by decide +kernel
theorem dX11_opened_33 : decode cX11_opened 33 = .ok (.iload_n 3, 1) := by decide +kernel
theorem dX11_opened_34 : decode cX11_opened 34 = .ok (.ishl, 1) := by decide +kernel
theorem dX11_opened_35 : decode cX11_opened 35 = .ok (.goto 4, 3) := by decide +kernel
theorem dX11_opened_38 : decode cX11_opened 38 = .ok (.iconst 0, 1) := by decide +kernel
theorem dX11_opened_39 : decode cX11_opened 39 = .ok (.ior, 1) := by decide +kernel
theorem dX11_opened_40 : decode cX11_opened 40 = .ok (.istore_n 2, 1) := by decide +kernel
theorem dX11_opened_41 : decode cX11_opened 41 = .ok (.iinc 3 1, 3) := by decide +kernel
theorem dX11_opened_44 : decode cX11_opened 44 = .ok (.goto (-40), 3) := by decide +kernel
theorem dX11_opened_47 : decode cX11_opened 47 = .ok (.iload_n 2, 1) := by decide +kernel
theorem dX11_opened_48 : decode cX11_opened 48 = .ok (.ireturn, 1) := by decide +kernel
theorem dX11_areDoors_0 : decode cX11_areDoors 0 = .ok (.iload_n 1, 1) := by decide +kernel
theorem dX11_areDoors_1 : decode cX11_areDoors 1 = .ok (.ifCond .lt 33, 3) := by decide +kernel
theorem dX11_areDoors_4 : decode cX11_areDoors 4 = .ok (.aload_n 0, 1) := by decide +kernel
theorem dX11_areDoors_5 : decode cX11_areDoors 5 = .ok (.getfield 7, 3) := by decide +kernel
theorem dX11_areDoors_8 : decode cX11_areDoors 8 = .ok (.sipush 8525, 3) := by decide +kernel
theorem dX11_areDoors_11 : decode cX11_areDoors 11 = .ok (.iaload, 1) := by decide +kernel
theorem dX11_areDoors_12 : decode cX11_areDoors 12 = .ok (.bipush 31, 2) := by decide +kernel
theorem dX11_areDoors_14 : decode cX11_areDoors 14 = .ok (.if_icmp .ge 16, 3) := by decide +kernel
theorem dX11_areDoors_17 : decode cX11_areDoors 17 = .ok (.iload_n 1, 1) := by decide +kernel
theorem dX11_areDoors_18 : decode cX11_areDoors 18 = .ok (.aload_n 0, 1) := by decide +kernel
theorem dX11_areDoors_19 : decode cX11_areDoors 19 = .ok (.getfield 7, 3) := by decide +kernel
theorem dX11_areDoors_22 : decode cX11_areDoors 22 = .ok (.sipush 8525, 3) := by decide +kernel
theorem dX11_areDoors_25 : decode cX11_areDoors 25 = .ok (.iaload, 1) := by decide +kernel
theorem dX11_areDoors_26 : decode cX11_areDoors 26 = .ok (.ishr, 1) := by decide +kernel
theorem dX11_areDoors_27 : decode cX11_areDoors 27 = .ok (.ifCond .ne 7, 3) := by decide +kernel
theorem dX11_areDoors_30 : decode cX11_areDoors 30 = .ok (.iconst 1, 1) := by decide +kernel
theorem dX11_areDoors_31 : decode cX11_areDoors 31 = .ok (.goto 4, 3) := by decide +kernel
theorem dX11_areDoors_34 : decode cX11_areDoors 34 = .ok (.iconst 0, 1) := by decide +kernel
theorem dX11_areDoors_35 : decode cX11_areDoors 35 = .ok (.ireturn, 1) := by decide +kernel
theorem dX11_first_0 : decode cX11_first 0 = .ok (.aload_n 0, 1) := by decide +kernel
theorem dX11_first_1 : decode cX11_first 1 = .ok (.getfield 7, 3) := by decide +kernel
theorem dX11_first_4 : decode cX11_first 4 = .ok (.sipush 8523, 3) := by decide +kernel
theorem dX11_first_7 : decode cX11_first 7 = .ok (.iaload, 1) := by decide +kernel
theorem dX11_first_8 : decode cX11_first 8 = .ok (.bipush 14, 2) := by decide +kernel
theorem dX11_first_10 : decode cX11_first 10 = .ok (.if_icmp .ge 14, 3) := by decide +kernel
theorem dX11_first_13 : decode cX11_first 13 = .ok (.aload_n 0, 1) := by decide +kernel
theorem dX11_first_14 : decode cX11_first 14 = .ok (.getfield 7, 3) := by decide +kernel
theorem dX11_first_17 : decode cX11_first 17 = .ok (.sipush 8523, 3) := by decide +kernel
theorem dX11_first_20 : decode cX11_first 20 = .ok (.iaload, 1) := by decide +kernel
theorem dX11_first_21 : decode cX11_first 21 = .ok (.goto 5, 3) := by decide +kernel
theorem dX11_first_24 : decode cX11_first 24 = .ok (.bipush 14, 2) := by decide +kernel
theorem dX11_first_26 : decode cX11_first 26 = .ok (.istore_n 2, 1) := by decide +kernel
theorem dX11_first_27 : decode cX11_first 27 = .ok (.iconst 0, 1) := by decide +kernel
theorem dX11_first_28 : decode cX11_first 28 = .ok (.istore_n 3, 1) := by decide +kernel
theorem dX11_first_29 : decode cX11_first 29 = .ok (.iload_n 3, 1) := by decide +kernel
theorem dX11_first_30 : decode cX11_first 30 = .ok (.iload_n 2, 1) := by decide +kernel
theorem dX11_first_31 : decode cX11_first 31 = .ok (.if_icmp .ge 22, 3) := by decide +kernel
theorem dX11_first_34 : decode cX11_first 34 = .ok (.aload_n 0, 1) := by decide +kernel
theorem dX11_first_35 : decode cX11_first 35 = .ok (.getfield 51, 3) := by decide +kernel
theorem dX11_first_38 : decode cX11_first 38 = .ok (.iload_n 3, 1) := by decide +kernel
theorem dX11_first_39 : decode cX11_first 39 = .ok (.aload_n 0, 1) := by decide +kernel
theorem dX11_first_40 : decode cX11_first 40 = .ok (.iload_n 3, 1) := by decide +kernel
theorem dX11_first_41 : decode cX11_first 41 = .ok (.invokevirtual 208, 3) := by decide +kernel
theorem dX11_first_44 : decode cX11_first 44 = .ok (.iload_n 1, 1) := by decide +kernel
theorem dX11_first_45 : decode cX11_first 45 = .ok (.iand, 1) := by decide +kernel
theorem dX11_first_46 : decode cX11_first 46 = .ok (.iastore, 1) := by decide +kernel
theorem dX11_first_47 : decode cX11_first 47 = .ok (.iinc 3 1, 3) := by decide +kernel
theorem dX11_first_50 : decode cX11_first 50 = .ok (.goto (-21), 3) := by decide +kernel
theorem dX11_first_53 : decode cX11_first 53 = .ok (.iload_n 2, 1) := by decide +kernel
theorem dX11_first_54 : decode cX11_first 54 = .ok (.ireturn, 1) := by decide +kernel
theorem dX11_carry_0 : decode cX11_carry 0 = .ok (.aload_n 0, 1) := by decide +kernel
theorem dX11_carry_1 : decode cX11_carry 1 = .ok (.iload_n 1, 1) := by decide +kernel
theorem dX11_carry_2 : decode cX11_carry 2 = .ok (.invokevirtual 211, 3) := by decide +kernel
theorem dX11_carry_5 : decode cX11_carry 5 = .ok (.ifCond .ne 6, 3) := by decide +kernel
theorem dX11_carry_8 : decode cX11_carry 8 = .ok (.bipush (-2), 2) := by decide +kernel
theorem dX11_carry_10 : decode cX11_carry 10 = .ok (.ireturn, 1) := by decide +kernel
theorem dX11_carry_11 : decode cX11_carry 11 = .ok (.aload_n 0, 1) := by decide +kernel
theorem dX11_carry_12 : decode cX11_carry 12 = .ok (.iload_n 1, 1) := by decide +kernel
theorem dX11_carry_13 : decode cX11_carry 13 = .ok (.invokevirtual 214, 3) := by decide +kernel
theorem dX11_carry_16 : decode cX11_carry 16 = .ok (.istore_n 2, 1) := by decide +kernel
theorem dX11_carry_17 : decode cX11_carry 17 = .ok (.iconst 1, 1) := by decide +kernel
theorem dX11_carry_18 : decode cX11_carry 18 = .ok (.iload_n 2, 1) := by decide +kernel
theorem dX11_carry_19 : decode cX11_carry 19 = .ok (.ishl, 1) := by decide +kernel
theorem dX11_carry_20 : decode cX11_carry 20 = .ok (.iconst 1, 1) := by decide +kernel
theorem dX11_carry_21 : decode cX11_carry 21 = .ok (.isub, 1) := by decide +kernel
theorem dX11_carry_22 : decode cX11_carry 22 = .ok (.istore_n 3, 1) := by decide +kernel
theorem dX11_carry_23 : decode cX11_carry 23 = .ok (.iconst 0, 1) := by decide +kernel
theorem dX11_carry_24 : decode cX11_carry 24 = .ok (.istore 4, 2) := by decide +kernel
theorem dX11_carry_26 : decode cX11_carry 26 = .ok (.iconst 0, 1) := by decide +kernel
theorem dX11_carry_27 : decode cX11_carry 27 = .ok (.istore 5, 2) := by decide +kernel
theorem dX11_carry_29 : decode cX11_carry 29 = .ok (.iload 5, 2) := by decide +kernel
theorem dX11_carry_31 : decode cX11_carry 31 = .ok (.iload_n 2, 1) := by decide +kernel
theorem dX11_carry_32 : decode cX11_carry 32 = .ok (.if_icmp .ge 21, 3) := by decide +kernel
theorem dX11_carry_35 : decode cX11_carry 35 = .ok (.iload 4, 2) := by decide +kernel
theorem dX11_carry_37 : decode cX11_carry 37 = .ok (.aload_n 0, 1) := by decide +kernel
theorem dX11_carry_38 : decode cX11_carry 38 = .ok (.getfield 51, 3) := by decide +kernel
theorem dX11_carry_41 : decode cX11_carry 41 = .ok (.iload 5, 2) := by decide +kernel
theorem dX11_carry_43 : decode cX11_carry 43 = .ok (.iaload, 1) := by decide +kernel
theorem dX11_carry_44 : decode cX11_carry 44 = .ok (.ior, 1) := by decide +kernel
theorem dX11_carry_45 : decode cX11_carry 45 = .ok (.istore 4, 2) := by decide +kernel
theorem dX11_carry_47 : decode cX11_carry 47 = .ok (.iinc 5 1, 3) := by decide +kernel
theorem dX11_carry_50 : decode cX11_carry 50 = .ok (.goto (-21), 3) := by decide +kernel
theorem dX11_carry_53 : decode cX11_carry 53 = .ok (.aload_n 0, 1) := by decide +kernel
theorem dX11_carry_54 : decode cX11_carry 54 = .ok (.getfield 54, 3) := by decide +kernel
theorem dX11_carry_57 : decode cX11_carry 57 = .ok (.iconst 0, 1) := by decide +kernel
theorem dX11_carry_58 : decode cX11_carry 58 = .ok (.iconst 0, 1) := by decide +kernel
theorem dX11_carry_59 : decode cX11_carry 59 = .ok (.iastore, 1) := by decide +kernel
theorem dX11_carry_60 : decode cX11_carry 60 = .ok (.iconst 0, 1) := by decide +kernel
theorem dX11_carry_61 : decode cX11_carry 61 = .ok (.istore 5, 2) := by decide +kernel
theorem dX11_carry_63 : decode cX11_carry 63 = .ok (.iload 5, 2) := by decide +kernel
theorem dX11_carry_65 : decode cX11_carry 65 = .ok (.iconst 1, 1) := by decide +kernel
theorem dX11_carry_66 : decode cX11_carry 66 = .ok (.iload_n 2, 1) := by decide +kernel
theorem dX11_carry_67 : decode cX11_carry 67 = .ok (.ishl, 1) := by decide +kernel
theorem dX11_carry_68 : decode cX11_carry 68 = .ok (.if_icmp .ge 100, 3) := by decide +kernel
theorem dX11_carry_71 : decode cX11_carry 71 = .ok (.iconst 0, 1) := by decide +kernel
theorem dX11_carry_72 : decode cX11_carry 72 = .ok (.istore 6, 2) := by decide +kernel
theorem dX11_carry_74 : decode cX11_carry 74 = .ok (.iload 5, 2) := by decide +kernel
theorem dX11_carry_76 : decode cX11_carry 76 = .ok (.ifCond .le 19, 3) := by decide +kernel
theorem dX11_carry_79 : decode cX11_carry 79 = .ok (.iload 5, 2) := by decide +kernel
theorem dX11_carry_81 : decode cX11_carry 81 = .ok (.iload 6, 2) := by decide +kernel
theorem dX11_carry_83 : decode cX11_carry 83 = .ok (.ishr, 1) := by decide +kernel
theorem dX11_carry_84 : decode cX11_carry 84 = .ok (.iconst 1, 1) := by decide +kernel
theorem dX11_carry_85 : decode cX11_carry 85 = .ok (.iand, 1) := by decide +kernel
theorem dX11_carry_86 : decode cX11_carry 86 = .ok (.ifCond .ne 9, 3) := by decide +kernel
theorem dX11_carry_89 : decode cX11_carry 89 = .ok (.iinc 6 1, 3) := by decide +kernel
theorem dX11_carry_92 : decode cX11_carry 92 = .ok (.goto (-18), 3) := by decide +kernel
theorem dX11_carry_95 : decode cX11_carry 95 = .ok (.aload_n 0, 1) := by decide +kernel
theorem dX11_carry_96 : decode cX11_carry 96 = .ok (.getfield 54, 3) := by decide +kernel
theorem dX11_carry_99 : decode cX11_carry 99 = .ok (.iload 5, 2) := by decide +kernel
theorem dX11_carry_101 : decode cX11_carry 101 = .ok (.iload 5, 2) := by decide +kernel
theorem dX11_carry_103 : decode cX11_carry 103 = .ok (.ifCond .ne 7, 3) := by decide +kernel
theorem dX11_carry_106 : decode cX11_carry 106 = .ok (.iconst 0, 1) := by decide +kernel
theorem dX11_carry_107 : decode cX11_carry 107 = .ok (.goto 23, 3) := by decide +kernel
theorem dX11_carry_110 : decode cX11_carry 110 = .ok (.aload_n 0, 1) := by decide +kernel
theorem dX11_carry_111 : decode cX11_carry 111 = .ok (.getfield 54, 3) := by decide +kernel
theorem dX11_carry_114 : decode cX11_carry 114 = .ok (.iload 5, 2) := by decide +kernel
theorem dX11_carry_116 : decode cX11_carry 116 = .ok (.iload 5, 2) := by decide +kernel
theorem dX11_carry_118 : decode cX11_carry 118 = .ok (.iconst 1, 1) := by decide +kernel
theorem dX11_carry_119 : decode cX11_carry 119 = .ok (.isub, 1) := by decide +kernel
theorem dX11_carry_120 : decode cX11_carry 120 = .ok (.iand, 1) := by decide +kernel
theorem dX11_carry_121 : decode cX11_carry 121 = .ok (.iaload, 1) := by decide +kernel
theorem dX11_carry_122 : decode cX11_carry 122 = .ok (.aload_n 0, 1) := by decide +kernel
theorem dX11_carry_123 : decode cX11_carry 123 = .ok (.getfield 51, 3) := by decide +kernel
theorem dX11_carry_126 : decode cX11_carry 126 = .ok (.iload 6, 2) := by decide +kernel
theorem dX11_carry_128 : decode cX11_carry 128 = .ok (.iaload, 1) := by decide +kernel
theorem dX11_carry_129 : decode cX11_carry 129 = .ok (.ior, 1) := by decide +kernel
theorem dX11_carry_130 : decode cX11_carry 130 = .ok (.iastore, 1) := by decide +kernel
theorem dX11_carry_131 : decode cX11_carry 131 = .ok (.aload_n 0, 1) := by decide +kernel
theorem dX11_carry_132 : decode cX11_carry 132 = .ok (.getfield 54, 3) := by decide +kernel
theorem dX11_carry_135 : decode cX11_carry 135 = .ok (.iload 5, 2) := by decide +kernel
theorem dX11_carry_137 : decode cX11_carry 137 = .ok (.iaload, 1) := by decide +kernel
theorem dX11_carry_138 : decode cX11_carry 138 = .ok (.iload 4, 2) := by decide +kernel
theorem dX11_carry_140 : decode cX11_carry 140 = .ok (.if_icmp .ne 20, 3) := by decide +kernel
theorem dX11_carry_143 : decode cX11_carry 143 = .ok (.iload 5, 2) := by decide +kernel
theorem dX11_carry_145 : decode cX11_carry 145 = .ok (.invokestatic 97, 3) := by decide +kernel
theorem dX11_carry_148 : decode cX11_carry 148 = .ok (.iload_n 3, 1) := by decide +kernel
theorem dX11_carry_149 : decode cX11_carry 149 = .ok (.invokestatic 97, 3) := by decide +kernel
theorem dX11_carry_152 : decode cX11_carry 152 = .ok (.if_icmp .ge 8, 3) := by decide +kernel
theorem dX11_carry_155 : decode cX11_carry 155 = .ok (.iload 5, 2) := by decide +kernel
theorem dX11_carry_157 : decode cX11_carry 157 = .ok (.goto 4, 3) := by decide +kernel
theorem dX11_carry_160 : decode cX11_carry 160 = .ok (.iload_n 3, 1) := by decide +kernel
theorem dX11_carry_161 : decode cX11_carry 161 = .ok (.istore_n 3, 1) := by decide +kernel
theorem dX11_carry_162 : decode cX11_carry 162 = .ok (.iinc 5 1, 3) := by decide +kernel
theorem dX11_carry_165 : decode cX11_carry 165 = .ok (.goto (-102), 3) := by decide +kernel
theorem dX11_carry_168 : decode cX11_carry 168 = .ok (.iload_n 3, 1) := by decide +kernel
theorem dX11_carry_169 : decode cX11_carry 169 = .ok (.ireturn, 1) := by decide +kernel
theorem dX11_closed_0 : decode cX11_closed 0 = .ok (.aload_n 0, 1) := by decide +kernel
theorem dX11_closed_1 : decode cX11_closed 1 = .ok (.iload_n 1, 1) := by decide +kernel
theorem dX11_closed_2 : decode cX11_closed 2 = .ok (.invokevirtual 211, 3) := by decide +kernel
theorem dX11_closed_5 : decode cX11_closed 5 = .ok (.ifCond .ne 6, 3) := by decide +kernel
theorem dX11_closed_8 : decode cX11_closed 8 = .ok (.bipush (-2), 2) := by decide +kernel
theorem dX11_closed_10 : decode cX11_closed 10 = .ok (.ireturn, 1) := by decide +kernel
theorem dX11_closed_11 : decode cX11_closed 11 = .ok (.aload_n 0, 1) := by decide +kernel
theorem dX11_closed_12 : decode cX11_closed 12 = .ok (.iload_n 1, 1) := by decide +kernel
theorem dX11_closed_13 : decode cX11_closed 13 = .ok (.invokevirtual 214, 3) := by decide +kernel
theorem dX11_closed_16 : decode cX11_closed 16 = .ok (.istore_n 2, 1) := by decide +kernel
theorem dX11_closed_17 : decode cX11_closed 17 = .ok (.iload_n 1, 1) := by decide +kernel
theorem dX11_closed_18 : decode cX11_closed 18 = .ok (.istore_n 3, 1) := by decide +kernel
theorem dX11_closed_19 : decode cX11_closed 19 = .ok (.iconst 0, 1) := by decide +kernel
theorem dX11_closed_20 : decode cX11_closed 20 = .ok (.istore 4, 2) := by decide +kernel
theorem dX11_closed_22 : decode cX11_closed 22 = .ok (.iload 4, 2) := by decide +kernel
theorem dX11_closed_24 : decode cX11_closed 24 = .ok (.iload_n 2, 1) := by decide +kernel
theorem dX11_closed_25 : decode cX11_closed 25 = .ok (.if_icmp .ge 21, 3) := by decide +kernel
theorem dX11_closed_28 : decode cX11_closed 28 = .ok (.iload_n 3, 1) := by decide +kernel
theorem dX11_closed_29 : decode cX11_closed 29 = .ok (.aload_n 0, 1) := by decide +kernel
theorem dX11_closed_30 : decode cX11_closed 30 = .ok (.getfield 51, 3) := by decide +kernel
theorem dX11_closed_33 : decode cX11_closed 33 = .ok (.iload 4, 2) := by decide +kernel
theorem dX11_closed_35 : decode cX11_closed 35 = .ok (.iaload, 1) := by decide +kernel
theorem dX11_closed_36 : decode cX11_closed 36 = .ok (.iconst (-1), 1) := by decide +kernel
theorem dX11_closed_37 : decode cX11_closed 37 = .ok (.ixor, 1) := by decide +kernel
theorem dX11_closed_38 : decode cX11_closed 38 = .ok (.iand, 1) := by decide +kernel
theorem dX11_closed_39 : decode cX11_closed 39 = .ok (.istore_n 3, 1) := by decide +kernel
theorem dX11_closed_40 : decode cX11_closed 40 = .ok (.iinc 4 1, 3) := by decide +kernel
theorem dX11_closed_43 : decode cX11_closed 43 = .ok (.goto (-21), 3) := by decide +kernel
theorem dX11_closed_46 : decode cX11_closed 46 = .ok (.iload_n 3, 1) := by decide +kernel
theorem dX11_closed_47 : decode cX11_closed 47 = .ok (.ireturn, 1) := by decide +kernel
theorem dX11_endangered_0 : decode cX11_endangered 0 = .ok (.aload_n 0, 1) := by decide +kernel
theorem dX11_endangered_1 : decode cX11_endangered 1 = .ok (.iload_n 1, 1) := by decide +kernel
theorem dX11_endangered_2 : decode cX11_endangered 2 = .ok (.invokevirtual 125, 3) := by decide +kernel
theorem dX11_endangered_5 : decode cX11_endangered 5 = .ok (.ifCond .eq 11, 3) := by decide +kernel
theorem dX11_endangered_8 : decode cX11_endangered 8 = .ok (.aload_n 0, 1) := by decide +kernel
theorem dX11_endangered_9 : decode cX11_endangered 9 = .ok (.iload_n 1, 1) := by decide +kernel
theorem dX11_endangered_10 : decode cX11_endangered 10 = .ok (.invokevirtual 208, 3) := by decide +kernel
theorem dX11_endangered_13 : decode cX11_endangered 13 = .ok (.goto 5, 3) := by decide +kernel
theorem dX11_endangered_16 : decode cX11_endangered 16 = .ok (.bipush (-2), 2) := by decide +kernel
theorem dX11_endangered_18 : decode cX11_endangered 18 = .ok (.ireturn, 1) := by decide +kernel
theorem dX11_undo_0 : decode cX11_undo 0 = .ok (.aload_n 0, 1) := by decide +kernel
theorem dX11_undo_1 : decode cX11_undo 1 = .ok (.getfield 63, 3) := by decide +kernel
theorem dX11_undo_4 : decode cX11_undo 4 = .ok (.ifCond .ne 6, 3) := by decide +kernel
theorem dX11_undo_7 : decode cX11_undo 7 = .ok (.bipush (-3), 2) := by decide +kernel
theorem dX11_undo_9 : decode cX11_undo 9 = .ok (.ireturn, 1) := by decide +kernel
theorem dX11_undo_10 : decode cX11_undo 10 = .ok (.iconst 0, 1) := by decide +kernel
theorem dX11_undo_11 : decode cX11_undo 11 = .ok (.istore_n 1, 1) := by decide +kernel
theorem dX11_undo_12 : decode cX11_undo 12 = .ok (.iload_n 1, 1) := by decide +kernel
theorem dX11_undo_13 : decode cX11_undo 13 = .ok (.sipush 8530, 3) := by decide +kernel
theorem dX11_undo_16 : decode cX11_undo 16 = .ok (.if_icmp .ge 21, 3) := by decide +kernel
theorem dX11_undo_19 : decode cX11_undo 19 = .ok (.aload_n 0, 1) := by decide +kernel
theorem dX11_undo_20 : decode cX11_undo 20 = .ok (.getfield 7, 3) := by decide +kernel
theorem dX11_undo_23 : decode cX11_undo 23 = .ok (.iload_n 1, 1) := by decide +kernel
theorem dX11_undo_24 : decode cX11_undo 24 = .ok (.aload_n 0, 1) := by decide +kernel
theorem dX11_undo_25 : decode cX11_undo 25 = .ok (.getfield 13, 3) := by decide +kernel
theorem dX11_undo_28 : decode cX11_undo 28 = .ok (.iload_n 1, 1) := by decide +kernel
theorem dX11_undo_29 : decode cX11_undo 29 = .ok (.iaload, 1) := by decide +kernel
theorem dX11_undo_30 : decode cX11_undo 30 = .ok (.iastore, 1) := by decide +kernel
theorem dX11_undo_31 : decode cX11_undo 31 = .ok (.iinc 1 1, 3) := by decide +kernel
theorem dX11_undo_34 : decode cX11_undo 34 = .ok (.goto (-22), 3) := by decide +kernel
theorem dX11_undo_37 : decode cX11_undo 37 = .ok (.aload_n 0, 1) := by decide +kernel
theorem dX11_undo_38 : decode cX11_undo 38 = .ok (.iconst 0, 1) := by decide +kernel
theorem dX11_undo_39 : decode cX11_undo 39 = .ok (.putfield 63, 3) := by decide +kernel
theorem dX11_undo_42 : decode cX11_undo 42 = .ok (.iconst 1, 1) := by decide +kernel
theorem dX11_undo_43 : decode cX11_undo 43 = .ok (.ireturn, 1) := by decide +kernel
theorem dX11_finding_0 : decode cX11_finding 0 = .ok (.aload_n 0, 1) := by decide +kernel
theorem dX11_finding_1 : decode cX11_finding 1 = .ok (.getfield 57, 3) := by decide +kernel
theorem dX11_finding_4 : decode cX11_finding 4 = .ok (.ireturn, 1) := by decide +kernel
theorem dX11_trace_0 : decode cX11_trace 0 = .ok (.iload_n 1, 1) := by decide +kernel
theorem dX11_trace_1 : decode cX11_trace 1 = .ok (.i2l, 1) := by decide +kernel
theorem dX11_trace_2 : decode cX11_trace 2 = .ok (.lconst 0, 1) := by decide +kernel
theorem dX11_trace_3 : decode cX11_trace 3 = .ok (.aload_n 0, 1) := by decide +kernel
theorem dX11_trace_4 : decode cX11_trace 4 = .ok (.getfield 103, 3) := by decide +kernel
theorem dX11_trace_7 : decode cX11_trace 7 = .ok (.bipush 40, 2) := by decide +kernel
theorem dX11_trace_9 : decode cX11_trace 9 = .ok (.if_icmp .ge 10, 3) := by decide +kernel
theorem dX11_trace_12 : decode cX11_trace 12 = .ok (.aload_n 0, 1) := by decide +kernel
theorem dX11_trace_13 : decode cX11_trace 13 = .ok (.getfield 103, 3) := by decide +kernel
theorem dX11_trace_16 : decode cX11_trace 16 = .ok (.goto 5, 3) := by decide +kernel
theorem dX11_trace_19 : decode cX11_trace 19 = .ok (.bipush 40, 2) := by decide +kernel
theorem dX11_trace_21 : decode cX11_trace 21 = .ok (.iconst 1, 1) := by decide +kernel
theorem dX11_trace_22 : decode cX11_trace 22 = .ok (.isub, 1) := by decide +kernel
theorem dX11_trace_23 : decode cX11_trace 23 = .ok (.i2l, 1) := by decide +kernel
theorem dX11_trace_24 : decode cX11_trace 24 = .ok (.invokestatic 67, 3) := by decide +kernel
theorem dX11_trace_27 : decode cX11_trace 27 = .ok (.ifCond .eq 12, 3) := by decide +kernel
theorem dX11_trace_30 : decode cX11_trace 30 = .ok (.aload_n 0, 1) := by decide +kernel
theorem dX11_trace_31 : decode cX11_trace 31 = .ok (.getfield 23, 3) := by decide +kernel
theorem dX11_trace_34 : decode cX11_trace 34 = .ok (.iload_n 1, 1) := by decide +kernel
theorem dX11_trace_35 : decode cX11_trace 35 = .ok (.iaload, 1) := by decide +kernel
theorem dX11_trace_36 : decode cX11_trace 36 = .ok (.goto 4, 3) := by decide +kernel
theorem dX11_trace_39 : decode cX11_trace 39 = .ok (.iconst (-1), 1) := by decide +kernel
theorem dX11_trace_40 : decode cX11_trace 40 = .ok (.ireturn, 1) := by decide +kernel
theorem dX11_told_0 : decode cX11_told 0 = .ok (.iload_n 1, 1) := by decide +kernel
theorem dX11_told_1 : decode cX11_told 1 = .ok (.tableswitch 133 0 9 #[55, 64, 73, 82, 91, 100, 109, 114, 119, 124], 55) := by decide +kernel
theorem dX11_told_56 : decode cX11_told 56 = .ok (.aload_n 0, 1) := by decide +kernel
theorem dX11_told_57 : decode cX11_told 57 = .ok (.getfield 7, 3) := by decide +kernel
theorem dX11_told_60 : decode cX11_told 60 = .ok (.sipush 8522, 3) := by decide +kernel
theorem dX11_told_63 : decode cX11_told 63 = .ok (.iaload, 1) := by decide +kernel
theorem dX11_told_64 : decode cX11_told 64 = .ok (.ireturn, 1) := by decide +kernel
theorem dX11_told_65 : decode cX11_told 65 = .ok (.aload_n 0, 1) := by decide +kernel
theorem dX11_told_66 : decode cX11_told 66 = .ok (.getfield 7, 3) := by decide +kernel
theorem dX11_told_69 : decode cX11_told 69 = .ok (.sipush 8523, 3) := by decide +kernel
theorem dX11_told_72 : decode cX11_told 72 = .ok (.iaload, 1) := by decide +kernel
theorem dX11_told_73 : decode cX11_told 73 = .ok (.ireturn, 1) := by decide +kernel
theorem dX11_told_74 : decode cX11_told 74 = .ok (.aload_n 0, 1) := by decide +kernel
theorem dX11_told_75 : decode cX11_told 75 = .ok (.getfield 7, 3) := by decide +kernel
theorem dX11_told_78 : decode cX11_told 78 = .ok (.sipush 8524, 3) := by decide +kernel
theorem dX11_told_81 : decode cX11_told 81 = .ok (.iaload, 1) := by decide +kernel
theorem dX11_told_82 : decode cX11_told 82 = .ok (.ireturn, 1) := by decide +kernel
theorem dX11_told_83 : decode cX11_told 83 = .ok (.aload_n 0, 1) := by decide +kernel
theorem dX11_told_84 : decode cX11_told 84 = .ok (.getfield 7, 3) := by decide +kernel
theorem dX11_told_87 : decode cX11_told 87 = .ok (.sipush 8525, 3) := by decide +kernel
theorem dX11_told_90 : decode cX11_told 90 = .ok (.iaload, 1) := by decide +kernel
theorem dX11_told_91 : decode cX11_told 91 = .ok (.ireturn, 1) := by decide +kernel
theorem dX11_told_92 : decode cX11_told 92 = .ok (.aload_n 0, 1) := by decide +kernel
theorem dX11_told_93 : decode cX11_told 93 = .ok (.getfield 7, 3) := by decide +kernel
theorem dX11_told_96 : decode cX11_told 96 = .ok (.sipush 8526, 3) := by decide +kernel
theorem dX11_told_99 : decode cX11_told 99 = .ok (.iaload, 1) := by decide +kernel
theorem dX11_told_100 : decode cX11_told 100 = .ok (.ireturn, 1) := by decide +kernel
theorem dX11_told_101 : decode cX11_told 101 = .ok (.aload_n 0, 1) := by decide +kernel
theorem dX11_told_102 : decode cX11_told 102 = .ok (.getfield 7, 3) := by decide +kernel
theorem dX11_told_105 : decode cX11_told 105 = .ok (.sipush 8527, 3) := by decide +kernel
theorem dX11_told_108 : decode cX11_told 108 = .ok (.iaload, 1) := by decide +kernel
theorem dX11_told_109 : decode cX11_told 109 = .ok (.ireturn, 1) := by decide +kernel
theorem dX11_told_110 : decode cX11_told 110 = .ok (.aload_n 0, 1) := by decide +kernel
theorem dX11_told_111 : decode cX11_told 111 = .ok (.getfield 117, 3) := by decide +kernel
theorem dX11_told_114 : decode cX11_told 114 = .ok (.ireturn, 1) := by decide +kernel
theorem dX11_told_115 : decode cX11_told 115 = .ok (.aload_n 0, 1) := by decide +kernel
theorem dX11_told_116 : decode cX11_told 116 = .ok (.getfield 60, 3) := by decide +kernel
theorem dX11_told_119 : decode cX11_told 119 = .ok (.ireturn, 1) := by decide +kernel
theorem dX11_told_120 : decode cX11_told 120 = .ok (.aload_n 0, 1) := by decide +kernel
theorem dX11_told_121 : decode cX11_told 121 = .ok (.getfield 103, 3) := by decide +kernel
theorem dX11_told_124 : decode cX11_told 124 = .ok (.ireturn, 1) := by decide +kernel
theorem dX11_told_125 : decode cX11_told 125 = .ok (.aload_n 0, 1) := by decide +kernel
theorem dX11_told_126 : decode cX11_told 126 = .ok (.getfield 7, 3) := by decide +kernel
theorem dX11_told_129 : decode cX11_told 129 = .ok (.sipush 8528, 3) := by decide +kernel
theorem dX11_told_132 : decode cX11_told 132 = .ok (.iaload, 1) := by decide +kernel
theorem dX11_told_133 : decode cX11_told 133 = .ok (.ireturn, 1) := by decide +kernel
theorem dX11_told_134 : decode cX11_told 134 = .ok (.bipush (-2), 2) := by decide +kernel
theorem dX11_told_136 : decode cX11_told 136 = .ok (.ireturn, 1) := by decide +kernel
theorem dJ6_bitCount_0f7a4_0 : decode cJ6_bitCount_0f7a4 0 = .ok (.iload_n 0, 1) := by decide +kernel
theorem dJ6_bitCount_0f7a4_1 : decode cJ6_bitCount_0f7a4 1 = .ok (.iload_n 0, 1) := by decide +kernel
theorem dJ6_bitCount_0f7a4_2 : decode cJ6_bitCount_0f7a4 2 = .ok (.iconst 1, 1) := by decide +kernel
theorem dJ6_bitCount_0f7a4_3 : decode cJ6_bitCount_0f7a4 3 = .ok (.iushr, 1) := by decide +kernel
theorem dJ6_bitCount_0f7a4_4 : decode cJ6_bitCount_0f7a4 4 = .ok (.ldc_w 265, 3) := by decide +kernel
theorem dJ6_bitCount_0f7a4_7 : decode cJ6_bitCount_0f7a4 7 = .ok (.iand, 1) := by decide +kernel
theorem dJ6_bitCount_0f7a4_8 : decode cJ6_bitCount_0f7a4 8 = .ok (.isub, 1) := by decide +kernel
theorem dJ6_bitCount_0f7a4_9 : decode cJ6_bitCount_0f7a4 9 = .ok (.istore_n 0, 1) := by decide +kernel
theorem dJ6_bitCount_0f7a4_10 : decode cJ6_bitCount_0f7a4 10 = .ok (.iload_n 0, 1) := by decide +kernel
theorem dJ6_bitCount_0f7a4_11 : decode cJ6_bitCount_0f7a4 11 = .ok (.ldc_w 266, 3) := by decide +kernel
theorem dJ6_bitCount_0f7a4_14 : decode cJ6_bitCount_0f7a4 14 = .ok (.iand, 1) := by decide +kernel
theorem dJ6_bitCount_0f7a4_15 : decode cJ6_bitCount_0f7a4 15 = .ok (.iload_n 0, 1) := by decide +kernel
theorem dJ6_bitCount_0f7a4_16 : decode cJ6_bitCount_0f7a4 16 = .ok (.iconst 2, 1) := by decide +kernel
theorem dJ6_bitCount_0f7a4_17 : decode cJ6_bitCount_0f7a4 17 = .ok (.iushr, 1) := by decide +kernel
theorem dJ6_bitCount_0f7a4_18 : decode cJ6_bitCount_0f7a4 18 = .ok (.ldc_w 266, 3) := by decide +kernel
theorem dJ6_bitCount_0f7a4_21 : decode cJ6_bitCount_0f7a4 21 = .ok (.iand, 1) := by decide +kernel
theorem dJ6_bitCount_0f7a4_22 : decode cJ6_bitCount_0f7a4 22 = .ok (.iadd, 1) := by decide +kernel
theorem dJ6_bitCount_0f7a4_23 : decode cJ6_bitCount_0f7a4 23 = .ok (.istore_n 0, 1) := by decide +kernel
theorem dJ6_bitCount_0f7a4_24 : decode cJ6_bitCount_0f7a4 24 = .ok (.iload_n 0, 1) := by decide +kernel
theorem dJ6_bitCount_0f7a4_25 : decode cJ6_bitCount_0f7a4 25 = .ok (.iload_n 0, 1) := by decide +kernel
theorem dJ6_bitCount_0f7a4_26 : decode cJ6_bitCount_0f7a4 26 = .ok (.iconst 4, 1) := by decide +kernel
theorem dJ6_bitCount_0f7a4_27 : decode cJ6_bitCount_0f7a4 27 = .ok (.iushr, 1) := by decide +kernel
theorem dJ6_bitCount_0f7a4_28 : decode cJ6_bitCount_0f7a4 28 = .ok (.iadd, 1) := by decide +kernel
theorem dJ6_bitCount_0f7a4_29 : decode cJ6_bitCount_0f7a4 29 = .ok (.ldc_w 267, 3) := by decide +kernel
theorem dJ6_bitCount_0f7a4_32 : decode cJ6_bitCount_0f7a4 32 = .ok (.iand, 1) := by decide +kernel
theorem dJ6_bitCount_0f7a4_33 : decode cJ6_bitCount_0f7a4 33 = .ok (.istore_n 0, 1) := by decide +kernel
theorem dJ6_bitCount_0f7a4_34 : decode cJ6_bitCount_0f7a4 34 = .ok (.iload_n 0, 1) := by decide +kernel
theorem dJ6_bitCount_0f7a4_35 : decode cJ6_bitCount_0f7a4 35 = .ok (.iload_n 0, 1) := by decide +kernel
theorem dJ6_bitCount_0f7a4_36 : decode cJ6_bitCount_0f7a4 36 = .ok (.bipush 8, 2) := by decide +kernel
theorem dJ6_bitCount_0f7a4_38 : decode cJ6_bitCount_0f7a4 38 = .ok (.iushr, 1) := by decide +kernel
theorem dJ6_bitCount_0f7a4_39 : decode cJ6_bitCount_0f7a4 39 = .ok (.iadd, 1) := by decide +kernel
theorem dJ6_bitCount_0f7a4_40 : decode cJ6_bitCount_0f7a4 40 = .ok (.istore_n 0, 1) := by decide +kernel
theorem dJ6_bitCount_0f7a4_41 : decode cJ6_bitCount_0f7a4 41 = .ok (.iload_n 0, 1) := by decide +kernel
theorem dJ6_bitCount_0f7a4_42 : decode cJ6_bitCount_0f7a4 42 = .ok (.iload_n 0, 1) := by decide +kernel
theorem dJ6_bitCount_0f7a4_43 : decode cJ6_bitCount_0f7a4 43 = .ok (.bipush 16, 2) := by decide +kernel
theorem dJ6_bitCount_0f7a4_45 : decode cJ6_bitCount_0f7a4 45 = .ok (.iushr, 1) := by decide +kernel
theorem dJ6_bitCount_0f7a4_46 : decode cJ6_bitCount_0f7a4 46 = .ok (.iadd, 1) := by decide +kernel
theorem dJ6_bitCount_0f7a4_47 : decode cJ6_bitCount_0f7a4 47 = .ok (.istore_n 0, 1) := by decide +kernel
theorem dJ6_bitCount_0f7a4_48 : decode cJ6_bitCount_0f7a4 48 = .ok (.iload_n 0, 1) := by decide +kernel
theorem dJ6_bitCount_0f7a4_49 : decode cJ6_bitCount_0f7a4 49 = .ok (.bipush 63, 2) := by decide +kernel
theorem dJ6_bitCount_0f7a4_51 : decode cJ6_bitCount_0f7a4 51 = .ok (.iand, 1) := by decide +kernel
theorem dJ6_bitCount_0f7a4_52 : decode cJ6_bitCount_0f7a4 52 = .ok (.ireturn, 1) := by decide +kernel
theorem dJ9_abs_0f7a4_0 : decode cJ9_abs_0f7a4 0 = .ok (.iload_n 0, 1) := by decide +kernel
theorem dJ9_abs_0f7a4_1 : decode cJ9_abs_0f7a4 1 = .ok (.ifCond .ge 8, 3) := by decide +kernel
theorem dJ9_abs_0f7a4_4 : decode cJ9_abs_0f7a4 4 = .ok (.iload_n 0, 1) := by decide +kernel
theorem dJ9_abs_0f7a4_5 : decode cJ9_abs_0f7a4 5 = .ok (.ineg, 1) := by decide +kernel
theorem dJ9_abs_0f7a4_6 : decode cJ9_abs_0f7a4 6 = .ok (.goto 4, 3) := by decide +kernel
theorem dJ9_abs_0f7a4_9 : decode cJ9_abs_0f7a4 9 = .ok (.iload_n 0, 1) := by decide +kernel
theorem dJ9_abs_0f7a4_10 : decode cJ9_abs_0f7a4 10 = .ok (.ireturn, 1) := by decide +kernel
theorem dJ9_max_7cf53_0 : decode cJ9_max_7cf53 0 = .ok (.iload_n 0, 1) := by decide +kernel
theorem dJ9_max_7cf53_1 : decode cJ9_max_7cf53 1 = .ok (.iload_n 1, 1) := by decide +kernel
theorem dJ9_max_7cf53_2 : decode cJ9_max_7cf53 2 = .ok (.if_icmp .lt 7, 3) := by decide +kernel
theorem dJ9_max_7cf53_5 : decode cJ9_max_7cf53 5 = .ok (.iload_n 0, 1) := by decide +kernel
theorem dJ9_max_7cf53_6 : decode cJ9_max_7cf53 6 = .ok (.goto 4, 3) := by decide +kernel
theorem dJ9_max_7cf53_9 : decode cJ9_max_7cf53 9 = .ok (.iload_n 1, 1) := by decide +kernel
theorem dJ9_max_7cf53_10 : decode cJ9_max_7cf53 10 = .ok (.ireturn, 1) := by decide +kernel
theorem dJ9_min_7cf53_0 : decode cJ9_min_7cf53 0 = .ok (.iload_n 0, 1) := by decide +kernel
theorem dJ9_min_7cf53_1 : decode cJ9_min_7cf53 1 = .ok (.iload_n 1, 1) := by decide +kernel
theorem dJ9_min_7cf53_2 : decode cJ9_min_7cf53 2 = .ok (.if_icmp .gt 7, 3) := by decide +kernel
theorem dJ9_min_7cf53_5 : decode cJ9_min_7cf53 5 = .ok (.iload_n 0, 1) := by decide +kernel
theorem dJ9_min_7cf53_6 : decode cJ9_min_7cf53 6 = .ok (.goto 4, 3) := by decide +kernel
theorem dJ9_min_7cf53_9 : decode cJ9_min_7cf53 9 = .ok (.iload_n 1, 1) := by decide +kernel
theorem dJ9_min_7cf53_10 : decode cJ9_min_7cf53 10 = .ok (.ireturn, 1) := by decide +kernel
theorem dL_law_0 : decode cL_law 0 = .ok (.new 7, 3) := by decide +kernel
theorem dL_law_3 : decode cL_law 3 = .ok (.dup, 1) := by decide +kernel
theorem dL_law_4 : decode cL_law 4 = .ok (.invokespecial 9, 3) := by decide +kernel
theorem dL_law_7 : decode cL_law 7 = .ok (.astore_n 1, 1) := by decide +kernel
theorem dL_law_8 : decode cL_law 8 = .ok (.new 10, 3) := by decide +kernel
theorem dL_law_11 : decode cL_law 11 = .ok (.dup, 1) := by decide +kernel
theorem dL_law_12 : decode cL_law 12 = .ok (.invokespecial 12, 3) := by decide +kernel
theorem dL_law_15 : decode cL_law 15 = .ok (.astore_n 2, 1) := by decide +kernel
theorem dL_law_16 : decode cL_law 16 = .ok (.iconst 0, 1) := by decide +kernel
theorem dL_law_17 : decode cL_law 17 = .ok (.istore_n 3, 1) := by decide +kernel
theorem dL_law_18 : decode cL_law 18 = .ok (.iload_n 3, 1) := by decide +kernel
theorem dL_law_19 : decode cL_law 19 = .ok (.aload_n 0, 1) := by decide +kernel
theorem dL_law_20 : decode cL_law 20 = .ok (.arraylength, 1) := by decide +kernel
theorem dL_law_21 : decode cL_law 21 = .ok (.bipush 6, 2) := by decide +kernel
theorem dL_law_23 : decode cL_law 23 = .ok (.isub, 1) := by decide +kernel
theorem dL_law_24 : decode cL_law 24 = .ok (.if_icmp .gt 1424, 3) := by decide +kernel
theorem dL_law_27 : decode cL_law 27 = .ok (.aload_n 0, 1) := by decide +kernel
theorem dL_law_28 : decode cL_law 28 = .ok (.iload_n 3, 1) := by decide +kernel
theorem dL_law_29 : decode cL_law 29 = .ok (.iaload, 1) := by decide +kernel
theorem dL_law_30 : decode cL_law 30 = .ok (.bipush 63, 2) := by decide +kernel
theorem dL_law_32 : decode cL_law 32 = .ok (.iand, 1) := by decide +kernel
theorem dL_law_33 : decode cL_law 33 = .ok (.tableswitch 1409 0 40 #[179, 212, 245, 314, 357, 380, 403, 426, 449, 472, 495, 558, 591, 624, 647, 680, 713, 746, 759, 792, 835, 868, 881, 914, 927, 960, 983, 1006, 1029, 1052, 1095, 1148, 1211, 1224, 1268, 1291, 1314, 1337, 1350, 1363, 1386], 179) := by decide +kernel
theorem dL_law_212 : decode cL_law 212 = .ok (.aload_n 1, 1) := by decide +kernel
theorem dL_law_213 : decode cL_law 213 = .ok (.aload_n 0, 1) := by decide +kernel
theorem dL_law_214 : decode cL_law 214 = .ok (.iload_n 3, 1) := by decide +kernel
theorem dL_law_215 : decode cL_law 215 = .ok (.iconst 1, 1) := by decide +kernel
theorem dL_law_216 : decode cL_law 216 = .ok (.iadd, 1) := by decide +kernel
theorem dL_law_217 : decode cL_law 217 = .ok (.iaload, 1) := by decide +kernel
theorem dL_law_218 : decode cL_law 218 = .ok (.aload_n 0, 1) := by decide +kernel
theorem dL_law_219 : decode cL_law 219 = .ok (.iload_n 3, 1) := by decide +kernel
theorem dL_law_220 : decode cL_law 220 = .ok (.iconst 2, 1) := by decide +kernel
theorem dL_law_221 : decode cL_law 221 = .ok (.iadd, 1) := by decide +kernel
theorem dL_law_222 : decode cL_law 222 = .ok (.iaload, 1) := by decide +kernel
theorem dL_law_223 : decode cL_law 223 = .ok (.invokevirtual 13, 3) := by decide +kernel
theorem dL_law_226 : decode cL_law 226 = .ok (.aload_n 2, 1) := by decide +kernel
theorem dL_law_227 : decode cL_law 227 = .ok (.aload_n 0, 1) := by decide +kernel
theorem dL_law_228 : decode cL_law 228 = .ok (.iload_n 3, 1) := by decide +kernel
theorem dL_law_229 : decode cL_law 229 = .ok (.iconst 1, 1) := by decide +kernel
theorem dL_law_230 : decode cL_law 230 = .ok (.iadd, 1) := by decide +kernel
theorem dL_law_231 : decode cL_law 231 = .ok (.iaload, 1) := by decide +kernel
theorem dL_law_232 : decode cL_law 232 = .ok (.aload_n 0, 1) := by decide +kernel
theorem dL_law_233 : decode cL_law 233 = .ok (.iload_n 3, 1) := by decide +kernel
theorem dL_law_234 : decode cL_law 234 = .ok (.iconst 2, 1) := by decide +kernel
theorem dL_law_235 : decode cL_law 235 = .ok (.iadd, 1) := by decide +kernel
theorem dL_law_236 : decode cL_law 236 = .ok (.iaload, 1) := by decide +kernel
theorem dL_law_237 : decode cL_law 237 = .ok (.invokevirtual 17, 3) := by decide +kernel
theorem dL_law_240 : decode cL_law 240 = .ok (.if_icmp .eq 1202, 3) := by decide +kernel
theorem dL_law_243 : decode cL_law 243 = .ok (.iconst 0, 1) := by decide +kernel
theorem dL_law_244 : decode cL_law 244 = .ok (.ireturn, 1) := by decide +kernel
theorem dL_law_245 : decode cL_law 245 = .ok (.aload_n 1, 1) := by decide +kernel
theorem dL_law_246 : decode cL_law 246 = .ok (.aload_n 0, 1) := by decide +kernel
theorem dL_law_247 : decode cL_law 247 = .ok (.iload_n 3, 1) := by decide +kernel
theorem dL_law_248 : decode cL_law 248 = .ok (.iconst 1, 1) := by decide +kernel
theorem dL_law_249 : decode cL_law 249 = .ok (.iadd, 1) := by decide +kernel
theorem dL_law_250 : decode cL_law 250 = .ok (.iaload, 1) := by decide +kernel
theorem dL_law_251 : decode cL_law 251 = .ok (.aload_n 0, 1) := by decide +kernel
theorem dL_law_252 : decode cL_law 252 = .ok (.iload_n 3, 1) := by decide +kernel
theorem dL_law_253 : decode cL_law 253 = .ok (.iconst 2, 1) := by decide +kernel
theorem dL_law_254 : decode cL_law 254 = .ok (.iadd, 1) := by decide +kernel
theorem dL_law_255 : decode cL_law 255 = .ok (.iaload, 1) := by decide +kernel
theorem dL_law_256 : decode cL_law 256 = .ok (.invokevirtual 18, 3) := by decide +kernel
theorem dL_law_259 : decode cL_law 259 = .ok (.aload_n 2, 1) := by decide +kernel
theorem dL_law_260 : decode cL_law 260 = .ok (.aload_n 0, 1) := by decide +kernel
theorem dL_law_261 : decode cL_law 261 = .ok (.iload_n 3, 1) := by decide +kernel
theorem dL_law_262 : decode cL_law 262 = .ok (.iconst 1, 1) := by decide +kernel
theorem dL_law_263 : decode cL_law 263 = .ok (.iadd, 1) := by decide +kernel
theorem dL_law_264 : decode cL_law 264 = .ok (.iaload, 1) := by decide +kernel
theorem dL_law_265 : decode cL_law 265 = .ok (.aload_n 0, 1) := by decide +kernel
theorem dL_law_266 : decode cL_law 266 = .ok (.iload_n 3, 1) := by decide +kernel
theorem dL_law_267 : decode cL_law 267 = .ok (.iconst 2, 1) := by decide +kernel
theorem dL_law_268 : decode cL_law 268 = .ok (.iadd, 1) := by decide +kernel
theorem dL_law_269 : decode cL_law 269 = .ok (.iaload, 1) := by decide +kernel
theorem dL_law_270 : decode cL_law 270 = .ok (.invokevirtual 21, 3) := by decide +kernel
theorem dL_law_273 : decode cL_law 273 = .ok (.if_icmp .eq 1169, 3) := by decide +kernel
theorem dL_law_276 : decode cL_law 276 = .ok (.iconst 0, 1) := by decide +kernel
theorem dL_law_277 : decode cL_law 277 = .ok (.ireturn, 1) := by decide +kernel
theorem dL_law_278 : decode cL_law 278 = .ok (.aload_n 1, 1) := by decide +kernel
theorem dL_law_279 : decode cL_law 279 = .ok (.aload_n 0, 1) := by decide +kernel
theorem dL_law_280 : decode cL_law 280 = .ok (.iload_n 3, 1) := by decide +kernel
theorem dL_law_281 : decode cL_law 281 = .ok (.iconst 1, 1) := by decide +kernel
theorem dL_law_282 : decode cL_law 282 = .ok (.iadd, 1) := by decide +kernel
theorem dL_law_283 : decode cL_law 283 = .ok (.iaload, 1) := by decide +kernel
theorem dL_law_284 : decode cL_law 284 = .ok (.aload_n 0, 1) := by decide +kernel
theorem dL_law_285 : decode cL_law 285 = .ok (.iload_n 3, 1) := by decide +kernel
theorem dL_law_286 : decode cL_law 286 = .ok (.iconst 2, 1) := by decide +kernel
theorem dL_law_287 : decode cL_law 287 = .ok (.iadd, 1) := by decide +kernel
theorem dL_law_288 : decode cL_law 288 = .ok (.iaload, 1) := by decide +kernel
theorem dL_law_289 : decode cL_law 289 = .ok (.aload_n 0, 1) := by decide +kernel
theorem dL_law_290 : decode cL_law 290 = .ok (.iload_n 3, 1) := by decide +kernel
theorem dL_law_291 : decode cL_law 291 = .ok (.iconst 3, 1) := by decide +kernel
theorem dL_law_292 : decode cL_law 292 = .ok (.iadd, 1) := by decide +kernel
theorem dL_law_293 : decode cL_law 293 = .ok (.iaload, 1) := by decide +kernel
theorem dL_law_294 : decode cL_law 294 = .ok (.aload_n 0, 1) := by decide +kernel
theorem dL_law_295 : decode cL_law 295 = .ok (.iload_n 3, 1) := by decide +kernel
theorem dL_law_296 : decode cL_law 296 = .ok (.iconst 4, 1) := by decide +kernel
theorem dL_law_297 : decode cL_law 297 = .ok (.iadd, 1) := by decide +kernel
theorem dL_law_298 : decode cL_law 298 = .ok (.iaload, 1) := by decide +kernel
theorem dL_law_299 : decode cL_law 299 = .ok (.ifCond .eq 7, 3) := by decide +kernel
theorem dL_law_302 : decode cL_law 302 = .ok (.iconst 1, 1) := by decide +kernel
theorem dL_law_303 : decode cL_law 303 = .ok (.goto 4, 3) := by decide +kernel
theorem dL_law_306 : decode cL_law 306 = .ok (.iconst 0, 1) := by decide +kernel
theorem dL_law_307 : decode cL_law 307 = .ok (.invokevirtual 22, 3) := by decide +kernel
theorem dL_law_310 : decode cL_law 310 = .ok (.aload_n 2, 1) := by decide +kernel
theorem dL_law_311 : decode cL_law 311 = .ok (.aload_n 0, 1) := by decide +kernel
theorem dL_law_312 : decode cL_law 312 = .ok (.iload_n 3, 1) := by decide +kernel
theorem dL_law_313 : decode cL_law 313 = .ok (.iconst 1, 1) := by decide +kernel
theorem dL_law_314 : decode cL_law 314 = .ok (.iadd, 1) := by decide +kernel
theorem dL_law_315 : decode cL_law 315 = .ok (.iaload, 1) := by decide +kernel
theorem dL_law_316 : decode cL_law 316 = .ok (.aload_n 0, 1) := by decide +kernel
theorem dL_law_317 : decode cL_law 317 = .ok (.iload_n 3, 1) := by decide +kernel
theorem dL_law_318 : decode cL_law 318 = .ok (.iconst 2, 1) := by decide +kernel
theorem dL_law_319 : decode cL_law 319 = .ok (.iadd, 1) := by decide +kernel
theorem dL_law_320 : decode cL_law 320 = .ok (.iaload, 1) := by decide +kernel
theorem dL_law_321 : decode cL_law 321 = .ok (.aload_n 0, 1) := by decide +kernel
theorem dL_law_322 : decode cL_law 322 = .ok (.iload_n 3, 1) := by decide +kernel
theorem dL_law_323 : decode cL_law 323 = .ok (.iconst 3, 1) := by decide +kernel
theorem dL_law_324 : decode cL_law 324 = .ok (.iadd, 1) := by decide +kernel
theorem dL_law_325 : decode cL_law 325 = .ok (.iaload, 1) := by decide +kernel
theorem dL_law_326 : decode cL_law 326 = .ok (.aload_n 0, 1) := by decide +kernel
theorem dL_law_327 : decode cL_law 327 = .ok (.iload_n 3, 1) := by decide +kernel
theorem dL_law_328 : decode cL_law 328 = .ok (.iconst 4, 1) := by decide +kernel
theorem dL_law_329 : decode cL_law 329 = .ok (.iadd, 1) := by decide +kernel
theorem dL_law_330 : decode cL_law 330 = .ok (.iaload, 1) := by decide +kernel
theorem dL_law_331 : decode cL_law 331 = .ok (.ifCond .eq 7, 3) := by decide +kernel
theorem dL_law_334 : decode cL_law 334 = .ok (.iconst 1, 1) := by decide +kernel
theorem dL_law_335 : decode cL_law 335 = .ok (.goto 4, 3) := by decide +kernel
theorem dL_law_338 : decode cL_law 338 = .ok (.iconst 0, 1) := by decide +kernel
theorem dL_law_339 : decode cL_law 339 = .ok (.invokevirtual 26, 3) := by decide +kernel
theorem dL_law_342 : decode cL_law 342 = .ok (.if_icmp .eq 1100, 3) := by decide +kernel
theorem dL_law_345 : decode cL_law 345 = .ok (.iconst 0, 1) := by decide +kernel
theorem dL_law_346 : decode cL_law 346 = .ok (.ireturn, 1) := by decide +kernel
theorem dL_law_347 : decode cL_law 347 = .ok (.aload_n 1, 1) := by decide +kernel
theorem dL_law_348 : decode cL_law 348 = .ok (.aload_n 0, 1) := by decide +kernel
theorem dL_law_349 : decode cL_law 349 = .ok (.iload_n 3, 1) := by decide +kernel
theorem dL_law_350 : decode cL_law 350 = .ok (.iconst 1, 1) := by decide +kernel
theorem dL_law_351 : decode cL_law 351 = .ok (.iadd, 1) := by decide +kernel
theorem dL_law_352 : decode cL_law 352 = .ok (.iaload, 1) := by decide +kernel
theorem dL_law_353 : decode cL_law 353 = .ok (.aload_n 0, 1) := by decide +kernel
theorem dL_law_354 : decode cL_law 354 = .ok (.iload_n 3, 1) := by decide +kernel
theorem dL_law_355 : decode cL_law 355 = .ok (.iconst 2, 1) := by decide +kernel
theorem dL_law_356 : decode cL_law 356 = .ok (.iadd, 1) := by decide +kernel
theorem dL_law_357 : decode cL_law 357 = .ok (.iaload, 1) := by decide +kernel
theorem dL_law_358 : decode cL_law 358 = .ok (.aload_n 0, 1) := by decide +kernel
theorem dL_law_359 : decode cL_law 359 = .ok (.iload_n 3, 1) := by decide +kernel
theorem dL_law_360 : decode cL_law 360 = .ok (.iconst 3, 1) := by decide +kernel
theorem dL_law_361 : decode cL_law 361 = .ok (.iadd, 1) := by decide +kernel
theorem dL_law_362 : decode cL_law 362 = .ok (.iaload, 1) := by decide +kernel
theorem dL_law_363 : decode cL_law 363 = .ok (.invokevirtual 27, 3) := by decide +kernel
theorem dL_law_366 : decode cL_law 366 = .ok (.aload_n 2, 1) := by decide +kernel
theorem dL_law_367 : decode cL_law 367 = .ok (.aload_n 0, 1) := by decide +kernel
theorem dL_law_368 : decode cL_law 368 = .ok (.iload_n 3, 1) := by decide +kernel
theorem dL_law_369 : decode cL_law 369 = .ok (.iconst 1, 1) := by decide +kernel
theorem dL_law_370 : decode cL_law 370 = .ok (.iadd, 1) := by decide +kernel
theorem dL_law_371 : decode cL_law 371 = .ok (.iaload, 1) := by decide +kernel
theorem dL_law_372 : decode cL_law 372 = .ok (.aload_n 0, 1) := by decide +kernel
theorem dL_law_373 : decode cL_law 373 = .ok (.iload_n 3, 1) := by decide +kernel
theorem dL_law_374 : decode cL_law 374 = .ok (.iconst 2, 1) := by decide +kernel
theorem dL_law_375 : decode cL_law 375 = .ok (.iadd, 1) := by decide +kernel
theorem dL_law_376 : decode cL_law 376 = .ok (.iaload, 1) := by decide +kernel
theorem dL_law_377 : decode cL_law 377 = .ok (.aload_n 0, 1) := by decide +kernel
theorem dL_law_378 : decode cL_law 378 = .ok (.iload_n 3, 1) := by decide +kernel
theorem dL_law_379 : decode cL_law 379 = .ok (.iconst 3, 1) := by decide +kernel
theorem dL_law_380 : decode cL_law 380 = .ok (.iadd, 1) := by decide +kernel
theorem dL_law_381 : decode cL_law 381 = .ok (.iaload, 1) := by decide +kernel
theorem dL_law_382 : decode cL_law 382 = .ok (.invokevirtual 31, 3) := by decide +kernel
theorem dL_law_385 : decode cL_law 385 = .ok (.if_icmp .eq 1057, 3) := by decide +kernel
theorem dL_law_388 : decode cL_law 388 = .ok (.iconst 0, 1) := by decide +kernel
theorem dL_law_389 : decode cL_law 389 = .ok (.ireturn, 1) := by decide +kernel
theorem dL_law_390 : decode cL_law 390 = .ok (.aload_n 1, 1) := by decide +kernel
theorem dL_law_391 : decode cL_law 391 = .ok (.aload_n 0, 1) := by decide +kernel
theorem dL_law_392 : decode cL_law 392 = .ok (.iload_n 3, 1) := by decide +kernel
theorem dL_law_393 : decode cL_law 393 = .ok (.iconst 1, 1) := by decide +kernel
theorem dL_law_394 : decode cL_law 394 = .ok (.iadd, 1) := by decide +kernel
theorem dL_law_395 : decode cL_law 395 = .ok (.iaload, 1) := by decide +kernel
theorem dL_law_396 : decode cL_law 396 = .ok (.invokevirtual 32, 3) := by decide +kernel
theorem dL_law_399 : decode cL_law 399 = .ok (.aload_n 2, 1) := by decide +kernel
theorem dL_law_400 : decode cL_law 400 = .ok (.aload_n 0, 1) := by decide +kernel
theorem dL_law_401 : decode cL_law 401 = .ok (.iload_n 3, 1) := by decide +kernel
theorem dL_law_402 : decode cL_law 402 = .ok (.iconst 1, 1) := by decide +kernel
theorem dL_law_403 : decode cL_law 403 = .ok (.iadd, 1) := by decide +kernel
theorem dL_law_404 : decode cL_law 404 = .ok (.iaload, 1) := by decide +kernel
theorem dL_law_405 : decode cL_law 405 = .ok (.invokevirtual 36, 3) := by decide +kernel
theorem dL_law_408 : decode cL_law 408 = .ok (.if_icmp .eq 1034, 3) := by decide +kernel
theorem dL_law_411 : decode cL_law 411 = .ok (.iconst 0, 1) := by decide +kernel
theorem dL_law_412 : decode cL_law 412 = .ok (.ireturn, 1) := by decide +kernel
theorem dL_law_413 : decode cL_law 413 = .ok (.aload_n 1, 1) := by decide +kernel
theorem dL_law_414 : decode cL_law 414 = .ok (.aload_n 0, 1) := by decide +kernel
theorem dL_law_415 : decode cL_law 415 = .ok (.iload_n 3, 1) := by decide +kernel
theorem dL_law_416 : decode cL_law 416 = .ok (.iconst 1, 1) := by decide +kernel
theorem dL_law_417 : decode cL_law 417 = .ok (.iadd, 1) := by decide +kernel
theorem dL_law_418 : decode cL_law 418 = .ok (.iaload, 1) := by decide +kernel
theorem dL_law_419 : decode cL_law 419 = .ok (.invokevirtual 37, 3) := by decide +kernel
theorem dL_law_422 : decode cL_law 422 = .ok (.aload_n 2, 1) := by decide +kernel
theorem dL_law_423 : decode cL_law 423 = .ok (.aload_n 0, 1) := by decide +kernel
theorem dL_law_424 : decode cL_law 424 = .ok (.iload_n 3, 1) := by decide +kernel
theorem dL_law_425 : decode cL_law 425 = .ok (.iconst 1, 1) := by decide +kernel
theorem dL_law_426 : decode cL_law 426 = .ok (.iadd, 1) := by decide +kernel
theorem dL_law_427 : decode cL_law 427 = .ok (.iaload, 1) := by decide +kernel
theorem dL_law_428 : decode cL_law 428 = .ok (.invokevirtual 40, 3) := by decide +kernel
theorem dL_law_431 : decode cL_law 431 = .ok (.if_icmp .eq 1011, 3) := by decide +kernel
theorem dL_law_434 : decode cL_law 434 = .ok (.iconst 0, 1) := by decide +kernel
theorem dL_law_435 : decode cL_law 435 = .ok (.ireturn, 1) := by decide +kernel
theorem dL_law_436 : decode cL_law 436 = .ok (.aload_n 1, 1) := by decide +kernel
theorem dL_law_437 : decode cL_law 437 = .ok (.aload_n 0, 1) := by decide +kernel
theorem dL_law_438 : decode cL_law 438 = .ok (.iload_n 3, 1) := by decide +kernel
theorem dL_law_439 : decode cL_law 439 = .ok (.iconst 1, 1) := by decide +kernel
theorem dL_law_440 : decode cL_law 440 = .ok (.iadd, 1) := by decide +kernel
theorem dL_law_441 : decode cL_law 441 = .ok (.iaload, 1) := by decide +kernel
theorem dL_law_442 : decode cL_law 442 = .ok (.invokevirtual 41, 3) := by decide +kernel
theorem dL_law_445 : decode cL_law 445 = .ok (.aload_n 2, 1) := by decide +kernel
theorem dL_law_446 : decode cL_law 446 = .ok (.aload_n 0, 1) := by decide +kernel
theorem dL_law_447 : decode cL_law 447 = .ok (.iload_n 3, 1) := by decide +kernel
theorem dL_law_448 : decode cL_law 448 = .ok (.iconst 1, 1) := by decide +kernel
theorem dL_law_449 : decode cL_law 449 = .ok (.iadd, 1) := by decide +kernel
theorem dL_law_450 : decode cL_law 450 = .ok (.iaload, 1) := by decide +kernel
theorem dL_law_451 : decode cL_law 451 = .ok (.invokevirtual 44, 3) := by decide +kernel
theorem dL_law_454 : decode cL_law 454 = .ok (.if_icmp .eq 988, 3) := by decide +kernel
theorem dL_law_457 : decode cL_law 457 = .ok (.iconst 0, 1) := by decide +kernel
theorem dL_law_458 : decode cL_law 458 = .ok (.ireturn, 1) := by decide +kernel
theorem dL_law_459 : decode cL_law 459 = .ok (.aload_n 1, 1) := by decide +kernel
theorem dL_law_460 : decode cL_law 460 = .ok (.aload_n 0, 1) := by decide +kernel
theorem dL_law_461 : decode cL_law 461 = .ok (.iload_n 3, 1) := by decide +kernel
theorem dL_law_462 : decode cL_law 462 = .ok (.iconst 1, 1) := by decide +kernel
theorem dL_law_463 : decode cL_law 463 = .ok (.iadd, 1) := by decide +kernel
theorem dL_law_464 : decode cL_law 464 = .ok (.iaload, 1) := by decide +kernel
theorem dL_law_465 : decode cL_law 465 = .ok (.invokevirtual 45, 3) := by decide +kernel
theorem dL_law_468 : decode cL_law 468 = .ok (.aload_n 2, 1) := by decide +kernel
theorem dL_law_469 : decode cL_law 469 = .ok (.aload_n 0, 1) := by decide +kernel
theorem dL_law_470 : decode cL_law 470 = .ok (.iload_n 3, 1) := by decide +kernel
theorem dL_law_471 : decode cL_law 471 = .ok (.iconst 1, 1) := by decide +kernel
theorem dL_law_472 : decode cL_law 472 = .ok (.iadd, 1) := by decide +kernel
theorem dL_law_473 : decode cL_law 473 = .ok (.iaload, 1) := by decide +kernel
theorem dL_law_474 : decode cL_law 474 = .ok (.invokevirtual 48, 3) := by decide +kernel
theorem dL_law_477 : decode cL_law 477 = .ok (.if_icmp .eq 965, 3) := by decide +kernel
theorem dL_law_480 : decode cL_law 480 = .ok (.iconst 0, 1) := by decide +kernel
theorem dL_law_481 : decode cL_law 481 = .ok (.ireturn, 1) := by decide +kernel
theorem dL_law_482 : decode cL_law 482 = .ok (.aload_n 1, 1) := by decide +kernel
theorem dL_law_483 : decode cL_law 483 = .ok (.aload_n 0, 1) := by decide +kernel
theorem dL_law_484 : decode cL_law 484 = .ok (.iload_n 3, 1) := by decide +kernel
theorem dL_law_485 : decode cL_law 485 = .ok (.iconst 1, 1) := by decide +kernel
theorem dL_law_486 : decode cL_law 486 = .ok (.iadd, 1) := by decide +kernel
theorem dL_law_487 : decode cL_law 487 = .ok (.iaload, 1) := by decide +kernel
theorem dL_law_488 : decode cL_law 488 = .ok (.invokevirtual 49, 3) := by decide +kernel
theorem dL_law_491 : decode cL_law 491 = .ok (.aload_n 2, 1) := by decide +kernel
theorem dL_law_492 : decode cL_law 492 = .ok (.aload_n 0, 1) := by decide +kernel
theorem dL_law_493 : decode cL_law 493 = .ok (.iload_n 3, 1) := by decide +kernel
theorem dL_law_494 : decode cL_law 494 = .ok (.iconst 1, 1) := by decide +kernel
theorem dL_law_495 : decode cL_law 495 = .ok (.iadd, 1) := by decide +kernel
theorem dL_law_496 : decode cL_law 496 = .ok (.iaload, 1) := by decide +kernel
theorem dL_law_497 : decode cL_law 497 = .ok (.invokevirtual 52, 3) := by decide +kernel
theorem dL_law_500 : decode cL_law 500 = .ok (.if_icmp .eq 942, 3) := by decide +kernel
theorem dL_law_503 : decode cL_law 503 = .ok (.iconst 0, 1) := by decide +kernel
theorem dL_law_504 : decode cL_law 504 = .ok (.ireturn, 1) := by decide +kernel
theorem dL_law_505 : decode cL_law 505 = .ok (.aload_n 1, 1) := by decide +kernel
theorem dL_law_506 : decode cL_law 506 = .ok (.aload_n 0, 1) := by decide +kernel
theorem dL_law_507 : decode cL_law 507 = .ok (.iload_n 3, 1) := by decide +kernel
theorem dL_law_508 : decode cL_law 508 = .ok (.iconst 1, 1) := by decide +kernel
theorem dL_law_509 : decode cL_law 509 = .ok (.iadd, 1) := by decide +kernel
theorem dL_law_510 : decode cL_law 510 = .ok (.iaload, 1) := by decide +kernel
theorem dL_law_511 : decode cL_law 511 = .ok (.invokevirtual 53, 3) := by decide +kernel
theorem dL_law_514 : decode cL_law 514 = .ok (.aload_n 2, 1) := by decide +kernel
theorem dL_law_515 : decode cL_law 515 = .ok (.aload_n 0, 1) := by decide +kernel
theorem dL_law_516 : decode cL_law 516 = .ok (.iload_n 3, 1) := by decide +kernel
theorem dL_law_517 : decode cL_law 517 = .ok (.iconst 1, 1) := by decide +kernel
theorem dL_law_518 : decode cL_law 518 = .ok (.iadd, 1) := by decide +kernel
theorem dL_law_519 : decode cL_law 519 = .ok (.iaload, 1) := by decide +kernel
theorem dL_law_520 : decode cL_law 520 = .ok (.invokevirtual 56, 3) := by decide +kernel
theorem dL_law_523 : decode cL_law 523 = .ok (.if_icmp .eq 919, 3) := by decide +kernel
theorem dL_law_526 : decode cL_law 526 = .ok (.iconst 0, 1) := by decide +kernel
theorem dL_law_527 : decode cL_law 527 = .ok (.ireturn, 1) := by decide +kernel
theorem dL_law_528 : decode cL_law 528 = .ok (.aload_n 1, 1) := by decide +kernel
theorem dL_law_529 : decode cL_law 529 = .ok (.aload_n 0, 1) := by decide +kernel
theorem dL_law_530 : decode cL_law 530 = .ok (.iload_n 3, 1) := by decide +kernel
theorem dL_law_531 : decode cL_law 531 = .ok (.iconst 1, 1) := by decide +kernel
theorem dL_law_532 : decode cL_law 532 = .ok (.iadd, 1) := by decide +kernel
theorem dL_law_533 : decode cL_law 533 = .ok (.iaload, 1) := by decide +kernel
theorem dL_law_534 : decode cL_law 534 = .ok (.aload_n 0, 1) := by decide +kernel
theorem dL_law_535 : decode cL_law 535 = .ok (.iload_n 3, 1) := by decide +kernel
theorem dL_law_536 : decode cL_law 536 = .ok (.iconst 2, 1) := by decide +kernel
theorem dL_law_537 : decode cL_law 537 = .ok (.iadd, 1) := by decide +kernel
theorem dL_law_538 : decode cL_law 538 = .ok (.iaload, 1) := by decide +kernel
theorem dL_law_539 : decode cL_law 539 = .ok (.i2l, 1) := by decide +kernel
theorem dL_law_540 : decode cL_law 540 = .ok (.bipush 32, 2) := by decide +kernel
theorem dL_law_542 : decode cL_law 542 = .ok (.lshl, 1) := by decide +kernel
theorem dL_law_543 : decode cL_law 543 = .ok (.aload_n 0, 1) := by decide +kernel
theorem dL_law_544 : decode cL_law 544 = .ok (.iload_n 3, 1) := by decide +kernel
theorem dL_law_545 : decode cL_law 545 = .ok (.iconst 3, 1) := by decide +kernel
theorem dL_law_546 : decode cL_law 546 = .ok (.iadd, 1) := by decide +kernel
theorem dL_law_547 : decode cL_law 547 = .ok (.iaload, 1) := by decide +kernel
theorem dL_law_548 : decode cL_law 548 = .ok (.i2l, 1) := by decide +kernel
theorem dL_law_549 : decode cL_law 549 = .ok (.ldc2_w 57, 3) := by decide +kernel
theorem dL_law_552 : decode cL_law 552 = .ok (.land, 1) := by decide +kernel
theorem dL_law_553 : decode cL_law 553 = .ok (.lor, 1) := by decide +kernel
theorem dL_law_554 : decode cL_law 554 = .ok (.invokevirtual 59, 3) := by decide +kernel
theorem dL_law_557 : decode cL_law 557 = .ok (.aload_n 2, 1) := by decide +kernel
theorem dL_law_558 : decode cL_law 558 = .ok (.aload_n 0, 1) := by decide +kernel
theorem dL_law_559 : decode cL_law 559 = .ok (.iload_n 3, 1) := by decide +kernel
theorem dL_law_560 : decode cL_law 560 = .ok (.iconst 1, 1) := by decide +kernel
theorem dL_law_561 : decode cL_law 561 = .ok (.iadd, 1) := by decide +kernel
theorem dL_law_562 : decode cL_law 562 = .ok (.iaload, 1) := by decide +kernel
theorem dL_law_563 : decode cL_law 563 = .ok (.aload_n 0, 1) := by decide +kernel
theorem dL_law_564 : decode cL_law 564 = .ok (.iload_n 3, 1) := by decide +kernel
theorem dL_law_565 : decode cL_law 565 = .ok (.iconst 2, 1) := by decide +kernel
theorem dL_law_566 : decode cL_law 566 = .ok (.iadd, 1) := by decide +kernel
theorem dL_law_567 : decode cL_law 567 = .ok (.iaload, 1) := by decide +kernel
theorem dL_law_568 : decode cL_law 568 = .ok (.i2l, 1) := by decide +kernel
theorem dL_law_569 : decode cL_law 569 = .ok (.bipush 32, 2) := by decide +kernel
theorem dL_law_571 : decode cL_law 571 = .ok (.lshl, 1) := by decide +kernel
theorem dL_law_572 : decode cL_law 572 = .ok (.aload_n 0, 1) := by decide +kernel
theorem dL_law_573 : decode cL_law 573 = .ok (.iload_n 3, 1) := by decide +kernel
theorem dL_law_574 : decode cL_law 574 = .ok (.iconst 3, 1) := by decide +kernel
theorem dL_law_575 : decode cL_law 575 = .ok (.iadd, 1) := by decide +kernel
theorem dL_law_576 : decode cL_law 576 = .ok (.iaload, 1) := by decide +kernel
theorem dL_law_577 : decode cL_law 577 = .ok (.i2l, 1) := by decide +kernel
theorem dL_law_578 : decode cL_law 578 = .ok (.ldc2_w 57, 3) := by decide +kernel
theorem dL_law_581 : decode cL_law 581 = .ok (.land, 1) := by decide +kernel
theorem dL_law_582 : decode cL_law 582 = .ok (.lor, 1) := by decide +kernel
theorem dL_law_583 : decode cL_law 583 = .ok (.invokevirtual 63, 3) := by decide +kernel
theorem dL_law_586 : decode cL_law 586 = .ok (.if_icmp .eq 856, 3) := by decide +kernel
theorem dL_law_589 : decode cL_law 589 = .ok (.iconst 0, 1) := by decide +kernel
theorem dL_law_590 : decode cL_law 590 = .ok (.ireturn, 1) := by decide +kernel
theorem dL_law_591 : decode cL_law 591 = .ok (.aload_n 1, 1) := by decide +kernel
theorem dL_law_592 : decode cL_law 592 = .ok (.aload_n 0, 1) := by decide +kernel
theorem dL_law_593 : decode cL_law 593 = .ok (.iload_n 3, 1) := by decide +kernel
theorem dL_law_594 : decode cL_law 594 = .ok (.iconst 1, 1) := by decide +kernel
theorem dL_law_595 : decode cL_law 595 = .ok (.iadd, 1) := by decide +kernel
theorem dL_law_596 : decode cL_law 596 = .ok (.iaload, 1) := by decide +kernel
theorem dL_law_597 : decode cL_law 597 = .ok (.aload_n 0, 1) := by decide +kernel
theorem dL_law_598 : decode cL_law 598 = .ok (.iload_n 3, 1) := by decide +kernel
theorem dL_law_599 : decode cL_law 599 = .ok (.iconst 2, 1) := by decide +kernel
theorem dL_law_600 : decode cL_law 600 = .ok (.iadd, 1) := by decide +kernel
theorem dL_law_601 : decode cL_law 601 = .ok (.iaload, 1) := by decide +kernel
theorem dL_law_602 : decode cL_law 602 = .ok (.invokevirtual 64, 3) := by decide +kernel
theorem dL_law_605 : decode cL_law 605 = .ok (.aload_n 2, 1) := by decide +kernel
theorem dL_law_606 : decode cL_law 606 = .ok (.aload_n 0, 1) := by decide +kernel
theorem dL_law_607 : decode cL_law 607 = .ok (.iload_n 3, 1) := by decide +kernel
theorem dL_law_608 : decode cL_law 608 = .ok (.iconst 1, 1) := by decide +kernel
theorem dL_law_609 : decode cL_law 609 = .ok (.iadd, 1) := by decide +kernel
theorem dL_law_610 : decode cL_law 610 = .ok (.iaload, 1) := by decide +kernel
theorem dL_law_611 : decode cL_law 611 = .ok (.aload_n 0, 1) := by decide +kernel
theorem dL_law_612 : decode cL_law 612 = .ok (.iload_n 3, 1) := by decide +kernel
theorem dL_law_613 : decode cL_law 613 = .ok (.iconst 2, 1) := by decide +kernel
theorem dL_law_614 : decode cL_law 614 = .ok (.iadd, 1) := by decide +kernel
theorem dL_law_615 : decode cL_law 615 = .ok (.iaload, 1) := by decide +kernel
theorem dL_law_616 : decode cL_law 616 = .ok (.invokevirtual 67, 3) := by decide +kernel
theorem dL_law_619 : decode cL_law 619 = .ok (.if_icmp .eq 823, 3) := by decide +kernel
theorem dL_law_622 : decode cL_law 622 = .ok (.iconst 0, 1) := by decide +kernel
theorem dL_law_623 : decode cL_law 623 = .ok (.ireturn, 1) := by decide +kernel
theorem dL_law_624 : decode cL_law 624 = .ok (.aload_n 1, 1) := by decide +kernel
theorem dL_law_625 : decode cL_law 625 = .ok (.aload_n 0, 1) := by decide +kernel
theorem dL_law_626 : decode cL_law 626 = .ok (.iload_n 3, 1) := by decide +kernel
theorem dL_law_627 : decode cL_law 627 = .ok (.iconst 1, 1) := by decide +kernel
theorem dL_law_628 : decode cL_law 628 = .ok (.iadd, 1) := by decide +kernel
theorem dL_law_629 : decode cL_law 629 = .ok (.iaload, 1) := by decide +kernel
theorem dL_law_630 : decode cL_law 630 = .ok (.aload_n 0, 1) := by decide +kernel
theorem dL_law_631 : decode cL_law 631 = .ok (.iload_n 3, 1) := by decide +kernel
theorem dL_law_632 : decode cL_law 632 = .ok (.iconst 2, 1) := by decide +kernel
theorem dL_law_633 : decode cL_law 633 = .ok (.iadd, 1) := by decide +kernel
theorem dL_law_634 : decode cL_law 634 = .ok (.iaload, 1) := by decide +kernel
theorem dL_law_635 : decode cL_law 635 = .ok (.invokevirtual 68, 3) := by decide +kernel
theorem dL_law_638 : decode cL_law 638 = .ok (.aload_n 2, 1) := by decide +kernel
theorem dL_law_639 : decode cL_law 639 = .ok (.aload_n 0, 1) := by decide +kernel
theorem dL_law_640 : decode cL_law 640 = .ok (.iload_n 3, 1) := by decide +kernel
theorem dL_law_641 : decode cL_law 641 = .ok (.iconst 1, 1) := by decide +kernel
theorem dL_law_642 : decode cL_law 642 = .ok (.iadd, 1) := by decide +kernel
theorem dL_law_643 : decode cL_law 643 = .ok (.iaload, 1) := by decide +kernel
theorem dL_law_644 : decode cL_law 644 = .ok (.aload_n 0, 1) := by decide +kernel
theorem dL_law_645 : decode cL_law 645 = .ok (.iload_n 3, 1) := by decide +kernel
theorem dL_law_646 : decode cL_law 646 = .ok (.iconst 2, 1) := by decide +kernel
theorem dL_law_647 : decode cL_law 647 = .ok (.iadd, 1) := by decide +kernel
theorem dL_law_648 : decode cL_law 648 = .ok (.iaload, 1) := by decide +kernel
theorem dL_law_649 : decode cL_law 649 = .ok (.invokevirtual 71, 3) := by decide +kernel
theorem dL_law_652 : decode cL_law 652 = .ok (.if_icmp .eq 790, 3) := by decide +kernel
theorem dL_law_655 : decode cL_law 655 = .ok (.iconst 0, 1) := by decide +kernel
theorem dL_law_656 : decode cL_law 656 = .ok (.ireturn, 1) := by decide +kernel
theorem dL_law_657 : decode cL_law 657 = .ok (.aload_n 1, 1) := by decide +kernel
theorem dL_law_658 : decode cL_law 658 = .ok (.aload_n 0, 1) := by decide +kernel
theorem dL_law_659 : decode cL_law 659 = .ok (.iload_n 3, 1) := by decide +kernel
theorem dL_law_660 : decode cL_law 660 = .ok (.iconst 1, 1) := by decide +kernel
theorem dL_law_661 : decode cL_law 661 = .ok (.iadd, 1) := by decide +kernel
theorem dL_law_662 : decode cL_law 662 = .ok (.iaload, 1) := by decide +kernel
theorem dL_law_663 : decode cL_law 663 = .ok (.invokevirtual 72, 3) := by decide +kernel
theorem dL_law_666 : decode cL_law 666 = .ok (.aload_n 2, 1) := by decide +kernel
theorem dL_law_667 : decode cL_law 667 = .ok (.aload_n 0, 1) := by decide +kernel
theorem dL_law_668 : decode cL_law 668 = .ok (.iload_n 3, 1) := by decide +kernel
theorem dL_law_669 : decode cL_law 669 = .ok (.iconst 1, 1) := by decide +kernel
theorem dL_law_670 : decode cL_law 670 = .ok (.iadd, 1) := by decide +kernel
theorem dL_law_671 : decode cL_law 671 = .ok (.iaload, 1) := by decide +kernel
theorem dL_law_672 : decode cL_law 672 = .ok (.invokevirtual 75, 3) := by decide +kernel
theorem dL_law_675 : decode cL_law 675 = .ok (.if_icmp .eq 767, 3) := by decide +kernel
theorem dL_law_678 : decode cL_law 678 = .ok (.iconst 0, 1) := by decide +kernel
theorem dL_law_679 : decode cL_law 679 = .ok (.ireturn, 1) := by decide +kernel
theorem dL_law_680 : decode cL_law 680 = .ok (.aload_n 1, 1) := by decide +kernel
theorem dL_law_681 : decode cL_law 681 = .ok (.aload_n 0, 1) := by decide +kernel
theorem dL_law_682 : decode cL_law 682 = .ok (.iload_n 3, 1) := by decide +kernel
theorem dL_law_683 : decode cL_law 683 = .ok (.iconst 1, 1) := by decide +kernel
theorem dL_law_684 : decode cL_law 684 = .ok (.iadd, 1) := by decide +kernel
theorem dL_law_685 : decode cL_law 685 = .ok (.iaload, 1) := by decide +kernel
theorem dL_law_686 : decode cL_law 686 = .ok (.aload_n 0, 1) := by decide +kernel
theorem dL_law_687 : decode cL_law 687 = .ok (.iload_n 3, 1) := by decide +kernel
theorem dL_law_688 : decode cL_law 688 = .ok (.iconst 2, 1) := by decide +kernel
theorem dL_law_689 : decode cL_law 689 = .ok (.iadd, 1) := by decide +kernel
theorem dL_law_690 : decode cL_law 690 = .ok (.iaload, 1) := by decide +kernel
theorem dL_law_691 : decode cL_law 691 = .ok (.invokevirtual 76, 3) := by decide +kernel
theorem dL_law_694 : decode cL_law 694 = .ok (.aload_n 2, 1) := by decide +kernel
theorem dL_law_695 : decode cL_law 695 = .ok (.aload_n 0, 1) := by decide +kernel
theorem dL_law_696 : decode cL_law 696 = .ok (.iload_n 3, 1) := by decide +kernel
theorem dL_law_697 : decode cL_law 697 = .ok (.iconst 1, 1) := by decide +kernel
theorem dL_law_698 : decode cL_law 698 = .ok (.iadd, 1) := by decide +kernel
theorem dL_law_699 : decode cL_law 699 = .ok (.iaload, 1) := by decide +kernel
theorem dL_law_700 : decode cL_law 700 = .ok (.aload_n 0, 1) := by decide +kernel
theorem dL_law_701 : decode cL_law 701 = .ok (.iload_n 3, 1) := by decide +kernel
theorem dL_law_702 : decode cL_law 702 = .ok (.iconst 2, 1) := by decide +kernel
theorem dL_law_703 : decode cL_law 703 = .ok (.iadd, 1) := by decide +kernel
theorem dL_law_704 : decode cL_law 704 = .ok (.iaload, 1) := by decide +kernel
theorem dL_law_705 : decode cL_law 705 = .ok (.invokevirtual 79, 3) := by decide +kernel
theorem dL_law_708 : decode cL_law 708 = .ok (.if_icmp .eq 734, 3) := by decide +kernel
theorem dL_law_711 : decode cL_law 711 = .ok (.iconst 0, 1) := by decide +kernel
theorem dL_law_712 : decode cL_law 712 = .ok (.ireturn, 1) := by decide +kernel
theorem dL_law_713 : decode cL_law 713 = .ok (.aload_n 1, 1) := by decide +kernel
theorem dL_law_714 : decode cL_law 714 = .ok (.aload_n 0, 1) := by decide +kernel
theorem dL_law_715 : decode cL_law 715 = .ok (.iload_n 3, 1) := by decide +kernel
theorem dL_law_716 : decode cL_law 716 = .ok (.iconst 1, 1) := by decide +kernel
theorem dL_law_717 : decode cL_law 717 = .ok (.iadd, 1) := by decide +kernel
theorem dL_law_718 : decode cL_law 718 = .ok (.iaload, 1) := by decide +kernel
theorem dL_law_719 : decode cL_law 719 = .ok (.aload_n 0, 1) := by decide +kernel
theorem dL_law_720 : decode cL_law 720 = .ok (.iload_n 3, 1) := by decide +kernel
theorem dL_law_721 : decode cL_law 721 = .ok (.iconst 2, 1) := by decide +kernel
theorem dL_law_722 : decode cL_law 722 = .ok (.iadd, 1) := by decide +kernel
theorem dL_law_723 : decode cL_law 723 = .ok (.iaload, 1) := by decide +kernel
theorem dL_law_724 : decode cL_law 724 = .ok (.invokevirtual 80, 3) := by decide +kernel
theorem dL_law_727 : decode cL_law 727 = .ok (.aload_n 2, 1) := by decide +kernel
theorem dL_law_728 : decode cL_law 728 = .ok (.aload_n 0, 1) := by decide +kernel
theorem dL_law_729 : decode cL_law 729 = .ok (.iload_n 3, 1) := by decide +kernel
theorem dL_law_730 : decode cL_law 730 = .ok (.iconst 1, 1) := by decide +kernel
theorem dL_law_731 : decode cL_law 731 = .ok (.iadd, 1) := by decide +kernel
theorem dL_law_732 : decode cL_law 732 = .ok (.iaload, 1) := by decide +kernel
theorem dL_law_733 : decode cL_law 733 = .ok (.aload_n 0, 1) := by decide +kernel
theorem dL_law_734 : decode cL_law 734 = .ok (.iload_n 3, 1) := by decide +kernel
theorem dL_law_735 : decode cL_law 735 = .ok (.iconst 2, 1) := by decide +kernel
theorem dL_law_736 : decode cL_law 736 = .ok (.iadd, 1) := by decide +kernel
theorem dL_law_737 : decode cL_law 737 = .ok (.iaload, 1) := by decide +kernel
theorem dL_law_738 : decode cL_law 738 = .ok (.invokevirtual 83, 3) := by decide +kernel
theorem dL_law_741 : decode cL_law 741 = .ok (.if_icmp .eq 701, 3) := by decide +kernel
theorem dL_law_744 : decode cL_law 744 = .ok (.iconst 0, 1) := by decide +kernel
theorem dL_law_745 : decode cL_law 745 = .ok (.ireturn, 1) := by decide +kernel
theorem dL_law_746 : decode cL_law 746 = .ok (.aload_n 1, 1) := by decide +kernel
theorem dL_law_747 : decode cL_law 747 = .ok (.aload_n 0, 1) := by decide +kernel
theorem dL_law_748 : decode cL_law 748 = .ok (.iload_n 3, 1) := by decide +kernel
theorem dL_law_749 : decode cL_law 749 = .ok (.iconst 1, 1) := by decide +kernel
theorem dL_law_750 : decode cL_law 750 = .ok (.iadd, 1) := by decide +kernel
theorem dL_law_751 : decode cL_law 751 = .ok (.iaload, 1) := by decide +kernel
theorem dL_law_752 : decode cL_law 752 = .ok (.aload_n 0, 1) := by decide +kernel
theorem dL_law_753 : decode cL_law 753 = .ok (.iload_n 3, 1) := by decide +kernel
theorem dL_law_754 : decode cL_law 754 = .ok (.iconst 2, 1) := by decide +kernel
theorem dL_law_755 : decode cL_law 755 = .ok (.iadd, 1) := by decide +kernel
theorem dL_law_756 : decode cL_law 756 = .ok (.iaload, 1) := by decide +kernel
theorem dL_law_757 : decode cL_law 757 = .ok (.invokevirtual 84, 3) := by decide +kernel
theorem dL_law_760 : decode cL_law 760 = .ok (.aload_n 2, 1) := by decide +kernel
theorem dL_law_761 : decode cL_law 761 = .ok (.aload_n 0, 1) := by decide +kernel
theorem dL_law_762 : decode cL_law 762 = .ok (.iload_n 3, 1) := by decide +kernel
theorem dL_law_763 : decode cL_law 763 = .ok (.iconst 1, 1) := by decide +kernel
theorem dL_law_764 : decode cL_law 764 = .ok (.iadd, 1) := by decide +kernel
theorem dL_law_765 : decode cL_law 765 = .ok (.iaload, 1) := by decide +kernel
theorem dL_law_766 : decode cL_law 766 = .ok (.aload_n 0, 1) := by decide +kernel
theorem dL_law_767 : decode cL_law 767 = .ok (.iload_n 3, 1) := by decide +kernel
theorem dL_law_768 : decode cL_law 768 = .ok (.iconst 2, 1) := by decide +kernel
theorem dL_law_769 : decode cL_law 769 = .ok (.iadd, 1) := by decide +kernel
theorem dL_law_770 : decode cL_law 770 = .ok (.iaload, 1) := by decide +kernel
theorem dL_law_771 : decode cL_law 771 = .ok (.invokevirtual 87, 3) := by decide +kernel
theorem dL_law_774 : decode cL_law 774 = .ok (.if_icmp .eq 668, 3) := by decide +kernel
theorem dL_law_777 : decode cL_law 777 = .ok (.iconst 0, 1) := by decide +kernel
theorem dL_law_778 : decode cL_law 778 = .ok (.ireturn, 1) := by decide +kernel
theorem dL_law_779 : decode cL_law 779 = .ok (.aload_n 1, 1) := by decide +kernel
theorem dL_law_780 : decode cL_law 780 = .ok (.invokevirtual 88, 3) := by decide +kernel
theorem dL_law_783 : decode cL_law 783 = .ok (.aload_n 2, 1) := by decide +kernel
theorem dL_law_784 : decode cL_law 784 = .ok (.invokevirtual 92, 3) := by decide +kernel
theorem dL_law_787 : decode cL_law 787 = .ok (.if_icmp .eq 655, 3) := by decide +kernel
theorem dL_law_790 : decode cL_law 790 = .ok (.iconst 0, 1) := by decide +kernel
theorem dL_law_791 : decode cL_law 791 = .ok (.ireturn, 1) := by decide +kernel
theorem dL_law_792 : decode cL_law 792 = .ok (.aload_n 1, 1) := by decide +kernel
theorem dL_law_793 : decode cL_law 793 = .ok (.aload_n 0, 1) := by decide +kernel
theorem dL_law_794 : decode cL_law 794 = .ok (.iload_n 3, 1) := by decide +kernel
theorem dL_law_795 : decode cL_law 795 = .ok (.iconst 1, 1) := by decide +kernel
theorem dL_law_796 : decode cL_law 796 = .ok (.iadd, 1) := by decide +kernel
theorem dL_law_797 : decode cL_law 797 = .ok (.iaload, 1) := by decide +kernel
theorem dL_law_798 : decode cL_law 798 = .ok (.aload_n 0, 1) := by decide +kernel
theorem dL_law_799 : decode cL_law 799 = .ok (.iload_n 3, 1) := by decide +kernel
theorem dL_law_800 : decode cL_law 800 = .ok (.iconst 2, 1) := by decide +kernel
theorem dL_law_801 : decode cL_law 801 = .ok (.iadd, 1) := by decide +kernel
theorem dL_law_802 : decode cL_law 802 = .ok (.iaload, 1) := by decide +kernel
theorem dL_law_803 : decode cL_law 803 = .ok (.invokevirtual 93, 3) := by decide +kernel
theorem dL_law_806 : decode cL_law 806 = .ok (.aload_n 2, 1) := by decide +kernel
theorem dL_law_807 : decode cL_law 807 = .ok (.aload_n 0, 1) := by decide +kernel
theorem dL_law_808 : decode cL_law 808 = .ok (.iload_n 3, 1) := by decide +kernel
theorem dL_law_809 : decode cL_law 809 = .ok (.iconst 1, 1) := by decide +kernel
theorem dL_law_810 : decode cL_law 810 = .ok (.iadd, 1) := by decide +kernel
theorem dL_law_811 : decode cL_law 811 = .ok (.iaload, 1) := by decide +kernel
theorem dL_law_812 : decode cL_law 812 = .ok (.aload_n 0, 1) := by decide +kernel
theorem dL_law_813 : decode cL_law 813 = .ok (.iload_n 3, 1) := by decide +kernel
theorem dL_law_814 : decode cL_law 814 = .ok (.iconst 2, 1) := by decide +kernel
theorem dL_law_815 : decode cL_law 815 = .ok (.iadd, 1) := by decide +kernel
theorem dL_law_816 : decode cL_law 816 = .ok (.iaload, 1) := by decide +kernel
theorem dL_law_817 : decode cL_law 817 = .ok (.invokevirtual 96, 3) := by decide +kernel
theorem dL_law_820 : decode cL_law 820 = .ok (.if_icmp .eq 622, 3) := by decide +kernel
theorem dL_law_823 : decode cL_law 823 = .ok (.iconst 0, 1) := by decide +kernel
theorem dL_law_824 : decode cL_law 824 = .ok (.ireturn, 1) := by decide +kernel
theorem dL_law_825 : decode cL_law 825 = .ok (.aload_n 1, 1) := by decide +kernel
theorem dL_law_826 : decode cL_law 826 = .ok (.aload_n 0, 1) := by decide +kernel
theorem dL_law_827 : decode cL_law 827 = .ok (.iload_n 3, 1) := by decide +kernel
theorem dL_law_828 : decode cL_law 828 = .ok (.iconst 1, 1) := by decide +kernel
theorem dL_law_829 : decode cL_law 829 = .ok (.iadd, 1) := by decide +kernel
theorem dL_law_830 : decode cL_law 830 = .ok (.iaload, 1) := by decide +kernel
theorem dL_law_831 : decode cL_law 831 = .ok (.aload_n 0, 1) := by decide +kernel
theorem dL_law_832 : decode cL_law 832 = .ok (.iload_n 3, 1) := by decide +kernel
theorem dL_law_833 : decode cL_law 833 = .ok (.iconst 2, 1) := by decide +kernel
theorem dL_law_834 : decode cL_law 834 = .ok (.iadd, 1) := by decide +kernel
theorem dL_law_835 : decode cL_law 835 = .ok (.iaload, 1) := by decide +kernel
theorem dL_law_836 : decode cL_law 836 = .ok (.aload_n 0, 1) := by decide +kernel
theorem dL_law_837 : decode cL_law 837 = .ok (.iload_n 3, 1) := by decide +kernel
theorem dL_law_838 : decode cL_law 838 = .ok (.iconst 3, 1) := by decide +kernel
theorem dL_law_839 : decode cL_law 839 = .ok (.iadd, 1) := by decide +kernel
theorem dL_law_840 : decode cL_law 840 = .ok (.iaload, 1) := by decide +kernel
theorem dL_law_841 : decode cL_law 841 = .ok (.invokevirtual 97, 3) := by decide +kernel
theorem dL_law_844 : decode cL_law 844 = .ok (.aload_n 2, 1) := by decide +kernel
theorem dL_law_845 : decode cL_law 845 = .ok (.aload_n 0, 1) := by decide +kernel
theorem dL_law_846 : decode cL_law 846 = .ok (.iload_n 3, 1) := by decide +kernel
theorem dL_law_847 : decode cL_law 847 = .ok (.iconst 1, 1) := by decide +kernel
theorem dL_law_848 : decode cL_law 848 = .ok (.iadd, 1) := by decide +kernel
theorem dL_law_849 : decode cL_law 849 = .ok (.iaload, 1) := by decide +kernel
theorem dL_law_850 : decode cL_law 850 = .ok (.aload_n 0, 1) := by decide +kernel
theorem dL_law_851 : decode cL_law 851 = .ok (.iload_n 3, 1) := by decide +kernel
theorem dL_law_852 : decode cL_law 852 = .ok (.iconst 2, 1) := by decide +kernel
theorem dL_law_853 : decode cL_law 853 = .ok (.iadd, 1) := by decide +kernel
theorem dL_law_854 : decode cL_law 854 = .ok (.iaload, 1) := by decide +kernel
theorem dL_law_855 : decode cL_law 855 = .ok (.aload_n 0, 1) := by decide +kernel
theorem dL_law_856 : decode cL_law 856 = .ok (.iload_n 3, 1) := by decide +kernel
theorem dL_law_857 : decode cL_law 857 = .ok (.iconst 3, 1) := by decide +kernel
theorem dL_law_858 : decode cL_law 858 = .ok (.iadd, 1) := by decide +kernel
theorem dL_law_859 : decode cL_law 859 = .ok (.iaload, 1) := by decide +kernel
theorem dL_law_860 : decode cL_law 860 = .ok (.invokevirtual 100, 3) := by decide +kernel
theorem dL_law_863 : decode cL_law 863 = .ok (.if_icmp .eq 579, 3) := by decide +kernel
theorem dL_law_866 : decode cL_law 866 = .ok (.iconst 0, 1) := by decide +kernel
theorem dL_law_867 : decode cL_law 867 = .ok (.ireturn, 1) := by decide +kernel
theorem dL_law_868 : decode cL_law 868 = .ok (.aload_n 1, 1) := by decide +kernel
theorem dL_law_869 : decode cL_law 869 = .ok (.aload_n 0, 1) := by decide +kernel
theorem dL_law_870 : decode cL_law 870 = .ok (.iload_n 3, 1) := by decide +kernel
theorem dL_law_871 : decode cL_law 871 = .ok (.iconst 1, 1) := by decide +kernel
theorem dL_law_872 : decode cL_law 872 = .ok (.iadd, 1) := by decide +kernel
theorem dL_law_873 : decode cL_law 873 = .ok (.iaload, 1) := by decide +kernel
theorem dL_law_874 : decode cL_law 874 = .ok (.aload_n 0, 1) := by decide +kernel
theorem dL_law_875 : decode cL_law 875 = .ok (.iload_n 3, 1) := by decide +kernel
theorem dL_law_876 : decode cL_law 876 = .ok (.iconst 2, 1) := by decide +kernel
theorem dL_law_877 : decode cL_law 877 = .ok (.iadd, 1) := by decide +kernel
theorem dL_law_878 : decode cL_law 878 = .ok (.iaload, 1) := by decide +kernel
theorem dL_law_879 : decode cL_law 879 = .ok (.invokevirtual 101, 3) := by decide +kernel
theorem dL_law_882 : decode cL_law 882 = .ok (.aload_n 2, 1) := by decide +kernel
theorem dL_law_883 : decode cL_law 883 = .ok (.aload_n 0, 1) := by decide +kernel
theorem dL_law_884 : decode cL_law 884 = .ok (.iload_n 3, 1) := by decide +kernel
theorem dL_law_885 : decode cL_law 885 = .ok (.iconst 1, 1) := by decide +kernel
theorem dL_law_886 : decode cL_law 886 = .ok (.iadd, 1) := by decide +kernel
theorem dL_law_887 : decode cL_law 887 = .ok (.iaload, 1) := by decide +kernel
theorem dL_law_888 : decode cL_law 888 = .ok (.aload_n 0, 1) := by decide +kernel
theorem dL_law_889 : decode cL_law 889 = .ok (.iload_n 3, 1) := by decide +kernel
theorem dL_law_890 : decode cL_law 890 = .ok (.iconst 2, 1) := by decide +kernel
theorem dL_law_891 : decode cL_law 891 = .ok (.iadd, 1) := by decide +kernel
theorem dL_law_892 : decode cL_law 892 = .ok (.iaload, 1) := by decide +kernel
theorem dL_law_893 : decode cL_law 893 = .ok (.invokevirtual 104, 3) := by decide +kernel
theorem dL_law_896 : decode cL_law 896 = .ok (.if_icmp .eq 546, 3) := by decide +kernel
theorem dL_law_899 : decode cL_law 899 = .ok (.iconst 0, 1) := by decide +kernel
theorem dL_law_900 : decode cL_law 900 = .ok (.ireturn, 1) := by decide +kernel
theorem dL_law_901 : decode cL_law 901 = .ok (.aload_n 1, 1) := by decide +kernel
theorem dL_law_902 : decode cL_law 902 = .ok (.invokevirtual 105, 3) := by decide +kernel
theorem dL_law_905 : decode cL_law 905 = .ok (.aload_n 2, 1) := by decide +kernel
theorem dL_law_906 : decode cL_law 906 = .ok (.invokevirtual 108, 3) := by decide +kernel
theorem dL_law_909 : decode cL_law 909 = .ok (.if_icmp .eq 533, 3) := by decide +kernel
theorem dL_law_912 : decode cL_law 912 = .ok (.iconst 0, 1) := by decide +kernel
theorem dL_law_913 : decode cL_law 913 = .ok (.ireturn, 1) := by decide +kernel
theorem dL_law_914 : decode cL_law 914 = .ok (.aload_n 1, 1) := by decide +kernel
theorem dL_law_915 : decode cL_law 915 = .ok (.aload_n 0, 1) := by decide +kernel
theorem dL_law_916 : decode cL_law 916 = .ok (.iload_n 3, 1) := by decide +kernel
theorem dL_law_917 : decode cL_law 917 = .ok (.iconst 1, 1) := by decide +kernel
theorem dL_law_918 : decode cL_law 918 = .ok (.iadd, 1) := by decide +kernel
theorem dL_law_919 : decode cL_law 919 = .ok (.iaload, 1) := by decide +kernel
theorem dL_law_920 : decode cL_law 920 = .ok (.aload_n 0, 1) := by decide +kernel
theorem dL_law_921 : decode cL_law 921 = .ok (.iload_n 3, 1) := by decide +kernel
theorem dL_law_922 : decode cL_law 922 = .ok (.iconst 2, 1) := by decide +kernel
theorem dL_law_923 : decode cL_law 923 = .ok (.iadd, 1) := by decide +kernel
theorem dL_law_924 : decode cL_law 924 = .ok (.iaload, 1) := by decide +kernel
theorem dL_law_925 : decode cL_law 925 = .ok (.invokevirtual 109, 3) := by decide +kernel
theorem dL_law_928 : decode cL_law 928 = .ok (.aload_n 2, 1) := by decide +kernel
theorem dL_law_929 : decode cL_law 929 = .ok (.aload_n 0, 1) := by decide +kernel
theorem dL_law_930 : decode cL_law 930 = .ok (.iload_n 3, 1) := by decide +kernel
theorem dL_law_931 : decode cL_law 931 = .ok (.iconst 1, 1) := by decide +kernel
theorem dL_law_932 : decode cL_law 932 = .ok (.iadd, 1) := by decide +kernel
theorem dL_law_933 : decode cL_law 933 = .ok (.iaload, 1) := by decide +kernel
theorem dL_law_934 : decode cL_law 934 = .ok (.aload_n 0, 1) := by decide +kernel
theorem dL_law_935 : decode cL_law 935 = .ok (.iload_n 3, 1) := by decide +kernel
theorem dL_law_936 : decode cL_law 936 = .ok (.iconst 2, 1) := by decide +kernel
theorem dL_law_937 : decode cL_law 937 = .ok (.iadd, 1) := by decide +kernel
theorem dL_law_938 : decode cL_law 938 = .ok (.iaload, 1) := by decide +kernel
theorem dL_law_939 : decode cL_law 939 = .ok (.invokevirtual 112, 3) := by decide +kernel
theorem dL_law_942 : decode cL_law 942 = .ok (.if_icmp .eq 500, 3) := by decide +kernel
theorem dL_law_945 : decode cL_law 945 = .ok (.iconst 0, 1) := by decide +kernel
theorem dL_law_946 : decode cL_law 946 = .ok (.ireturn, 1) := by decide +kernel
theorem dL_law_947 : decode cL_law 947 = .ok (.aload_n 1, 1) := by decide +kernel
theorem dL_law_948 : decode cL_law 948 = .ok (.invokevirtual 113, 3) := by decide +kernel
theorem dL_law_951 : decode cL_law 951 = .ok (.aload_n 2, 1) := by decide +kernel
theorem dL_law_952 : decode cL_law 952 = .ok (.invokevirtual 116, 3) := by decide +kernel
theorem dL_law_955 : decode cL_law 955 = .ok (.if_icmp .eq 487, 3) := by decide +kernel
theorem dL_law_958 : decode cL_law 958 = .ok (.iconst 0, 1) := by decide +kernel
theorem dL_law_959 : decode cL_law 959 = .ok (.ireturn, 1) := by decide +kernel
theorem dL_law_960 : decode cL_law 960 = .ok (.aload_n 1, 1) := by decide +kernel
theorem dL_law_961 : decode cL_law 961 = .ok (.aload_n 0, 1) := by decide +kernel
theorem dL_law_962 : decode cL_law 962 = .ok (.iload_n 3, 1) := by decide +kernel
theorem dL_law_963 : decode cL_law 963 = .ok (.iconst 1, 1) := by decide +kernel
theorem dL_law_964 : decode cL_law 964 = .ok (.iadd, 1) := by decide +kernel
theorem dL_law_965 : decode cL_law 965 = .ok (.iaload, 1) := by decide +kernel
theorem dL_law_966 : decode cL_law 966 = .ok (.aload_n 0, 1) := by decide +kernel
theorem dL_law_967 : decode cL_law 967 = .ok (.iload_n 3, 1) := by decide +kernel
theorem dL_law_968 : decode cL_law 968 = .ok (.iconst 2, 1) := by decide +kernel
theorem dL_law_969 : decode cL_law 969 = .ok (.iadd, 1) := by decide +kernel
theorem dL_law_970 : decode cL_law 970 = .ok (.iaload, 1) := by decide +kernel
theorem dL_law_971 : decode cL_law 971 = .ok (.invokevirtual 117, 3) := by decide +kernel
theorem dL_law_974 : decode cL_law 974 = .ok (.aload_n 2, 1) := by decide +kernel
theorem dL_law_975 : decode cL_law 975 = .ok (.aload_n 0, 1) := by decide +kernel
theorem dL_law_976 : decode cL_law 976 = .ok (.iload_n 3, 1) := by decide +kernel
theorem dL_law_977 : decode cL_law 977 = .ok (.iconst 1, 1) := by decide +kernel
theorem dL_law_978 : decode cL_law 978 = .ok (.iadd, 1) := by decide +kernel
theorem dL_law_979 : decode cL_law 979 = .ok (.iaload, 1) := by decide +kernel
theorem dL_law_980 : decode cL_law 980 = .ok (.aload_n 0, 1) := by decide +kernel
theorem dL_law_981 : decode cL_law 981 = .ok (.iload_n 3, 1) := by decide +kernel
theorem dL_law_982 : decode cL_law 982 = .ok (.iconst 2, 1) := by decide +kernel
theorem dL_law_983 : decode cL_law 983 = .ok (.iadd, 1) := by decide +kernel
theorem dL_law_984 : decode cL_law 984 = .ok (.iaload, 1) := by decide +kernel
theorem dL_law_985 : decode cL_law 985 = .ok (.invokevirtual 120, 3) := by decide +kernel
theorem dL_law_988 : decode cL_law 988 = .ok (.if_icmp .eq 454, 3) := by decide +kernel
theorem dL_law_991 : decode cL_law 991 = .ok (.iconst 0, 1) := by decide +kernel
theorem dL_law_992 : decode cL_law 992 = .ok (.ireturn, 1) := by decide +kernel
theorem dL_law_993 : decode cL_law 993 = .ok (.aload_n 1, 1) := by decide +kernel
theorem dL_law_994 : decode cL_law 994 = .ok (.aload_n 0, 1) := by decide +kernel
theorem dL_law_995 : decode cL_law 995 = .ok (.iload_n 3, 1) := by decide +kernel
theorem dL_law_996 : decode cL_law 996 = .ok (.iconst 1, 1) := by decide +kernel
theorem dL_law_997 : decode cL_law 997 = .ok (.iadd, 1) := by decide +kernel
theorem dL_law_998 : decode cL_law 998 = .ok (.iaload, 1) := by decide +kernel
theorem dL_law_999 : decode cL_law 999 = .ok (.invokevirtual 121, 3) := by decide +kernel
theorem dL_law_1002 : decode cL_law 1002 = .ok (.aload_n 2, 1) := by decide +kernel
theorem dL_law_1003 : decode cL_law 1003 = .ok (.aload_n 0, 1) := by decide +kernel
theorem dL_law_1004 : decode cL_law 1004 = .ok (.iload_n 3, 1) := by decide +kernel
theorem dL_law_1005 : decode cL_law 1005 = .ok (.iconst 1, 1) := by decide +kernel
theorem dL_law_1006 : decode cL_law 1006 = .ok (.iadd, 1) := by decide +kernel
theorem dL_law_1007 : decode cL_law 1007 = .ok (.iaload, 1) := by decide +kernel
theorem dL_law_1008 : decode cL_law 1008 = .ok (.invokevirtual 124, 3) := by decide +kernel
theorem dL_law_1011 : decode cL_law 1011 = .ok (.if_icmp .eq 431, 3) := by decide +kernel
theorem dL_law_1014 : decode cL_law 1014 = .ok (.iconst 0, 1) := by decide +kernel
theorem dL_law_1015 : decode cL_law 1015 = .ok (.ireturn, 1) := by decide +kernel
theorem dL_law_1016 : decode cL_law 1016 = .ok (.aload_n 1, 1) := by decide +kernel
theorem dL_law_1017 : decode cL_law 1017 = .ok (.aload_n 0, 1) := by decide +kernel
theorem dL_law_1018 : decode cL_law 1018 = .ok (.iload_n 3, 1) := by decide +kernel
theorem dL_law_1019 : decode cL_law 1019 = .ok (.iconst 1, 1) := by decide +kernel
theorem dL_law_1020 : decode cL_law 1020 = .ok (.iadd, 1) := by decide +kernel
theorem dL_law_1021 : decode cL_law 1021 = .ok (.iaload, 1) := by decide +kernel
theorem dL_law_1022 : decode cL_law 1022 = .ok (.invokevirtual 125, 3) := by decide +kernel
theorem dL_law_1025 : decode cL_law 1025 = .ok (.aload_n 2, 1) := by decide +kernel
theorem dL_law_1026 : decode cL_law 1026 = .ok (.aload_n 0, 1) := by decide +kernel
theorem dL_law_1027 : decode cL_law 1027 = .ok (.iload_n 3, 1) := by decide +kernel
theorem dL_law_1028 : decode cL_law 1028 = .ok (.iconst 1, 1) := by decide +kernel
theorem dL_law_1029 : decode cL_law 1029 = .ok (.iadd, 1) := by decide +kernel
theorem dL_law_1030 : decode cL_law 1030 = .ok (.iaload, 1) := by decide +kernel
theorem dL_law_1031 : decode cL_law 1031 = .ok (.invokevirtual 128, 3) := by decide +kernel
theorem dL_law_1034 : decode cL_law 1034 = .ok (.if_icmp .eq 408, 3) := by decide +kernel
theorem dL_law_1037 : decode cL_law 1037 = .ok (.iconst 0, 1) := by decide +kernel
theorem dL_law_1038 : decode cL_law 1038 = .ok (.ireturn, 1) := by decide +kernel
theorem dL_law_1039 : decode cL_law 1039 = .ok (.aload_n 1, 1) := by decide +kernel
theorem dL_law_1040 : decode cL_law 1040 = .ok (.aload_n 0, 1) := by decide +kernel
theorem dL_law_1041 : decode cL_law 1041 = .ok (.iload_n 3, 1) := by decide +kernel
theorem dL_law_1042 : decode cL_law 1042 = .ok (.iconst 1, 1) := by decide +kernel
theorem dL_law_1043 : decode cL_law 1043 = .ok (.iadd, 1) := by decide +kernel
theorem dL_law_1044 : decode cL_law 1044 = .ok (.iaload, 1) := by decide +kernel
theorem dL_law_1045 : decode cL_law 1045 = .ok (.invokevirtual 129, 3) := by decide +kernel
theorem dL_law_1048 : decode cL_law 1048 = .ok (.aload_n 2, 1) := by decide +kernel
theorem dL_law_1049 : decode cL_law 1049 = .ok (.aload_n 0, 1) := by decide +kernel
theorem dL_law_1050 : decode cL_law 1050 = .ok (.iload_n 3, 1) := by decide +kernel
theorem dL_law_1051 : decode cL_law 1051 = .ok (.iconst 1, 1) := by decide +kernel
theorem dL_law_1052 : decode cL_law 1052 = .ok (.iadd, 1) := by decide +kernel
theorem dL_law_1053 : decode cL_law 1053 = .ok (.iaload, 1) := by decide +kernel
theorem dL_law_1054 : decode cL_law 1054 = .ok (.invokevirtual 132, 3) := by decide +kernel
theorem dL_law_1057 : decode cL_law 1057 = .ok (.if_icmp .eq 385, 3) := by decide +kernel
theorem dL_law_1060 : decode cL_law 1060 = .ok (.iconst 0, 1) := by decide +kernel
theorem dL_law_1061 : decode cL_law 1061 = .ok (.ireturn, 1) := by decide +kernel
theorem dL_law_1062 : decode cL_law 1062 = .ok (.aload_n 1, 1) := by decide +kernel
theorem dL_law_1063 : decode cL_law 1063 = .ok (.aload_n 0, 1) := by decide +kernel
theorem dL_law_1064 : decode cL_law 1064 = .ok (.iload_n 3, 1) := by decide +kernel
theorem dL_law_1065 : decode cL_law 1065 = .ok (.iconst 1, 1) := by decide +kernel
theorem dL_law_1066 : decode cL_law 1066 = .ok (.iadd, 1) := by decide +kernel
theorem dL_law_1067 : decode cL_law 1067 = .ok (.iaload, 1) := by decide +kernel
theorem dL_law_1068 : decode cL_law 1068 = .ok (.invokevirtual 133, 3) := by decide +kernel
theorem dL_law_1071 : decode cL_law 1071 = .ok (.aload_n 2, 1) := by decide +kernel
theorem dL_law_1072 : decode cL_law 1072 = .ok (.aload_n 0, 1) := by decide +kernel
theorem dL_law_1073 : decode cL_law 1073 = .ok (.iload_n 3, 1) := by decide +kernel
theorem dL_law_1074 : decode cL_law 1074 = .ok (.iconst 1, 1) := by decide +kernel
theorem dL_law_1075 : decode cL_law 1075 = .ok (.iadd, 1) := by decide +kernel
theorem dL_law_1076 : decode cL_law 1076 = .ok (.iaload, 1) := by decide +kernel
theorem dL_law_1077 : decode cL_law 1077 = .ok (.invokevirtual 136, 3) := by decide +kernel
theorem dL_law_1080 : decode cL_law 1080 = .ok (.if_icmp .eq 362, 3) := by decide +kernel
theorem dL_law_1083 : decode cL_law 1083 = .ok (.iconst 0, 1) := by decide +kernel
theorem dL_law_1084 : decode cL_law 1084 = .ok (.ireturn, 1) := by decide +kernel
theorem dL_law_1085 : decode cL_law 1085 = .ok (.aload_n 1, 1) := by decide +kernel
theorem dL_law_1086 : decode cL_law 1086 = .ok (.aload_n 0, 1) := by decide +kernel
theorem dL_law_1087 : decode cL_law 1087 = .ok (.iload_n 3, 1) := by decide +kernel
theorem dL_law_1088 : decode cL_law 1088 = .ok (.iconst 1, 1) := by decide +kernel
theorem dL_law_1089 : decode cL_law 1089 = .ok (.iadd, 1) := by decide +kernel
theorem dL_law_1090 : decode cL_law 1090 = .ok (.iaload, 1) := by decide +kernel
theorem dL_law_1091 : decode cL_law 1091 = .ok (.aload_n 0, 1) := by decide +kernel
theorem dL_law_1092 : decode cL_law 1092 = .ok (.iload_n 3, 1) := by decide +kernel
theorem dL_law_1093 : decode cL_law 1093 = .ok (.iconst 2, 1) := by decide +kernel
theorem dL_law_1094 : decode cL_law 1094 = .ok (.iadd, 1) := by decide +kernel
theorem dL_law_1095 : decode cL_law 1095 = .ok (.iaload, 1) := by decide +kernel
theorem dL_law_1096 : decode cL_law 1096 = .ok (.aload_n 0, 1) := by decide +kernel
theorem dL_law_1097 : decode cL_law 1097 = .ok (.iload_n 3, 1) := by decide +kernel
theorem dL_law_1098 : decode cL_law 1098 = .ok (.iconst 3, 1) := by decide +kernel
theorem dL_law_1099 : decode cL_law 1099 = .ok (.iadd, 1) := by decide +kernel
theorem dL_law_1100 : decode cL_law 1100 = .ok (.iaload, 1) := by decide +kernel
theorem dL_law_1101 : decode cL_law 1101 = .ok (.invokevirtual 137, 3) := by decide +kernel
theorem dL_law_1104 : decode cL_law 1104 = .ok (.aload_n 2, 1) := by decide +kernel
theorem dL_law_1105 : decode cL_law 1105 = .ok (.aload_n 0, 1) := by decide +kernel
theorem dL_law_1106 : decode cL_law 1106 = .ok (.iload_n 3, 1) := by decide +kernel
theorem dL_law_1107 : decode cL_law 1107 = .ok (.iconst 1, 1) := by decide +kernel
theorem dL_law_1108 : decode cL_law 1108 = .ok (.iadd, 1) := by decide +kernel
theorem dL_law_1109 : decode cL_law 1109 = .ok (.iaload, 1) := by decide +kernel
theorem dL_law_1110 : decode cL_law 1110 = .ok (.aload_n 0, 1) := by decide +kernel
theorem dL_law_1111 : decode cL_law 1111 = .ok (.iload_n 3, 1) := by decide +kernel
theorem dL_law_1112 : decode cL_law 1112 = .ok (.iconst 2, 1) := by decide +kernel
theorem dL_law_1113 : decode cL_law 1113 = .ok (.iadd, 1) := by decide +kernel
theorem dL_law_1114 : decode cL_law 1114 = .ok (.iaload, 1) := by decide +kernel
theorem dL_law_1115 : decode cL_law 1115 = .ok (.aload_n 0, 1) := by decide +kernel
theorem dL_law_1116 : decode cL_law 1116 = .ok (.iload_n 3, 1) := by decide +kernel
theorem dL_law_1117 : decode cL_law 1117 = .ok (.iconst 3, 1) := by decide +kernel
theorem dL_law_1118 : decode cL_law 1118 = .ok (.iadd, 1) := by decide +kernel
theorem dL_law_1119 : decode cL_law 1119 = .ok (.iaload, 1) := by decide +kernel
theorem dL_law_1120 : decode cL_law 1120 = .ok (.invokevirtual 140, 3) := by decide +kernel
theorem dL_law_1123 : decode cL_law 1123 = .ok (.if_icmp .eq 319, 3) := by decide +kernel
theorem dL_law_1126 : decode cL_law 1126 = .ok (.iconst 0, 1) := by decide +kernel
theorem dL_law_1127 : decode cL_law 1127 = .ok (.ireturn, 1) := by decide +kernel
theorem dL_law_1128 : decode cL_law 1128 = .ok (.aload_n 1, 1) := by decide +kernel
theorem dL_law_1129 : decode cL_law 1129 = .ok (.aload_n 0, 1) := by decide +kernel
theorem dL_law_1130 : decode cL_law 1130 = .ok (.iload_n 3, 1) := by decide +kernel
theorem dL_law_1131 : decode cL_law 1131 = .ok (.iconst 1, 1) := by decide +kernel
theorem dL_law_1132 : decode cL_law 1132 = .ok (.iadd, 1) := by decide +kernel
theorem dL_law_1133 : decode cL_law 1133 = .ok (.iaload, 1) := by decide +kernel
theorem dL_law_1134 : decode cL_law 1134 = .ok (.aload_n 0, 1) := by decide +kernel
theorem dL_law_1135 : decode cL_law 1135 = .ok (.iload_n 3, 1) := by decide +kernel
theorem dL_law_1136 : decode cL_law 1136 = .ok (.iconst 2, 1) := by decide +kernel
theorem dL_law_1137 : decode cL_law 1137 = .ok (.iadd, 1) := by decide +kernel
theorem dL_law_1138 : decode cL_law 1138 = .ok (.iaload, 1) := by decide +kernel
theorem dL_law_1139 : decode cL_law 1139 = .ok (.aload_n 0, 1) := by decide +kernel
theorem dL_law_1140 : decode cL_law 1140 = .ok (.iload_n 3, 1) := by decide +kernel
theorem dL_law_1141 : decode cL_law 1141 = .ok (.iconst 3, 1) := by decide +kernel
theorem dL_law_1142 : decode cL_law 1142 = .ok (.iadd, 1) := by decide +kernel
theorem dL_law_1143 : decode cL_law 1143 = .ok (.iaload, 1) := by decide +kernel
theorem dL_law_1144 : decode cL_law 1144 = .ok (.aload_n 0, 1) := by decide +kernel
theorem dL_law_1145 : decode cL_law 1145 = .ok (.iload_n 3, 1) := by decide +kernel
theorem dL_law_1146 : decode cL_law 1146 = .ok (.iconst 4, 1) := by decide +kernel
theorem dL_law_1147 : decode cL_law 1147 = .ok (.iadd, 1) := by decide +kernel
theorem dL_law_1148 : decode cL_law 1148 = .ok (.iaload, 1) := by decide +kernel
theorem dL_law_1149 : decode cL_law 1149 = .ok (.invokevirtual 141, 3) := by decide +kernel
theorem dL_law_1152 : decode cL_law 1152 = .ok (.aload_n 2, 1) := by decide +kernel
theorem dL_law_1153 : decode cL_law 1153 = .ok (.aload_n 0, 1) := by decide +kernel
theorem dL_law_1154 : decode cL_law 1154 = .ok (.iload_n 3, 1) := by decide +kernel
theorem dL_law_1155 : decode cL_law 1155 = .ok (.iconst 1, 1) := by decide +kernel
theorem dL_law_1156 : decode cL_law 1156 = .ok (.iadd, 1) := by decide +kernel
theorem dL_law_1157 : decode cL_law 1157 = .ok (.iaload, 1) := by decide +kernel
theorem dL_law_1158 : decode cL_law 1158 = .ok (.aload_n 0, 1) := by decide +kernel
theorem dL_law_1159 : decode cL_law 1159 = .ok (.iload_n 3, 1) := by decide +kernel
theorem dL_law_1160 : decode cL_law 1160 = .ok (.iconst 2, 1) := by decide +kernel
theorem dL_law_1161 : decode cL_law 1161 = .ok (.iadd, 1) := by decide +kernel
theorem dL_law_1162 : decode cL_law 1162 = .ok (.iaload, 1) := by decide +kernel
theorem dL_law_1163 : decode cL_law 1163 = .ok (.aload_n 0, 1) := by decide +kernel
theorem dL_law_1164 : decode cL_law 1164 = .ok (.iload_n 3, 1) := by decide +kernel
theorem dL_law_1165 : decode cL_law 1165 = .ok (.iconst 3, 1) := by decide +kernel
theorem dL_law_1166 : decode cL_law 1166 = .ok (.iadd, 1) := by decide +kernel
theorem dL_law_1167 : decode cL_law 1167 = .ok (.iaload, 1) := by decide +kernel
theorem dL_law_1168 : decode cL_law 1168 = .ok (.aload_n 0, 1) := by decide +kernel
theorem dL_law_1169 : decode cL_law 1169 = .ok (.iload_n 3, 1) := by decide +kernel
theorem dL_law_1170 : decode cL_law 1170 = .ok (.iconst 4, 1) := by decide +kernel
theorem dL_law_1171 : decode cL_law 1171 = .ok (.iadd, 1) := by decide +kernel
theorem dL_law_1172 : decode cL_law 1172 = .ok (.iaload, 1) := by decide +kernel
theorem dL_law_1173 : decode cL_law 1173 = .ok (.invokevirtual 145, 3) := by decide +kernel
theorem dL_law_1176 : decode cL_law 1176 = .ok (.if_icmp .eq 266, 3) := by decide +kernel
theorem dL_law_1179 : decode cL_law 1179 = .ok (.iconst 0, 1) := by decide +kernel
theorem dL_law_1180 : decode cL_law 1180 = .ok (.ireturn, 1) := by decide +kernel
theorem dL_law_1181 : decode cL_law 1181 = .ok (.aload_n 1, 1) := by decide +kernel
theorem dL_law_1182 : decode cL_law 1182 = .ok (.aload_n 0, 1) := by decide +kernel
theorem dL_law_1183 : decode cL_law 1183 = .ok (.iload_n 3, 1) := by decide +kernel
theorem dL_law_1184 : decode cL_law 1184 = .ok (.iconst 1, 1) := by decide +kernel
theorem dL_law_1185 : decode cL_law 1185 = .ok (.iadd, 1) := by decide +kernel
theorem dL_law_1186 : decode cL_law 1186 = .ok (.iaload, 1) := by decide +kernel
theorem dL_law_1187 : decode cL_law 1187 = .ok (.aload_n 0, 1) := by decide +kernel
theorem dL_law_1188 : decode cL_law 1188 = .ok (.iload_n 3, 1) := by decide +kernel
theorem dL_law_1189 : decode cL_law 1189 = .ok (.iconst 2, 1) := by decide +kernel
theorem dL_law_1190 : decode cL_law 1190 = .ok (.iadd, 1) := by decide +kernel
theorem dL_law_1191 : decode cL_law 1191 = .ok (.iaload, 1) := by decide +kernel
theorem dL_law_1192 : decode cL_law 1192 = .ok (.aload_n 0, 1) := by decide +kernel
theorem dL_law_1193 : decode cL_law 1193 = .ok (.iload_n 3, 1) := by decide +kernel
theorem dL_law_1194 : decode cL_law 1194 = .ok (.iconst 3, 1) := by decide +kernel
theorem dL_law_1195 : decode cL_law 1195 = .ok (.iadd, 1) := by decide +kernel
theorem dL_law_1196 : decode cL_law 1196 = .ok (.iaload, 1) := by decide +kernel
theorem dL_law_1197 : decode cL_law 1197 = .ok (.aload_n 0, 1) := by decide +kernel
theorem dL_law_1198 : decode cL_law 1198 = .ok (.iload_n 3, 1) := by decide +kernel
theorem dL_law_1199 : decode cL_law 1199 = .ok (.iconst 4, 1) := by decide +kernel
theorem dL_law_1200 : decode cL_law 1200 = .ok (.iadd, 1) := by decide +kernel
theorem dL_law_1201 : decode cL_law 1201 = .ok (.iaload, 1) := by decide +kernel
theorem dL_law_1202 : decode cL_law 1202 = .ok (.aload_n 0, 1) := by decide +kernel
theorem dL_law_1203 : decode cL_law 1203 = .ok (.iload_n 3, 1) := by decide +kernel
theorem dL_law_1204 : decode cL_law 1204 = .ok (.iconst 5, 1) := by decide +kernel
theorem dL_law_1205 : decode cL_law 1205 = .ok (.iadd, 1) := by decide +kernel
theorem dL_law_1206 : decode cL_law 1206 = .ok (.iaload, 1) := by decide +kernel
theorem dL_law_1207 : decode cL_law 1207 = .ok (.invokevirtual 146, 3) := by decide +kernel
theorem dL_law_1210 : decode cL_law 1210 = .ok (.aload_n 2, 1) := by decide +kernel
theorem dL_law_1211 : decode cL_law 1211 = .ok (.aload_n 0, 1) := by decide +kernel
theorem dL_law_1212 : decode cL_law 1212 = .ok (.iload_n 3, 1) := by decide +kernel
theorem dL_law_1213 : decode cL_law 1213 = .ok (.iconst 1, 1) := by decide +kernel
theorem dL_law_1214 : decode cL_law 1214 = .ok (.iadd, 1) := by decide +kernel
theorem dL_law_1215 : decode cL_law 1215 = .ok (.iaload, 1) := by decide +kernel
theorem dL_law_1216 : decode cL_law 1216 = .ok (.aload_n 0, 1) := by decide +kernel
theorem dL_law_1217 : decode cL_law 1217 = .ok (.iload_n 3, 1) := by decide +kernel
theorem dL_law_1218 : decode cL_law 1218 = .ok (.iconst 2, 1) := by decide +kernel
theorem dL_law_1219 : decode cL_law 1219 = .ok (.iadd, 1) := by decide +kernel
theorem dL_law_1220 : decode cL_law 1220 = .ok (.iaload, 1) := by decide +kernel
theorem dL_law_1221 : decode cL_law 1221 = .ok (.aload_n 0, 1) := by decide +kernel
theorem dL_law_1222 : decode cL_law 1222 = .ok (.iload_n 3, 1) := by decide +kernel
theorem dL_law_1223 : decode cL_law 1223 = .ok (.iconst 3, 1) := by decide +kernel
theorem dL_law_1224 : decode cL_law 1224 = .ok (.iadd, 1) := by decide +kernel
theorem dL_law_1225 : decode cL_law 1225 = .ok (.iaload, 1) := by decide +kernel
theorem dL_law_1226 : decode cL_law 1226 = .ok (.aload_n 0, 1) := by decide +kernel
theorem dL_law_1227 : decode cL_law 1227 = .ok (.iload_n 3, 1) := by decide +kernel
theorem dL_law_1228 : decode cL_law 1228 = .ok (.iconst 4, 1) := by decide +kernel
theorem dL_law_1229 : decode cL_law 1229 = .ok (.iadd, 1) := by decide +kernel
theorem dL_law_1230 : decode cL_law 1230 = .ok (.iaload, 1) := by decide +kernel
theorem dL_law_1231 : decode cL_law 1231 = .ok (.aload_n 0, 1) := by decide +kernel
theorem dL_law_1232 : decode cL_law 1232 = .ok (.iload_n 3, 1) := by decide +kernel
theorem dL_law_1233 : decode cL_law 1233 = .ok (.iconst 5, 1) := by decide +kernel
theorem dL_law_1234 : decode cL_law 1234 = .ok (.iadd, 1) := by decide +kernel
theorem dL_law_1235 : decode cL_law 1235 = .ok (.iaload, 1) := by decide +kernel
theorem dL_law_1236 : decode cL_law 1236 = .ok (.invokevirtual 150, 3) := by decide +kernel
theorem dL_law_1239 : decode cL_law 1239 = .ok (.if_icmp .eq 203, 3) := by decide +kernel
theorem dL_law_1242 : decode cL_law 1242 = .ok (.iconst 0, 1) := by decide +kernel
theorem dL_law_1243 : decode cL_law 1243 = .ok (.ireturn, 1) := by decide +kernel
theorem dL_law_1244 : decode cL_law 1244 = .ok (.aload_n 1, 1) := by decide +kernel
theorem dL_law_1245 : decode cL_law 1245 = .ok (.invokevirtual 151, 3) := by decide +kernel
theorem dL_law_1248 : decode cL_law 1248 = .ok (.aload_n 2, 1) := by decide +kernel
theorem dL_law_1249 : decode cL_law 1249 = .ok (.invokevirtual 154, 3) := by decide +kernel
theorem dL_law_1252 : decode cL_law 1252 = .ok (.if_icmp .eq 190, 3) := by decide +kernel
theorem dL_law_1255 : decode cL_law 1255 = .ok (.iconst 0, 1) := by decide +kernel
theorem dL_law_1256 : decode cL_law 1256 = .ok (.ireturn, 1) := by decide +kernel
theorem dL_law_1257 : decode cL_law 1257 = .ok (.aload_n 1, 1) := by decide +kernel
theorem dL_law_1258 : decode cL_law 1258 = .ok (.aload_n 0, 1) := by decide +kernel
theorem dL_law_1259 : decode cL_law 1259 = .ok (.iload_n 3, 1) := by decide +kernel
theorem dL_law_1260 : decode cL_law 1260 = .ok (.iconst 1, 1) := by decide +kernel
theorem dL_law_1261 : decode cL_law 1261 = .ok (.iadd, 1) := by decide +kernel
theorem dL_law_1262 : decode cL_law 1262 = .ok (.iaload, 1) := by decide +kernel
theorem dL_law_1263 : decode cL_law 1263 = .ok (.aload_n 0, 1) := by decide +kernel
theorem dL_law_1264 : decode cL_law 1264 = .ok (.iload_n 3, 1) := by decide +kernel
theorem dL_law_1265 : decode cL_law 1265 = .ok (.iconst 2, 1) := by decide +kernel
theorem dL_law_1266 : decode cL_law 1266 = .ok (.iadd, 1) := by decide +kernel
theorem dL_law_1267 : decode cL_law 1267 = .ok (.iaload, 1) := by decide +kernel
theorem dL_law_1268 : decode cL_law 1268 = .ok (.aload_n 0, 1) := by decide +kernel
theorem dL_law_1269 : decode cL_law 1269 = .ok (.iload_n 3, 1) := by decide +kernel
theorem dL_law_1270 : decode cL_law 1270 = .ok (.iconst 3, 1) := by decide +kernel
theorem dL_law_1271 : decode cL_law 1271 = .ok (.iadd, 1) := by decide +kernel
theorem dL_law_1272 : decode cL_law 1272 = .ok (.iaload, 1) := by decide +kernel
theorem dL_law_1273 : decode cL_law 1273 = .ok (.invokevirtual 155, 3) := by decide +kernel
theorem dL_law_1276 : decode cL_law 1276 = .ok (.aload_n 2, 1) := by decide +kernel
theorem dL_law_1277 : decode cL_law 1277 = .ok (.aload_n 0, 1) := by decide +kernel
theorem dL_law_1278 : decode cL_law 1278 = .ok (.iload_n 3, 1) := by decide +kernel
theorem dL_law_1279 : decode cL_law 1279 = .ok (.iconst 1, 1) := by decide +kernel
theorem dL_law_1280 : decode cL_law 1280 = .ok (.iadd, 1) := by decide +kernel
theorem dL_law_1281 : decode cL_law 1281 = .ok (.iaload, 1) := by decide +kernel
theorem dL_law_1282 : decode cL_law 1282 = .ok (.aload_n 0, 1) := by decide +kernel
theorem dL_law_1283 : decode cL_law 1283 = .ok (.iload_n 3, 1) := by decide +kernel
theorem dL_law_1284 : decode cL_law 1284 = .ok (.iconst 2, 1) := by decide +kernel
theorem dL_law_1285 : decode cL_law 1285 = .ok (.iadd, 1) := by decide +kernel
theorem dL_law_1286 : decode cL_law 1286 = .ok (.iaload, 1) := by decide +kernel
theorem dL_law_1287 : decode cL_law 1287 = .ok (.aload_n 0, 1) := by decide +kernel
theorem dL_law_1288 : decode cL_law 1288 = .ok (.iload_n 3, 1) := by decide +kernel
theorem dL_law_1289 : decode cL_law 1289 = .ok (.iconst 3, 1) := by decide +kernel
theorem dL_law_1290 : decode cL_law 1290 = .ok (.iadd, 1) := by decide +kernel
theorem dL_law_1291 : decode cL_law 1291 = .ok (.iaload, 1) := by decide +kernel
theorem dL_law_1292 : decode cL_law 1292 = .ok (.invokevirtual 159, 3) := by decide +kernel
theorem dL_law_1295 : decode cL_law 1295 = .ok (.lcmp, 1) := by decide +kernel
theorem dL_law_1296 : decode cL_law 1296 = .ok (.ifCond .eq 146, 3) := by decide +kernel
theorem dL_law_1299 : decode cL_law 1299 = .ok (.iconst 0, 1) := by decide +kernel
theorem dL_law_1300 : decode cL_law 1300 = .ok (.ireturn, 1) := by decide +kernel
theorem dL_law_1301 : decode cL_law 1301 = .ok (.aload_n 1, 1) := by decide +kernel
theorem dL_law_1302 : decode cL_law 1302 = .ok (.aload_n 0, 1) := by decide +kernel
theorem dL_law_1303 : decode cL_law 1303 = .ok (.iload_n 3, 1) := by decide +kernel
theorem dL_law_1304 : decode cL_law 1304 = .ok (.iconst 1, 1) := by decide +kernel
theorem dL_law_1305 : decode cL_law 1305 = .ok (.iadd, 1) := by decide +kernel
theorem dL_law_1306 : decode cL_law 1306 = .ok (.iaload, 1) := by decide +kernel
theorem dL_law_1307 : decode cL_law 1307 = .ok (.invokevirtual 160, 3) := by decide +kernel
theorem dL_law_1310 : decode cL_law 1310 = .ok (.aload_n 2, 1) := by decide +kernel
theorem dL_law_1311 : decode cL_law 1311 = .ok (.aload_n 0, 1) := by decide +kernel
theorem dL_law_1312 : decode cL_law 1312 = .ok (.iload_n 3, 1) := by decide +kernel
theorem dL_law_1313 : decode cL_law 1313 = .ok (.iconst 1, 1) := by decide +kernel
theorem dL_law_1314 : decode cL_law 1314 = .ok (.iadd, 1) := by decide +kernel
theorem dL_law_1315 : decode cL_law 1315 = .ok (.iaload, 1) := by decide +kernel
theorem dL_law_1316 : decode cL_law 1316 = .ok (.invokevirtual 163, 3) := by decide +kernel
theorem dL_law_1319 : decode cL_law 1319 = .ok (.if_icmp .eq 123, 3) := by decide +kernel
theorem dL_law_1322 : decode cL_law 1322 = .ok (.iconst 0, 1) := by decide +kernel
theorem dL_law_1323 : decode cL_law 1323 = .ok (.ireturn, 1) := by decide +kernel
theorem dL_law_1324 : decode cL_law 1324 = .ok (.aload_n 1, 1) := by decide +kernel
theorem dL_law_1325 : decode cL_law 1325 = .ok (.aload_n 0, 1) := by decide +kernel
theorem dL_law_1326 : decode cL_law 1326 = .ok (.iload_n 3, 1) := by decide +kernel
theorem dL_law_1327 : decode cL_law 1327 = .ok (.iconst 1, 1) := by decide +kernel
theorem dL_law_1328 : decode cL_law 1328 = .ok (.iadd, 1) := by decide +kernel
theorem dL_law_1329 : decode cL_law 1329 = .ok (.iaload, 1) := by decide +kernel
theorem dL_law_1330 : decode cL_law 1330 = .ok (.invokevirtual 164, 3) := by decide +kernel
theorem dL_law_1333 : decode cL_law 1333 = .ok (.aload_n 2, 1) := by decide +kernel
theorem dL_law_1334 : decode cL_law 1334 = .ok (.aload_n 0, 1) := by decide +kernel
theorem dL_law_1335 : decode cL_law 1335 = .ok (.iload_n 3, 1) := by decide +kernel
theorem dL_law_1336 : decode cL_law 1336 = .ok (.iconst 1, 1) := by decide +kernel
theorem dL_law_1337 : decode cL_law 1337 = .ok (.iadd, 1) := by decide +kernel
theorem dL_law_1338 : decode cL_law 1338 = .ok (.iaload, 1) := by decide +kernel
theorem dL_law_1339 : decode cL_law 1339 = .ok (.invokevirtual 167, 3) := by decide +kernel
theorem dL_law_1342 : decode cL_law 1342 = .ok (.if_icmp .eq 100, 3) := by decide +kernel
theorem dL_law_1345 : decode cL_law 1345 = .ok (.iconst 0, 1) := by decide +kernel
theorem dL_law_1346 : decode cL_law 1346 = .ok (.ireturn, 1) := by decide +kernel
theorem dL_law_1347 : decode cL_law 1347 = .ok (.aload_n 1, 1) := by decide +kernel
theorem dL_law_1348 : decode cL_law 1348 = .ok (.aload_n 0, 1) := by decide +kernel
theorem dL_law_1349 : decode cL_law 1349 = .ok (.iload_n 3, 1) := by decide +kernel
theorem dL_law_1350 : decode cL_law 1350 = .ok (.iconst 1, 1) := by decide +kernel
theorem dL_law_1351 : decode cL_law 1351 = .ok (.iadd, 1) := by decide +kernel
theorem dL_law_1352 : decode cL_law 1352 = .ok (.iaload, 1) := by decide +kernel
theorem dL_law_1353 : decode cL_law 1353 = .ok (.invokevirtual 168, 3) := by decide +kernel
theorem dL_law_1356 : decode cL_law 1356 = .ok (.aload_n 2, 1) := by decide +kernel
theorem dL_law_1357 : decode cL_law 1357 = .ok (.aload_n 0, 1) := by decide +kernel
theorem dL_law_1358 : decode cL_law 1358 = .ok (.iload_n 3, 1) := by decide +kernel
theorem dL_law_1359 : decode cL_law 1359 = .ok (.iconst 1, 1) := by decide +kernel
theorem dL_law_1360 : decode cL_law 1360 = .ok (.iadd, 1) := by decide +kernel
theorem dL_law_1361 : decode cL_law 1361 = .ok (.iaload, 1) := by decide +kernel
theorem dL_law_1362 : decode cL_law 1362 = .ok (.invokevirtual 171, 3) := by decide +kernel
theorem dL_law_1365 : decode cL_law 1365 = .ok (.if_icmp .eq 77, 3) := by decide +kernel
theorem dL_law_1368 : decode cL_law 1368 = .ok (.iconst 0, 1) := by decide +kernel
theorem dL_law_1369 : decode cL_law 1369 = .ok (.ireturn, 1) := by decide +kernel
theorem dL_law_1370 : decode cL_law 1370 = .ok (.aload_n 1, 1) := by decide +kernel
theorem dL_law_1371 : decode cL_law 1371 = .ok (.invokevirtual 172, 3) := by decide +kernel
theorem dL_law_1374 : decode cL_law 1374 = .ok (.aload_n 2, 1) := by decide +kernel
theorem dL_law_1375 : decode cL_law 1375 = .ok (.invokevirtual 175, 3) := by decide +kernel
theorem dL_law_1378 : decode cL_law 1378 = .ok (.if_icmp .eq 64, 3) := by decide +kernel
theorem dL_law_1381 : decode cL_law 1381 = .ok (.iconst 0, 1) := by decide +kernel
theorem dL_law_1382 : decode cL_law 1382 = .ok (.ireturn, 1) := by decide +kernel
theorem dL_law_1383 : decode cL_law 1383 = .ok (.aload_n 1, 1) := by decide +kernel
theorem dL_law_1384 : decode cL_law 1384 = .ok (.invokevirtual 176, 3) := by decide +kernel
theorem dL_law_1387 : decode cL_law 1387 = .ok (.aload_n 2, 1) := by decide +kernel
theorem dL_law_1388 : decode cL_law 1388 = .ok (.invokevirtual 179, 3) := by decide +kernel
theorem dL_law_1391 : decode cL_law 1391 = .ok (.if_icmp .eq 51, 3) := by decide +kernel
theorem dL_law_1394 : decode cL_law 1394 = .ok (.iconst 0, 1) := by decide +kernel
theorem dL_law_1395 : decode cL_law 1395 = .ok (.ireturn, 1) := by decide +kernel
theorem dL_law_1396 : decode cL_law 1396 = .ok (.aload_n 1, 1) := by decide +kernel
theorem dL_law_1397 : decode cL_law 1397 = .ok (.aload_n 0, 1) := by decide +kernel
theorem dL_law_1398 : decode cL_law 1398 = .ok (.iload_n 3, 1) := by decide +kernel
theorem dL_law_1399 : decode cL_law 1399 = .ok (.iconst 1, 1) := by decide +kernel
theorem dL_law_1400 : decode cL_law 1400 = .ok (.iadd, 1) := by decide +kernel
theorem dL_law_1401 : decode cL_law 1401 = .ok (.iaload, 1) := by decide +kernel
theorem dL_law_1402 : decode cL_law 1402 = .ok (.invokevirtual 180, 3) := by decide +kernel
theorem dL_law_1405 : decode cL_law 1405 = .ok (.aload_n 2, 1) := by decide +kernel
theorem dL_law_1406 : decode cL_law 1406 = .ok (.aload_n 0, 1) := by decide +kernel
theorem dL_law_1407 : decode cL_law 1407 = .ok (.iload_n 3, 1) := by decide +kernel
theorem dL_law_1408 : decode cL_law 1408 = .ok (.iconst 1, 1) := by decide +kernel
theorem dL_law_1409 : decode cL_law 1409 = .ok (.iadd, 1) := by decide +kernel
theorem dL_law_1410 : decode cL_law 1410 = .ok (.iaload, 1) := by decide +kernel
theorem dL_law_1411 : decode cL_law 1411 = .ok (.invokevirtual 183, 3) := by decide +kernel
theorem dL_law_1414 : decode cL_law 1414 = .ok (.if_icmp .eq 28, 3) := by decide +kernel
theorem dL_law_1417 : decode cL_law 1417 = .ok (.iconst 0, 1) := by decide +kernel
theorem dL_law_1418 : decode cL_law 1418 = .ok (.ireturn, 1) := by decide +kernel
theorem dL_law_1419 : decode cL_law 1419 = .ok (.aload_n 1, 1) := by decide +kernel
theorem dL_law_1420 : decode cL_law 1420 = .ok (.aload_n 0, 1) := by decide +kernel
theorem dL_law_1421 : decode cL_law 1421 = .ok (.iload_n 3, 1) := by decide +kernel
theorem dL_law_1422 : decode cL_law 1422 = .ok (.iconst 1, 1) := by decide +kernel
theorem dL_law_1423 : decode cL_law 1423 = .ok (.iadd, 1) := by decide +kernel
theorem dL_law_1424 : decode cL_law 1424 = .ok (.iaload, 1) := by decide +kernel
theorem dL_law_1425 : decode cL_law 1425 = .ok (.invokevirtual 184, 3) := by decide +kernel
theorem dL_law_1428 : decode cL_law 1428 = .ok (.aload_n 2, 1) := by decide +kernel
theorem dL_law_1429 : decode cL_law 1429 = .ok (.aload_n 0, 1) := by decide +kernel
theorem dL_law_1430 : decode cL_law 1430 = .ok (.iload_n 3, 1) := by decide +kernel
theorem dL_law_1431 : decode cL_law 1431 = .ok (.iconst 1, 1) := by decide +kernel
theorem dL_law_1432 : decode cL_law 1432 = .ok (.iadd, 1) := by decide +kernel
theorem dL_law_1433 : decode cL_law 1433 = .ok (.iaload, 1) := by decide +kernel
theorem dL_law_1434 : decode cL_law 1434 = .ok (.invokevirtual 187, 3) := by decide +kernel
theorem dL_law_1437 : decode cL_law 1437 = .ok (.if_icmp .eq 5, 3) := by decide +kernel
theorem dL_law_1440 : decode cL_law 1440 = .ok (.iconst 0, 1) := by decide +kernel
theorem dL_law_1441 : decode cL_law 1441 = .ok (.ireturn, 1) := by decide +kernel
theorem dL_law_1442 : decode cL_law 1442 = .ok (.iinc 3 6, 3) := by decide +kernel
theorem dL_law_1445 : decode cL_law 1445 = .ok (.goto (-1427), 3) := by decide +kernel
theorem dL_law_1448 : decode cL_law 1448 = .ok (.iconst 1, 1) := by decide +kernel
theorem dL_law_1449 : decode cL_law 1449 = .ok (.ireturn, 1) := by decide +kernel

theorem dX10_cutTurned_69 : decode cX10_cutTurned 69 = .ok (.ireturn, 1) := by decide +kernel
theorem dX10_cutTurned_70 : decode cX10_cutTurned 70 = .ok (.aload_n 0, 1) := by decide +kernel
theorem dX10_cutTurned_71 : decode cX10_cutTurned 71 = .ok (.invokevirtual 81, 3) := by decide +kernel
theorem dX10_cutTurned_74 : decode cX10_cutTurned 74 = .ok (.aload_n 0, 1) := by decide +kernel
theorem dX10_cutTurned_75 : decode cX10_cutTurned 75 = .ok (.getfield 10, 3) := by decide +kernel
theorem dX10_cutTurned_78 : decode cX10_cutTurned 78 = .ok (.dup, 1) := by decide +kernel
theorem dX10_cutTurned_79 : decode cX10_cutTurned 79 = .ok (.getfield 178, 3) := by decide +kernel
theorem dX10_cutTurned_82 : decode cX10_cutTurned 82 = .ok (.iconst 1, 1) := by decide +kernel
theorem dX10_cutTurned_83 : decode cX10_cutTurned 83 = .ok (.isub, 1) := by decide +kernel
theorem dX10_cutTurned_84 : decode cX10_cutTurned 84 = .ok (.putfield 178, 3) := by decide +kernel
theorem dX10_cutTurned_87 : decode cX10_cutTurned 87 = .ok (.aload_n 0, 1) := by decide +kernel
theorem dX10_cutTurned_88 : decode cX10_cutTurned 88 = .ok (.getfield 10, 3) := by decide +kernel
theorem dX10_cutTurned_91 : decode cX10_cutTurned 91 = .ok (.getfield 191, 3) := by decide +kernel
theorem dX10_cutTurned_94 : decode cX10_cutTurned 94 = .ok (.iload_n 1, 1) := by decide +kernel
theorem dX10_cutTurned_95 : decode cX10_cutTurned 95 = .ok (.iload_n 2, 1) := by decide +kernel
theorem dX10_cutTurned_96 : decode cX10_cutTurned 96 = .ok (.invokevirtual 206, 3) := by decide +kernel
theorem dX10_cutTurned_99 : decode cX10_cutTurned 99 = .ok (.ireturn, 1) := by decide +kernel
theorem dX10_cuttingRefusal_0 : decode cX10_cuttingRefusal 0 = .ok (.aload_n 0, 1) := by decide +kernel
theorem dX10_cuttingRefusal_1 : decode cX10_cuttingRefusal 1 = .ok (.getfield 10, 3) := by decide +kernel
theorem dX10_cuttingRefusal_4 : decode cX10_cuttingRefusal 4 = .ok (.getfield 191, 3) := by decide +kernel
theorem dX10_cuttingRefusal_7 : decode cX10_cuttingRefusal 7 = .ok (.getfield 209, 3) := by decide +kernel
theorem dX10_cuttingRefusal_10 : decode cX10_cuttingRefusal 10 = .ok (.bipush 100, 2) := by decide +kernel
theorem dX10_cuttingRefusal_12 : decode cX10_cuttingRefusal 12 = .ok (.if_icmp .lt 6, 3) := by decide +kernel
theorem dX10_cuttingRefusal_15 : decode cX10_cuttingRefusal 15 = .ok (.bipush (-4), 2) := by decide +kernel
theorem dX10_cuttingRefusal_17 : decode cX10_cuttingRefusal 17 = .ok (.ireturn, 1) := by decide +kernel
theorem dX10_cuttingRefusal_18 : decode cX10_cuttingRefusal 18 = .ok (.aload_n 0, 1) := by decide +kernel
theorem dX10_cuttingRefusal_19 : decode cX10_cuttingRefusal 19 = .ok (.getfield 10, 3) := by decide +kernel
theorem dX10_cuttingRefusal_22 : decode cX10_cuttingRefusal 22 = .ok (.getfield 178, 3) := by decide +kernel
theorem dX10_cuttingRefusal_25 : decode cX10_cuttingRefusal 25 = .ok (.ifCond .ne 8, 3) := by decide +kernel
theorem dX10_cuttingRefusal_28 : decode cX10_cuttingRefusal 28 = .ok (.bipush (-3), 2) := by decide +kernel
theorem dX10_cuttingRefusal_30 : decode cX10_cuttingRefusal 30 = .ok (.goto 4, 3) := by decide +kernel
theorem dX10_cuttingRefusal_33 : decode cX10_cuttingRefusal 33 = .ok (.iconst 0, 1) := by decide +kernel
theorem dX10_cuttingRefusal_34 : decode cX10_cuttingRefusal 34 = .ok (.ireturn, 1) := by decide +kernel
theorem dX10_cut_0 : decode cX10_cut 0 = .ok (.aload_n 0, 1) := by decide +kernel
theorem dX10_cut_1 : decode cX10_cut 1 = .ok (.getfield 10, 3) := by decide +kernel
theorem dX10_cut_4 : decode cX10_cut 4 = .ok (.getfield 191, 3) := by decide +kernel
theorem dX10_cut_7 : decode cX10_cut 7 = .ok (.iload_n 1, 1) := by decide +kernel
theorem dX10_cut_8 : decode cX10_cut 8 = .ok (.invokevirtual 202, 3) := by decide +kernel
theorem dX10_cut_11 : decode cX10_cut 11 = .ok (.ifCond .ne 6, 3) := by decide +kernel
theorem dX10_cut_14 : decode cX10_cut 14 = .ok (.bipush (-2), 2) := by decide +kernel
theorem dX10_cut_16 : decode cX10_cut 16 = .ok (.ireturn, 1) := by decide +kernel
theorem dX10_cut_17 : decode cX10_cut 17 = .ok (.aload_n 0, 1) := by decide +kernel
theorem dX10_cut_18 : decode cX10_cut 18 = .ok (.aload_n 0, 1) := by decide +kernel
theorem dX10_cut_19 : decode cX10_cut 19 = .ok (.getfield 10, 3) := by decide +kernel
theorem dX10_cut_22 : decode cX10_cut 22 = .ok (.getfield 191, 3) := by decide +kernel
theorem dX10_cut_25 : decode cX10_cut 25 = .ok (.iload_n 1, 1) := by decide +kernel
theorem dX10_cut_26 : decode cX10_cut 26 = .ok (.iload_n 2, 1) := by decide +kernel
theorem dX10_cut_27 : decode cX10_cut 27 = .ok (.invokevirtual 210, 3) := by decide +kernel
theorem dX10_cut_30 : decode cX10_cut 30 = .ok (.ifCond .eq 18, 3) := by decide +kernel
theorem dX10_cut_33 : decode cX10_cut 33 = .ok (.aload_n 0, 1) := by decide +kernel
theorem dX10_cut_34 : decode cX10_cut 34 = .ok (.getfield 10, 3) := by decide +kernel
theorem dX10_cut_37 : decode cX10_cut 37 = .ok (.getfield 191, 3) := by decide +kernel
theorem dX10_cut_40 : decode cX10_cut 40 = .ok (.iload_n 1, 1) := by decide +kernel
theorem dX10_cut_41 : decode cX10_cut 41 = .ok (.iload_n 2, 1) := by decide +kernel
theorem dX10_cut_42 : decode cX10_cut 42 = .ok (.invokevirtual 214, 3) := by decide +kernel
theorem dX10_cut_45 : decode cX10_cut 45 = .ok (.goto 5, 3) := by decide +kernel
theorem dX10_cut_48 : decode cX10_cut 48 = .ok (.bipush (-12), 2) := by decide +kernel
theorem dX10_cut_50 : decode cX10_cut 50 = .ok (.invokevirtual 68, 3) := by decide +kernel
theorem dX10_cut_53 : decode cX10_cut 53 = .ok (.ireturn, 1) := by decide +kernel
theorem dX10_length_0 : decode cX10_length 0 = .ok (.aload_n 0, 1) := by decide +kernel
theorem dX10_length_1 : decode cX10_length 1 = .ok (.getfield 10, 3) := by decide +kernel
theorem dX10_length_4 : decode cX10_length 4 = .ok (.getfield 191, 3) := by decide +kernel
theorem dX10_length_7 : decode cX10_length 7 = .ok (.iload_n 1, 1) := by decide +kernel
theorem dX10_length_8 : decode cX10_length 8 = .ok (.invokevirtual 202, 3) := by decide +kernel
theorem dX10_length_11 : decode cX10_length 11 = .ok (.ifCond .eq 18, 3) := by decide +kernel
theorem dX10_length_14 : decode cX10_length 14 = .ok (.aload_n 0, 1) := by decide +kernel
theorem dX10_length_15 : decode cX10_length 15 = .ok (.getfield 10, 3) := by decide +kernel
theorem dX10_length_18 : decode cX10_length 18 = .ok (.getfield 191, 3) := by decide +kernel
theorem dX10_length_21 : decode cX10_length 21 = .ok (.getfield 203, 3) := by decide +kernel
theorem dX10_length_24 : decode cX10_length 24 = .ok (.iload_n 1, 1) := by decide +kernel
theorem dX10_length_25 : decode cX10_length 25 = .ok (.iaload, 1) := by decide +kernel
theorem dX10_length_26 : decode cX10_length 26 = .ok (.goto 5, 3) := by decide +kernel
theorem dX10_length_29 : decode cX10_length 29 = .ok (.bipush (-2), 2) := by decide +kernel
theorem dX10_length_31 : decode cX10_length 31 = .ok (.ireturn, 1) := by decide +kernel
theorem dX10_turn_0 : decode cX10_turn 0 = .ok (.aload_n 0, 1) := by decide +kernel
theorem dX10_turn_1 : decode cX10_turn 1 = .ok (.getfield 10, 3) := by decide +kernel
theorem dX10_turn_4 : decode cX10_turn 4 = .ok (.getfield 191, 3) := by decide +kernel
theorem dX10_turn_7 : decode cX10_turn 7 = .ok (.iload_n 1, 1) := by decide +kernel
theorem dX10_turn_8 : decode cX10_turn 8 = .ok (.invokevirtual 202, 3) := by decide +kernel
theorem dX10_turn_11 : decode cX10_turn 11 = .ok (.ifCond .eq 17, 3) := by decide +kernel
theorem dX10_turn_14 : decode cX10_turn 14 = .ok (.aload_n 0, 1) := by decide +kernel
theorem dX10_turn_15 : decode cX10_turn 15 = .ok (.getfield 10, 3) := by decide +kernel
theorem dX10_turn_18 : decode cX10_turn 18 = .ok (.getfield 72, 3) := by decide +kernel
theorem dX10_turn_21 : decode cX10_turn 21 = .ok (.iload_n 2, 1) := by decide +kernel
theorem dX10_turn_22 : decode cX10_turn 22 = .ok (.invokevirtual 104, 3) := by decide +kernel
theorem dX10_turn_25 : decode cX10_turn 25 = .ok (.ifCond .ne 6, 3) := by decide +kernel
theorem dX10_turn_28 : decode cX10_turn 28 = .ok (.bipush (-2), 2) := by decide +kernel
theorem dX10_turn_30 : decode cX10_turn 30 = .ok (.ireturn, 1) := by decide +kernel
theorem dX10_turn_31 : decode cX10_turn 31 = .ok (.aload_n 0, 1) := by decide +kernel
theorem dX10_turn_32 : decode cX10_turn 32 = .ok (.getfield 36, 3) := by decide +kernel
theorem dX10_turn_35 : decode cX10_turn 35 = .ok (.invokevirtual 217, 3) := by decide +kernel
theorem dX10_turn_38 : decode cX10_turn 38 = .ok (.aload_n 0, 1) := by decide +kernel
theorem dX10_turn_39 : decode cX10_turn 39 = .ok (.aload_n 0, 1) := by decide +kernel
theorem dX10_turn_40 : decode cX10_turn 40 = .ok (.getfield 36, 3) := by decide +kernel
theorem dX10_turn_43 : decode cX10_turn 43 = .ok (.aload_n 0, 1) := by decide +kernel
theorem dX10_turn_44 : decode cX10_turn 44 = .ok (.getfield 10, 3) := by decide +kernel
theorem dX10_turn_47 : decode cX10_turn 47 = .ok (.iload_n 1, 1) := by decide +kernel
theorem dX10_turn_48 : decode cX10_turn 48 = .ok (.iload_n 2, 1) := by decide +kernel
theorem dX10_turn_49 : decode cX10_turn 49 = .ok (.invokevirtual 218, 3) := by decide +kernel
theorem dX10_turn_52 : decode cX10_turn 52 = .ok (.invokevirtual 68, 3) := by decide +kernel
theorem dX10_turn_55 : decode cX10_turn 55 = .ok (.ireturn, 1) := by decide +kernel
theorem dX10_opens_0 : decode cX10_opens 0 = .ok (.aload_n 0, 1) := by decide +kernel
theorem dX10_opens_1 : decode cX10_opens 1 = .ok (.getfield 10, 3) := by decide +kernel
theorem dX10_opens_4 : decode cX10_opens 4 = .ok (.getfield 191, 3) := by decide +kernel
theorem dX10_opens_7 : decode cX10_opens 7 = .ok (.iload_n 1, 1) := by decide +kernel
theorem dX10_opens_8 : decode cX10_opens 8 = .ok (.invokevirtual 202, 3) := by decide +kernel
theorem dX10_opens_11 : decode cX10_opens 11 = .ok (.ifCond .eq 14, 3) := by decide +kernel
theorem dX10_opens_14 : decode cX10_opens 14 = .ok (.aload_n 0, 1) := by decide +kernel
theorem dX10_opens_15 : decode cX10_opens 15 = .ok (.getfield 10, 3) := by decide +kernel
theorem dX10_opens_18 : decode cX10_opens 18 = .ok (.iload_n 2, 1) := by decide +kernel
theorem dX10_opens_19 : decode cX10_opens 19 = .ok (.invokevirtual 222, 3) := by decide +kernel
theorem dX10_opens_22 : decode cX10_opens 22 = .ok (.ifCond .ne 6, 3) := by decide +kernel
theorem dX10_opens_25 : decode cX10_opens 25 = .ok (.bipush (-2), 2) := by decide +kernel
theorem dX10_opens_27 : decode cX10_opens 27 = .ok (.ireturn, 1) := by decide +kernel
theorem dX10_opens_28 : decode cX10_opens 28 = .ok (.aload_n 0, 1) := by decide +kernel
theorem dX10_opens_29 : decode cX10_opens 29 = .ok (.getfield 36, 3) := by decide +kernel
theorem dX10_opens_32 : decode cX10_opens 32 = .ok (.invokevirtual 217, 3) := by decide +kernel
theorem dX10_opens_35 : decode cX10_opens 35 = .ok (.aload_n 0, 1) := by decide +kernel
theorem dX10_opens_36 : decode cX10_opens 36 = .ok (.aload_n 0, 1) := by decide +kernel
theorem dX10_opens_37 : decode cX10_opens 37 = .ok (.getfield 36, 3) := by decide +kernel
theorem dX10_opens_40 : decode cX10_opens 40 = .ok (.aload_n 0, 1) := by decide +kernel
theorem dX10_opens_41 : decode cX10_opens 41 = .ok (.getfield 10, 3) := by decide +kernel
theorem dX10_opens_44 : decode cX10_opens 44 = .ok (.iload_n 1, 1) := by decide +kernel
theorem dX10_opens_45 : decode cX10_opens 45 = .ok (.aload_n 0, 1) := by decide +kernel
theorem dX10_opens_46 : decode cX10_opens 46 = .ok (.getfield 10, 3) := by decide +kernel
theorem dX10_opens_49 : decode cX10_opens 49 = .ok (.getfield 225, 3) := by decide +kernel
theorem dX10_opens_52 : decode cX10_opens 52 = .ok (.iload_n 2, 1) := by decide +kernel
theorem dX10_opens_53 : decode cX10_opens 53 = .ok (.iaload, 1) := by decide +kernel
theorem dX10_opens_54 : decode cX10_opens 54 = .ok (.invokevirtual 218, 3) := by decide +kernel
theorem dX10_opens_57 : decode cX10_opens 57 = .ok (.invokevirtual 68, 3) := by decide +kernel
theorem dX10_opens_60 : decode cX10_opens 60 = .ok (.ireturn, 1) := by decide +kernel
theorem dX10_turnAll_0 : decode cX10_turnAll 0 = .ok (.aload_n 0, 1) := by decide +kernel
theorem dX10_turnAll_1 : decode cX10_turnAll 1 = .ok (.getfield 10, 3) := by decide +kernel
theorem dX10_turnAll_4 : decode cX10_turnAll 4 = .ok (.getfield 228, 3) := by decide +kernel
theorem dX10_turnAll_7 : decode cX10_turnAll 7 = .ok (.iload_n 1, 1) := by decide +kernel
theorem dX10_turnAll_8 : decode cX10_turnAll 8 = .ok (.invokevirtual 232, 3) := by decide +kernel
theorem dX10_turnAll_11 : decode cX10_turnAll 11 = .ok (.ifCond .eq 17, 3) := by decide +kernel
theorem dX10_turnAll_14 : decode cX10_turnAll 14 = .ok (.aload_n 0, 1) := by decide +kernel
theorem dX10_turnAll_15 : decode cX10_turnAll 15 = .ok (.getfield 10, 3) := by decide +kernel
theorem dX10_turnAll_18 : decode cX10_turnAll 18 = .ok (.getfield 191, 3) := by decide +kernel
theorem dX10_turnAll_21 : decode cX10_turnAll 21 = .ok (.iload_n 2, 1) := by decide +kernel
theorem dX10_turnAll_22 : decode cX10_turnAll 22 = .ok (.invokevirtual 202, 3) := by decide +kernel
theorem dX10_turnAll_25 : decode cX10_turnAll 25 = .ok (.ifCond .ne 6, 3) := by decide +kernel
theorem dX10_turnAll_28 : decode cX10_turnAll 28 = .ok (.bipush (-2), 2) := by decide +kernel
theorem dX10_turnAll_30 : decode cX10_turnAll 30 = .ok (.ireturn, 1) := by decide +kernel
theorem dX10_turnAll_31 : decode cX10_turnAll 31 = .ok (.aload_n 0, 1) := by decide +kernel
theorem dX10_turnAll_32 : decode cX10_turnAll 32 = .ok (.getfield 36, 3) := by decide +kernel
theorem dX10_turnAll_35 : decode cX10_turnAll 35 = .ok (.invokevirtual 217, 3) := by decide +kernel
theorem dX10_turnAll_38 : decode cX10_turnAll 38 = .ok (.aload_n 0, 1) := by decide +kernel
theorem dX10_turnAll_39 : decode cX10_turnAll 39 = .ok (.aload_n 0, 1) := by decide +kernel
theorem dX10_turnAll_40 : decode cX10_turnAll 40 = .ok (.iload_n 1, 1) := by decide +kernel
theorem dX10_turnAll_41 : decode cX10_turnAll 41 = .ok (.iload_n 2, 1) := by decide +kernel
theorem dX10_turnAll_42 : decode cX10_turnAll 42 = .ok (.invokevirtual 235, 3) := by decide +kernel
theorem dX10_turnAll_45 : decode cX10_turnAll 45 = .ok (.invokevirtual 68, 3) := by decide +kernel
theorem dX10_turnAll_48 : decode cX10_turnAll 48 = .ok (.ireturn, 1) := by decide +kernel
theorem dX10_turnPlaceByPlace_0 : decode cX10_turnPlaceByPlace 0 = .ok (.iconst 0, 1) := by decide +kernel
theorem dX10_turnPlaceByPlace_1 : decode cX10_turnPlaceByPlace 1 = .ok (.istore_n 3, 1) := by decide +kernel
theorem dX10_turnPlaceByPlace_2 : decode cX10_turnPlaceByPlace 2 = .ok (.iconst 0, 1) := by decide +kernel
theorem dX10_turnPlaceByPlace_3 : decode cX10_turnPlaceByPlace 3 = .ok (.istore 4, 2) := by decide +kernel
theorem dX10_turnPlaceByPlace_5 : decode cX10_turnPlaceByPlace 5 = .ok (.iload 4, 2) := by decide +kernel
theorem dX10_turnPlaceByPlace_7 : decode cX10_turnPlaceByPlace 7 = .ok (.aload_n 0, 1) := by decide +kernel
theorem dX10_turnPlaceByPlace_8 : decode cX10_turnPlaceByPlace 8 = .ok (.getfield 10, 3) := by decide +kernel
theorem dX10_turnPlaceByPlace_11 : decode cX10_turnPlaceByPlace 11 = .ok (.getfield 228, 3) := by decide +kernel
theorem dX10_turnPlaceByPlace_14 : decode cX10_turnPlaceByPlace 14 = .ok (.getfield 238, 3) := by decide +kernel
theorem dX10_turnPlaceByPlace_17 : decode cX10_turnPlaceByPlace 17 = .ok (.iload_n 1, 1) := by decide +kernel
theorem dX10_turnPlaceByPlace_18 : decode cX10_turnPlaceByPlace 18 = .ok (.iaload, 1) := by decide +kernel
theorem dX10_turnPlaceByPlace_19 : decode cX10_turnPlaceByPlace 19 = .ok (.if_icmp .ge 57, 3) := by decide +kernel
theorem dX10_turnPlaceByPlace_22 : decode cX10_turnPlaceByPlace 22 = .ok (.aload_n 0, 1) := by decide +kernel
theorem dX10_turnPlaceByPlace_23 : decode cX10_turnPlaceByPlace 23 = .ok (.getfield 36, 3) := by decide +kernel
theorem dX10_turnPlaceByPlace_26 : decode cX10_turnPlaceByPlace 26 = .ok (.aload_n 0, 1) := by decide +kernel
theorem dX10_turnPlaceByPlace_27 : decode cX10_turnPlaceByPlace 27 = .ok (.getfield 10, 3) := by decide +kernel
theorem dX10_turnPlaceByPlace_30 : decode cX10_turnPlaceByPlace 30 = .ok (.iload_n 2, 1) := by decide +kernel
theorem dX10_turnPlaceByPlace_31 : decode cX10_turnPlaceByPlace 31 = .ok (.aload_n 0, 1) := by decide +kernel
theorem dX10_turnPlaceByPlace_32 : decode cX10_turnPlaceByPlace 32 = .ok (.getfield 10, 3) := by decide +kernel
theorem dX10_turnPlaceByPlace_35 : decode cX10_turnPlaceByPlace 35 = .ok (.getfield 228, 3) := by decide +kernel
theorem dX10_turnPlaceByPlace_38 : decode cX10_turnPlaceByPlace 38 = .ok (.iload_n 1, 1) := by decide +kernel
theorem dX10_turnPlaceByPlace_39 : decode cX10_turnPlaceByPlace 39 = .ok (.iload 4, 2) := by decide +kernel
theorem dX10_turnPlaceByPlace_41 : decode cX10_turnPlaceByPlace 41 = .ok (.invokevirtual 241, 3) := by decide +kernel
theorem dX10_turnPlaceByPlace_44 : decode cX10_turnPlaceByPlace 44 = .ok (.invokevirtual 218, 3) := by decide +kernel
theorem dX10_turnPlaceByPlace_47 : decode cX10_turnPlaceByPlace 47 = .ok (.istore 5, 2) := by decide +kernel
theorem dX10_turnPlaceByPlace_49 : decode cX10_turnPlaceByPlace 49 = .ok (.iload 5, 2) := by decide +kernel
theorem dX10_turnPlaceByPlace_51 : decode cX10_turnPlaceByPlace 51 = .ok (.iconst 1, 1) := by decide +kernel
theorem dX10_turnPlaceByPlace_52 : decode cX10_turnPlaceByPlace 52 = .ok (.if_icmp .eq 15, 3) := by decide +kernel
theorem dX10_turnPlaceByPlace_55 : decode cX10_turnPlaceByPlace 55 = .ok (.iload 5, 2) := by decide +kernel
theorem dX10_turnPlaceByPlace_57 : decode cX10_turnPlaceByPlace 57 = .ok (.ifCond .ne 7, 3) := by decide +kernel
theorem dX10_turnPlaceByPlace_60 : decode cX10_turnPlaceByPlace 60 = .ok (.iload_n 3, 1) := by decide +kernel
theorem dX10_turnPlaceByPlace_61 : decode cX10_turnPlaceByPlace 61 = .ok (.goto 5, 3) := by decide +kernel
theorem dX10_turnPlaceByPlace_64 : decode cX10_turnPlaceByPlace 64 = .ok (.iload 5, 2) := by decide +kernel
theorem dX10_turnPlaceByPlace_66 : decode cX10_turnPlaceByPlace 66 = .ok (.ireturn, 1) := by decide +kernel
theorem dX10_turnPlaceByPlace_67 : decode cX10_turnPlaceByPlace 67 = .ok (.iinc 3 1, 3) := by decide +kernel
theorem dX10_turnPlaceByPlace_70 : decode cX10_turnPlaceByPlace 70 = .ok (.iinc 4 1, 3) := by decide +kernel
theorem dX10_turnPlaceByPlace_73 : decode cX10_turnPlaceByPlace 73 = .ok (.goto (-68), 3) := by decide +kernel
theorem dX10_turnPlaceByPlace_76 : decode cX10_turnPlaceByPlace 76 = .ok (.iload_n 3, 1) := by decide +kernel
theorem dX10_turnPlaceByPlace_77 : decode cX10_turnPlaceByPlace 77 = .ok (.ireturn, 1) := by decide +kernel
theorem dX10_at_0 : decode cX10_at 0 = .ok (.aload_n 0, 1) := by decide +kernel
theorem dX10_at_1 : decode cX10_at 1 = .ok (.getfield 36, 3) := by decide +kernel
theorem dX10_at_4 : decode cX10_at 4 = .ok (.getfield 244, 3) := by decide +kernel
theorem dX10_at_7 : decode cX10_at 7 = .ok (.ireturn, 1) := by decide +kernel
theorem dX10_cabinet_0 : decode cX10_cabinet 0 = .ok (.aload_n 0, 1) := by decide +kernel
theorem dX10_cabinet_1 : decode cX10_cabinet 1 = .ok (.aload_n 0, 1) := by decide +kernel
theorem dX10_cabinet_2 : decode cX10_cabinet 2 = .ok (.iload_n 1, 1) := by decide +kernel
theorem dX10_cabinet_3 : decode cX10_cabinet 3 = .ok (.iload_n 2, 1) := by decide +kernel
theorem dX10_cabinet_4 : decode cX10_cabinet 4 = .ok (.invokevirtual 247, 3) := by decide +kernel
theorem dX10_cabinet_7 : decode cX10_cabinet 7 = .ok (.invokevirtual 68, 3) := by decide +kernel
theorem dX10_cabinet_10 : decode cX10_cabinet 10 = .ok (.ireturn, 1) := by decide +kernel
theorem dX10_makeCabinet_0 : decode cX10_makeCabinet 0 = .ok (.iload_n 1, 1) := by decide +kernel
theorem dX10_makeCabinet_1 : decode cX10_makeCabinet 1 = .ok (.ifCond .lt 14, 3) := by decide +kernel
theorem dX10_makeCabinet_4 : decode cX10_makeCabinet 4 = .ok (.iload_n 1, 1) := by decide +kernel
theorem dX10_makeCabinet_5 : decode cX10_makeCabinet 5 = .ok (.iconst 4, 1) := by decide +kernel
theorem dX10_makeCabinet_6 : decode cX10_makeCabinet 6 = .ok (.if_icmp .gt 9, 3) := by decide +kernel
theorem dX10_makeCabinet_9 : decode cX10_makeCabinet 9 = .ok (.iload_n 2, 1) := by decide +kernel
theorem dX10_makeCabinet_10 : decode cX10_makeCabinet 10 = .ok (.bipush 20, 2) := by decide +kernel
theorem dX10_makeCabinet_12 : decode cX10_makeCabinet 12 = .ok (.if_icmp .le 6, 3) := by decide +kernel
theorem dX10_makeCabinet_15 : decode cX10_makeCabinet 15 = .ok (.bipush (-2), 2) := by decide +kernel
theorem dX10_makeCabinet_17 : decode cX10_makeCabinet 17 = .ok (.ireturn, 1) := by decide +kernel
theorem dX10_makeCabinet_18 : decode cX10_makeCabinet 18 = .ok (.aload_n 0, 1) := by decide +kernel
theorem dX10_makeCabinet_19 : decode cX10_makeCabinet 19 = .ok (.getfield 10, 3) := by decide +kernel
theorem dX10_makeCabinet_22 : decode cX10_makeCabinet 22 = .ok (.getfield 228, 3) := by decide +kernel
theorem dX10_makeCabinet_25 : decode cX10_makeCabinet 25 = .ok (.getfield 250, 3) := by decide +kernel
theorem dX10_makeCabinet_28 : decode cX10_makeCabinet 28 = .ok (.bipush 12, 2) := by decide +kernel
theorem dX10_makeCabinet_30 : decode cX10_makeCabinet 30 = .ok (.if_icmp .lt 6, 3) := by decide +kernel
theorem dX10_makeCabinet_33 : decode cX10_makeCabinet 33 = .ok (.bipush (-4), 2) := by decide +kernel
theorem dX10_makeCabinet_35 : decode cX10_makeCabinet 35 = .ok (.ireturn, 1) := by decide +kernel
theorem dX10_makeCabinet_36 : decode cX10_makeCabinet 36 = .ok (.iload_n 2, 1) := by decide +kernel
theorem dX10_makeCabinet_37 : decode cX10_makeCabinet 37 = .ok (.ifCond .ge 6, 3) := by decide +kernel
theorem dX10_makeCabinet_40 : decode cX10_makeCabinet 40 = .ok (.bipush (-15), 2) := by decide +kernel
theorem dX10_makeCabinet_42 : decode cX10_makeCabinet 42 = .ok (.ireturn, 1) := by decide +kernel
theorem dX10_makeCabinet_43 : decode cX10_makeCabinet 43 = .ok (.aload_n 0, 1) := by decide +kernel
theorem dX10_makeCabinet_44 : decode cX10_makeCabinet 44 = .ok (.invokevirtual 81, 3) := by decide +kernel
theorem dX10_makeCabinet_47 : decode cX10_makeCabinet 47 = .ok (.aload_n 0, 1) := by decide +kernel
theorem dX10_makeCabinet_48 : decode cX10_makeCabinet 48 = .ok (.getfield 10, 3) := by decide +kernel
theorem dX10_makeCabinet_51 : decode cX10_makeCabinet 51 = .ok (.getfield 228, 3) := by decide +kernel
theorem dX10_makeCabinet_54 : decode cX10_makeCabinet 54 = .ok (.iload_n 1, 1) := by decide +kernel
theorem dX10_makeCabinet_55 : decode cX10_makeCabinet 55 = .ok (.iload_n 2, 1) := by decide +kernel
theorem dX10_makeCabinet_56 : decode cX10_makeCabinet 56 = .ok (.invokevirtual 251, 3) := by decide +kernel
theorem dX10_makeCabinet_59 : decode cX10_makeCabinet 59 = .ok (.ireturn, 1) := by decide +kernel
theorem dX10_put_0 : decode cX10_put 0 = .ok (.aload_n 0, 1) := by decide +kernel
theorem dX10_put_1 : decode cX10_put 1 = .ok (.aload_n 0, 1) := by decide +kernel
theorem dX10_put_2 : decode cX10_put 2 = .ok (.iload_n 1, 1) := by decide +kernel
theorem dX10_put_3 : decode cX10_put 3 = .ok (.iload_n 2, 1) := by decide +kernel
theorem dX10_put_4 : decode cX10_put 4 = .ok (.iload_n 3, 1) := by decide +kernel
theorem dX10_put_5 : decode cX10_put 5 = .ok (.invokevirtual 252, 3) := by decide +kernel
theorem dX10_put_8 : decode cX10_put 8 = .ok (.invokevirtual 68, 3) := by decide +kernel
theorem dX10_put_11 : decode cX10_put 11 = .ok (.ireturn, 1) := by decide +kernel
theorem dX10_putInside_0 : decode cX10_putInside 0 = .ok (.aload_n 0, 1) := by decide +kernel
theorem dX10_putInside_1 : decode cX10_putInside 1 = .ok (.getfield 10, 3) := by decide +kernel
theorem dX10_putInside_4 : decode cX10_putInside 4 = .ok (.getfield 228, 3) := by decide +kernel
theorem dX10_putInside_7 : decode cX10_putInside 7 = .ok (.iload_n 1, 1) := by decide +kernel
theorem dX10_putInside_8 : decode cX10_putInside 8 = .ok (.invokevirtual 232, 3) := by decide +kernel
theorem dX10_putInside_11 : decode cX10_putInside 11 = .ok (.ifCond .eq 17, 3) := by decide +kernel
theorem dX10_putInside_14 : decode cX10_putInside 14 = .ok (.aload_n 0, 1) := by decide +kernel
theorem dX10_putInside_15 : decode cX10_putInside 15 = .ok (.getfield 10, 3) := by decide +kernel
theorem dX10_putInside_18 : decode cX10_putInside 18 = .ok (.getfield 72, 3) := by decide +kernel
theorem dX10_putInside_21 : decode cX10_putInside 21 = .ok (.iload_n 3, 1) := by decide +kernel
theorem dX10_putInside_22 : decode cX10_putInside 22 = .ok (.invokevirtual 90, 3) := by decide +kernel
theorem dX10_putInside_25 : decode cX10_putInside 25 = .ok (.ifCond .ne 6, 3) := by decide +kernel
theorem dX10_putInside_28 : decode cX10_putInside 28 = .ok (.bipush (-2), 2) := by decide +kernel
theorem dX10_putInside_30 : decode cX10_putInside 30 = .ok (.ireturn, 1) := by decide +kernel
theorem dX10_putInside_31 : decode cX10_putInside 31 = .ok (.aload_n 0, 1) := by decide +kernel
theorem dX10_putInside_32 : decode cX10_putInside 32 = .ok (.getfield 10, 3) := by decide +kernel
theorem dX10_putInside_35 : decode cX10_putInside 35 = .ok (.getfield 228, 3) := by decide +kernel
theorem dX10_putInside_38 : decode cX10_putInside 38 = .ok (.iload_n 1, 1) := by decide +kernel
theorem dX10_putInside_39 : decode cX10_putInside 39 = .ok (.iload_n 2, 1) := by decide +kernel
theorem dX10_putInside_40 : decode cX10_putInside 40 = .ok (.invokevirtual 255, 3) := by decide +kernel
theorem dX10_putInside_43 : decode cX10_putInside 43 = .ok (.ifCond .ne 6, 3) := by decide +kernel
theorem dX10_putInside_46 : decode cX10_putInside 46 = .ok (.bipush (-12), 2) := by decide +kernel
theorem dX10_putInside_48 : decode cX10_putInside 48 = .ok (.ireturn, 1) := by decide +kernel
theorem dX10_putInside_49 : decode cX10_putInside 49 = .ok (.iload_n 3, 1) := by decide +kernel
theorem dX10_putInside_50 : decode cX10_putInside 50 = .ok (.iconst (-1), 1) := by decide +kernel
theorem dX10_putInside_51 : decode cX10_putInside 51 = .ok (.if_icmp .eq 32, 3) := by decide +kernel
theorem dX10_putInside_54 : decode cX10_putInside 54 = .ok (.aload_n 0, 1) := by decide +kernel
theorem dX10_putInside_55 : decode cX10_putInside 55 = .ok (.getfield 10, 3) := by decide +kernel
theorem dX10_putInside_58 : decode cX10_putInside 58 = .ok (.getfield 72, 3) := by decide +kernel
theorem dX10_putInside_61 : decode cX10_putInside 61 = .ok (.iload_n 3, 1) := by decide +kernel
theorem dX10_putInside_62 : decode cX10_putInside 62 = .ok (.aload_n 0, 1) := by decide +kernel
theorem dX10_putInside_63 : decode cX10_putInside 63 = .ok (.getfield 10, 3) := by decide +kernel
theorem dX10_putInside_66 : decode cX10_putInside 66 = .ok (.getfield 228, 3) := by decide +kernel
theorem dX10_putInside_69 : decode cX10_putInside 69 = .ok (.getfield 258, 3) := by decide +kernel
theorem dX10_putInside_72 : decode cX10_putInside 72 = .ok (.iload_n 1, 1) := by decide +kernel
theorem dX10_putInside_73 : decode cX10_putInside 73 = .ok (.iaload, 1) := by decide +kernel
theorem dX10_putInside_74 : decode cX10_putInside 74 = .ok (.invokevirtual 259, 3) := by decide +kernel
theorem dX10_putInside_77 : decode cX10_putInside 77 = .ok (.ifCond .ne 6, 3) := by decide +kernel
theorem dX10_putInside_80 : decode cX10_putInside 80 = .ok (.bipush (-14), 2) := by decide +kernel
theorem dX10_putInside_82 : decode cX10_putInside 82 = .ok (.ireturn, 1) := by decide +kernel
theorem dX10_putInside_83 : decode cX10_putInside 83 = .ok (.aload_n 0, 1) := by decide +kernel
theorem dX10_putInside_84 : decode cX10_putInside 84 = .ok (.invokevirtual 81, 3) := by decide +kernel
theorem dX10_putInside_87 : decode cX10_putInside 87 = .ok (.aload_n 0, 1) := by decide +kernel
theorem dX10_putInside_88 : decode cX10_putInside 88 = .ok (.getfield 10, 3) := by decide +kernel
theorem dX10_putInside_91 : decode cX10_putInside 91 = .ok (.getfield 228, 3) := by decide +kernel
theorem dX10_putInside_94 : decode cX10_putInside 94 = .ok (.iload_n 1, 1) := by decide +kernel
theorem dX10_putInside_95 : decode cX10_putInside 95 = .ok (.iload_n 2, 1) := by decide +kernel
theorem dX10_putInside_96 : decode cX10_putInside 96 = .ok (.iload_n 3, 1) := by decide +kernel
theorem dX10_putInside_97 : decode cX10_putInside 97 = .ok (.invokevirtual 262, 3) := by decide +kernel
theorem dX10_putInside_100 : decode cX10_putInside 100 = .ok (.ireturn, 1) := by decide +kernel
theorem dX10_inside_0 : decode cX10_inside 0 = .ok (.aload_n 0, 1) := by decide +kernel
theorem dX10_inside_1 : decode cX10_inside 1 = .ok (.getfield 10, 3) := by decide +kernel
theorem dX10_inside_4 : decode cX10_inside 4 = .ok (.getfield 228, 3) := by decide +kernel
theorem dX10_inside_7 : decode cX10_inside 7 = .ok (.iload_n 1, 1) := by decide +kernel
theorem dX10_inside_8 : decode cX10_inside 8 = .ok (.invokevirtual 232, 3) := by decide +kernel
theorem dX10_inside_11 : decode cX10_inside 11 = .ok (.ifCond .ne 6, 3) := by decide +kernel
theorem dX10_inside_14 : decode cX10_inside 14 = .ok (.bipush (-2), 2) := by decide +kernel
theorem dX10_inside_16 : decode cX10_inside 16 = .ok (.ireturn, 1) := by decide +kernel
theorem dX10_inside_17 : decode cX10_inside 17 = .ok (.aload_n 0, 1) := by decide +kernel
theorem dX10_inside_18 : decode cX10_inside 18 = .ok (.aload_n 0, 1) := by decide +kernel
theorem dX10_inside_19 : decode cX10_inside 19 = .ok (.getfield 10, 3) := by decide +kernel
theorem dX10_inside_22 : decode cX10_inside 22 = .ok (.getfield 228, 3) := by decide +kernel
theorem dX10_inside_25 : decode cX10_inside 25 = .ok (.iload_n 1, 1) := by decide +kernel
theorem dX10_inside_26 : decode cX10_inside 26 = .ok (.iload_n 2, 1) := by decide +kernel
theorem dX10_inside_27 : decode cX10_inside 27 = .ok (.invokevirtual 255, 3) := by decide +kernel
theorem dX10_inside_30 : decode cX10_inside 30 = .ok (.ifCond .eq 18, 3) := by decide +kernel
theorem dX10_inside_33 : decode cX10_inside 33 = .ok (.aload_n 0, 1) := by decide +kernel
theorem dX10_inside_34 : decode cX10_inside 34 = .ok (.getfield 10, 3) := by decide +kernel
theorem dX10_inside_37 : decode cX10_inside 37 = .ok (.getfield 228, 3) := by decide +kernel
theorem dX10_inside_40 : decode cX10_inside 40 = .ok (.iload_n 1, 1) := by decide +kernel
theorem dX10_inside_41 : decode cX10_inside 41 = .ok (.iload_n 2, 1) := by decide +kernel
theorem dX10_inside_42 : decode cX10_inside 42 = .ok (.invokevirtual 241, 3) := by decide +kernel
theorem dX10_inside_45 : decode cX10_inside 45 = .ok (.goto 5, 3) := by decide +kernel
theorem dX10_inside_48 : decode cX10_inside 48 = .ok (.bipush (-12), 2) := by decide +kernel
theorem dX10_inside_50 : decode cX10_inside 50 = .ok (.invokevirtual 68, 3) := by decide +kernel
theorem dX10_inside_53 : decode cX10_inside 53 = .ok (.ireturn, 1) := by decide +kernel
theorem dX10_door_0 : decode cX10_door 0 = .ok (.aload_n 0, 1) := by decide +kernel
theorem dX10_door_1 : decode cX10_door 1 = .ok (.getfield 10, 3) := by decide +kernel
theorem dX10_door_4 : decode cX10_door 4 = .ok (.getfield 265, 3) := by decide +kernel
theorem dX10_door_7 : decode cX10_door 7 = .ok (.bipush 40, 2) := by decide +kernel
theorem dX10_door_9 : decode cX10_door 9 = .ok (.if_icmp .lt 6, 3) := by decide +kernel
theorem dX10_door_12 : decode cX10_door 12 = .ok (.bipush (-4), 2) := by decide +kernel
theorem dX10_door_14 : decode cX10_door 14 = .ok (.ireturn, 1) := by decide +kernel
theorem dX10_door_15 : decode cX10_door 15 = .ok (.aload_n 0, 1) := by decide +kernel
theorem dX10_door_16 : decode cX10_door 16 = .ok (.invokevirtual 81, 3) := by decide +kernel
theorem dX10_door_19 : decode cX10_door 19 = .ok (.aload_n 0, 1) := by decide +kernel
theorem dX10_door_20 : decode cX10_door 20 = .ok (.getfield 10, 3) := by decide +kernel
theorem dX10_door_23 : decode cX10_door 23 = .ok (.getfield 225, 3) := by decide +kernel
theorem dX10_door_26 : decode cX10_door 26 = .ok (.aload_n 0, 1) := by decide +kernel
theorem dX10_door_27 : decode cX10_door 27 = .ok (.getfield 10, 3) := by decide +kernel
theorem dX10_door_30 : decode cX10_door 30 = .ok (.getfield 265, 3) := by decide +kernel
theorem dX10_door_33 : decode cX10_door 33 = .ok (.iconst (-1), 1) := by decide +kernel
theorem dX10_door_34 : decode cX10_door 34 = .ok (.iastore, 1) := by decide +kernel
theorem dX10_door_35 : decode cX10_door 35 = .ok (.aload_n 0, 1) := by decide +kernel
theorem dX10_door_36 : decode cX10_door 36 = .ok (.getfield 10, 3) := by decide +kernel
theorem dX10_door_39 : decode cX10_door 39 = .ok (.dup, 1) := by decide +kernel
theorem dX10_door_40 : decode cX10_door 40 = .ok (.getfield 265, 3) := by decide +kernel
theorem dX10_door_43 : decode cX10_door 43 = .ok (.iconst 1, 1) := by decide +kernel
theorem dX10_door_44 : decode cX10_door 44 = .ok (.iadd, 1) := by decide +kernel
theorem dX10_door_45 : decode cX10_door 45 = .ok (.putfield 265, 3) := by decide +kernel
theorem dX10_door_48 : decode cX10_door 48 = .ok (.aload_n 0, 1) := by decide +kernel
theorem dX10_door_49 : decode cX10_door 49 = .ok (.getfield 10, 3) := by decide +kernel
theorem dX10_door_52 : decode cX10_door 52 = .ok (.getfield 265, 3) := by decide +kernel
theorem dX10_door_55 : decode cX10_door 55 = .ok (.iconst 1, 1) := by decide +kernel
theorem dX10_door_56 : decode cX10_door 56 = .ok (.isub, 1) := by decide +kernel
theorem dX10_door_57 : decode cX10_door 57 = .ok (.ireturn, 1) := by decide +kernel
theorem dX10_fit_0 : decode cX10_fit 0 = .ok (.aload_n 0, 1) := by decide +kernel
theorem dX10_fit_1 : decode cX10_fit 1 = .ok (.getfield 10, 3) := by decide +kernel
theorem dX10_fit_4 : decode cX10_fit 4 = .ok (.iload_n 1, 1) := by decide +kernel
theorem dX10_fit_5 : decode cX10_fit 5 = .ok (.invokevirtual 222, 3) := by decide +kernel
theorem dX10_fit_8 : decode cX10_fit 8 = .ok (.ifCond .eq 17, 3) := by decide +kernel
theorem dX10_fit_11 : decode cX10_fit 11 = .ok (.aload_n 0, 1) := by decide +kernel
theorem dX10_fit_12 : decode cX10_fit 12 = .ok (.getfield 10, 3) := by decide +kernel
theorem dX10_fit_15 : decode cX10_fit 15 = .ok (.getfield 72, 3) := by decide +kernel
theorem dX10_fit_18 : decode cX10_fit 18 = .ok (.iload_n 2, 1) := by decide +kernel
theorem dX10_fit_19 : decode cX10_fit 19 = .ok (.invokevirtual 90, 3) := by decide +kernel
theorem dX10_fit_22 : decode cX10_fit 22 = .ok (.ifCond .ne 6, 3) := by decide +kernel
theorem dX10_fit_25 : decode cX10_fit 25 = .ok (.bipush (-2), 2) := by decide +kernel
theorem dX10_fit_27 : decode cX10_fit 27 = .ok (.ireturn, 1) := by decide +kernel
theorem dX10_fit_28 : decode cX10_fit 28 = .ok (.aload_n 0, 1) := by decide +kernel
theorem dX10_fit_29 : decode cX10_fit 29 = .ok (.invokevirtual 81, 3) := by decide +kernel
theorem dX10_fit_32 : decode cX10_fit 32 = .ok (.aload_n 0, 1) := by decide +kernel
theorem dX10_fit_33 : decode cX10_fit 33 = .ok (.getfield 10, 3) := by decide +kernel
theorem dX10_fit_36 : decode cX10_fit 36 = .ok (.getfield 225, 3) := by decide +kernel
theorem dX10_fit_39 : decode cX10_fit 39 = .ok (.iload_n 1, 1) := by decide +kernel
theorem dX10_fit_40 : decode cX10_fit 40 = .ok (.iaload, 1) := by decide +kernel
theorem dX10_fit_41 : decode cX10_fit 41 = .ok (.istore_n 3, 1) := by decide +kernel
theorem dX10_fit_42 : decode cX10_fit 42 = .ok (.aload_n 0, 1) := by decide +kernel
theorem dX10_fit_43 : decode cX10_fit 43 = .ok (.getfield 10, 3) := by decide +kernel
theorem dX10_fit_46 : decode cX10_fit 46 = .ok (.getfield 225, 3) := by decide +kernel
theorem dX10_fit_49 : decode cX10_fit 49 = .ok (.iload_n 1, 1) := by decide +kernel
theorem dX10_fit_50 : decode cX10_fit 50 = .ok (.iload_n 2, 1) := by decide +kernel
theorem dX10_fit_51 : decode cX10_fit 51 = .ok (.iastore, 1) := by decide +kernel
theorem dX10_fit_52 : decode cX10_fit 52 = .ok (.iload_n 3, 1) := by decide +kernel
theorem dX10_fit_53 : decode cX10_fit 53 = .ok (.ireturn, 1) := by decide +kernel
theorem dX10_person_0 : decode cX10_person 0 = .ok (.aload_n 0, 1) := by decide +kernel
theorem dX10_person_1 : decode cX10_person 1 = .ok (.getfield 10, 3) := by decide +kernel
theorem dX10_person_4 : decode cX10_person 4 = .ok (.getfield 268, 3) := by decide +kernel
theorem dX10_person_7 : decode cX10_person 7 = .ok (.bipush 40, 2) := by decide +kernel
theorem dX10_person_9 : decode cX10_person 9 = .ok (.if_icmp .lt 6, 3) := by decide +kernel
theorem dX10_person_12 : decode cX10_person 12 = .ok (.bipush (-4), 2) := by decide +kernel
theorem dX10_person_14 : decode cX10_person 14 = .ok (.ireturn, 1) := by decide +kernel
theorem dX10_person_15 : decode cX10_person 15 = .ok (.aload_n 0, 1) := by decide +kernel
theorem dX10_person_16 : decode cX10_person 16 = .ok (.invokevirtual 81, 3) := by decide +kernel
theorem dX10_person_19 : decode cX10_person 19 = .ok (.aload_n 0, 1) := by decide +kernel
theorem dX10_person_20 : decode cX10_person 20 = .ok (.getfield 10, 3) := by decide +kernel
theorem dX10_person_23 : decode cX10_person 23 = .ok (.dup, 1) := by decide +kernel
theorem dX10_person_24 : decode cX10_person 24 = .ok (.getfield 268, 3) := by decide +kernel
theorem dX10_person_27 : decode cX10_person 27 = .ok (.iconst 1, 1) := by decide +kernel
theorem dX10_person_28 : decode cX10_person 28 = .ok (.iadd, 1) := by decide +kernel
theorem dX10_person_29 : decode cX10_person 29 = .ok (.putfield 268, 3) := by decide +kernel
theorem dX10_person_32 : decode cX10_person 32 = .ok (.aload_n 0, 1) := by decide +kernel
theorem dX10_person_33 : decode cX10_person 33 = .ok (.getfield 10, 3) := by decide +kernel
theorem dX10_person_36 : decode cX10_person 36 = .ok (.getfield 268, 3) := by decide +kernel
theorem dX10_person_39 : decode cX10_person 39 = .ok (.iconst 1, 1) := by decide +kernel
theorem dX10_person_40 : decode cX10_person 40 = .ok (.isub, 1) := by decide +kernel
theorem dX10_person_41 : decode cX10_person 41 = .ok (.ireturn, 1) := by decide +kernel
theorem dX10_lend_0 : decode cX10_lend 0 = .ok (.aload_n 0, 1) := by decide +kernel
theorem dX10_lend_1 : decode cX10_lend 1 = .ok (.getfield 10, 3) := by decide +kernel
theorem dX10_lend_4 : decode cX10_lend 4 = .ok (.getfield 191, 3) := by decide +kernel
theorem dX10_lend_7 : decode cX10_lend 7 = .ok (.iload_n 1, 1) := by decide +kernel
theorem dX10_lend_8 : decode cX10_lend 8 = .ok (.invokevirtual 202, 3) := by decide +kernel
theorem dX10_lend_11 : decode cX10_lend 11 = .ok (.ifCond .eq 18, 3) := by decide +kernel
theorem dX10_lend_14 : decode cX10_lend 14 = .ok (.iload_n 2, 1) := by decide +kernel
theorem dX10_lend_15 : decode cX10_lend 15 = .ok (.ifCond .lt 14, 3) := by decide +kernel
theorem dX10_lend_18 : decode cX10_lend 18 = .ok (.iload_n 2, 1) := by decide +kernel
theorem dX10_lend_19 : decode cX10_lend 19 = .ok (.aload_n 0, 1) := by decide +kernel
theorem dX10_lend_20 : decode cX10_lend 20 = .ok (.getfield 10, 3) := by decide +kernel
theorem dX10_lend_23 : decode cX10_lend 23 = .ok (.getfield 268, 3) := by decide +kernel
theorem dX10_lend_26 : decode cX10_lend 26 = .ok (.if_icmp .lt 6, 3) := by decide +kernel
theorem dX10_lend_29 : decode cX10_lend 29 = .ok (.bipush (-2), 2) := by decide +kernel
theorem dX10_lend_31 : decode cX10_lend 31 = .ok (.ireturn, 1) := by decide +kernel
theorem dX10_lend_32 : decode cX10_lend 32 = .ok (.aload_n 0, 1) := by decide +kernel
theorem dX10_lend_33 : decode cX10_lend 33 = .ok (.getfield 10, 3) := by decide +kernel
theorem dX10_lend_36 : decode cX10_lend 36 = .ok (.getfield 191, 3) := by decide +kernel
theorem dX10_lend_39 : decode cX10_lend 39 = .ok (.getfield 271, 3) := by decide +kernel
theorem dX10_lend_42 : decode cX10_lend 42 = .ok (.iload_n 1, 1) := by decide +kernel
theorem dX10_lend_43 : decode cX10_lend 43 = .ok (.iaload, 1) := by decide +kernel
theorem dX10_lend_44 : decode cX10_lend 44 = .ok (.iconst (-1), 1) := by decide +kernel
theorem dX10_lend_45 : decode cX10_lend 45 = .ok (.if_icmp .eq 6, 3) := by decide +kernel
theorem dX10_lend_48 : decode cX10_lend 48 = .ok (.bipush (-3), 2) := by decide +kernel
theorem dX10_lend_50 : decode cX10_lend 50 = .ok (.ireturn, 1) := by decide +kernel
theorem dX10_lend_51 : decode cX10_lend 51 = .ok (.aload_n 0, 1) := by decide +kernel
theorem dX10_lend_52 : decode cX10_lend 52 = .ok (.invokevirtual 81, 3) := by decide +kernel
theorem dX10_lend_55 : decode cX10_lend 55 = .ok (.aload_n 0, 1) := by decide +kernel
theorem dX10_lend_56 : decode cX10_lend 56 = .ok (.getfield 10, 3) := by decide +kernel
theorem dX10_lend_59 : decode cX10_lend 59 = .ok (.getfield 191, 3) := by decide +kernel
theorem dX10_lend_62 : decode cX10_lend 62 = .ok (.getfield 271, 3) := by decide +kernel
theorem dX10_lend_65 : decode cX10_lend 65 = .ok (.iload_n 1, 1) := by decide +kernel
theorem dX10_lend_66 : decode cX10_lend 66 = .ok (.iload_n 2, 1) := by decide +kernel
theorem dX10_lend_67 : decode cX10_lend 67 = .ok (.iastore, 1) := by decide +kernel
theorem dX10_lend_68 : decode cX10_lend 68 = .ok (.aload_n 0, 1) := by decide +kernel
theorem dX10_lend_69 : decode cX10_lend 69 = .ok (.getfield 10, 3) := by decide +kernel
theorem dX10_lend_72 : decode cX10_lend 72 = .ok (.getfield 191, 3) := by decide +kernel
theorem dX10_lend_75 : decode cX10_lend 75 = .ok (.iload_n 2, 1) := by decide +kernel
theorem dX10_lend_76 : decode cX10_lend 76 = .ok (.invokevirtual 274, 3) := by decide +kernel
theorem dX10_lend_79 : decode cX10_lend 79 = .ok (.ireturn, 1) := by decide +kernel
theorem dX10_bringBack_0 : decode cX10_bringBack 0 = .ok (.aload_n 0, 1) := by decide +kernel
theorem dX10_bringBack_1 : decode cX10_bringBack 1 = .ok (.getfield 10, 3) := by decide +kernel
theorem dX10_bringBack_4 : decode cX10_bringBack 4 = .ok (.getfield 191, 3) := by decide +kernel
theorem dX10_bringBack_7 : decode cX10_bringBack 7 = .ok (.iload_n 1, 1) := by decide +kernel
theorem dX10_bringBack_8 : decode cX10_bringBack 8 = .ok (.invokevirtual 202, 3) := by decide +kernel
theorem dX10_bringBack_11 : decode cX10_bringBack 11 = .ok (.ifCond .ne 6, 3) := by decide +kernel
theorem dX10_bringBack_14 : decode cX10_bringBack 14 = .ok (.bipush (-2), 2) := by decide +kernel
theorem dX10_bringBack_16 : decode cX10_bringBack 16 = .ok (.ireturn, 1) := by decide +kernel
theorem dX10_bringBack_17 : decode cX10_bringBack 17 = .ok (.aload_n 0, 1) := by decide +kernel
theorem dX10_bringBack_18 : decode cX10_bringBack 18 = .ok (.getfield 10, 3) := by decide +kernel
theorem dX10_bringBack_21 : decode cX10_bringBack 21 = .ok (.getfield 191, 3) := by decide +kernel
theorem dX10_bringBack_24 : decode cX10_bringBack 24 = .ok (.getfield 271, 3) := by decide +kernel
theorem dX10_bringBack_27 : decode cX10_bringBack 27 = .ok (.iload_n 1, 1) := by decide +kernel
theorem dX10_bringBack_28 : decode cX10_bringBack 28 = .ok (.iaload, 1) := by decide +kernel
theorem dX10_bringBack_29 : decode cX10_bringBack 29 = .ok (.istore_n 2, 1) := by decide +kernel
theorem dX10_bringBack_30 : decode cX10_bringBack 30 = .ok (.iload_n 2, 1) := by decide +kernel
theorem dX10_bringBack_31 : decode cX10_bringBack 31 = .ok (.ifCond .ge 6, 3) := by decide +kernel
theorem dX10_bringBack_34 : decode cX10_bringBack 34 = .ok (.bipush (-3), 2) := by decide +kernel
theorem dX10_bringBack_36 : decode cX10_bringBack 36 = .ok (.ireturn, 1) := by decide +kernel
theorem dX10_bringBack_37 : decode cX10_bringBack 37 = .ok (.aload_n 0, 1) := by decide +kernel
theorem dX10_bringBack_38 : decode cX10_bringBack 38 = .ok (.invokevirtual 81, 3) := by decide +kernel
theorem dX10_bringBack_41 : decode cX10_bringBack 41 = .ok (.aload_n 0, 1) := by decide +kernel
theorem dX10_bringBack_42 : decode cX10_bringBack 42 = .ok (.getfield 10, 3) := by decide +kernel
theorem dX10_bringBack_45 : decode cX10_bringBack 45 = .ok (.getfield 191, 3) := by decide +kernel
theorem dX10_bringBack_48 : decode cX10_bringBack 48 = .ok (.getfield 271, 3) := by decide +kernel
theorem dX10_bringBack_51 : decode cX10_bringBack 51 = .ok (.iload_n 1, 1) := by decide +kernel
theorem dX10_bringBack_52 : decode cX10_bringBack 52 = .ok (.iconst (-1), 1) := by decide +kernel
theorem dX10_bringBack_53 : decode cX10_bringBack 53 = .ok (.iastore, 1) := by decide +kernel
theorem dX10_bringBack_54 : decode cX10_bringBack 54 = .ok (.iload_n 2, 1) := by decide +kernel
theorem dX10_bringBack_55 : decode cX10_bringBack 55 = .ok (.ireturn, 1) := by decide +kernel
theorem dX10_lose_0 : decode cX10_lose 0 = .ok (.aload_n 0, 1) := by decide +kernel
theorem dX10_lose_1 : decode cX10_lose 1 = .ok (.getfield 10, 3) := by decide +kernel
theorem dX10_lose_4 : decode cX10_lose 4 = .ok (.getfield 191, 3) := by decide +kernel
theorem dX10_lose_7 : decode cX10_lose 7 = .ok (.iload_n 1, 1) := by decide +kernel
theorem dX10_lose_8 : decode cX10_lose 8 = .ok (.invokevirtual 202, 3) := by decide +kernel
theorem dX10_lose_11 : decode cX10_lose 11 = .ok (.ifCond .ne 6, 3) := by decide +kernel
theorem dX10_lose_14 : decode cX10_lose 14 = .ok (.bipush (-2), 2) := by decide +kernel
theorem dX10_lose_16 : decode cX10_lose 16 = .ok (.ireturn, 1) := by decide +kernel
theorem dX10_lose_17 : decode cX10_lose 17 = .ok (.aload_n 0, 1) := by decide +kernel
theorem dX10_lose_18 : decode cX10_lose 18 = .ok (.getfield 10, 3) := by decide +kernel
theorem dX10_lose_21 : decode cX10_lose 21 = .ok (.getfield 191, 3) := by decide +kernel
theorem dX10_lose_24 : decode cX10_lose 24 = .ok (.getfield 271, 3) := by decide +kernel
theorem dX10_lose_27 : decode cX10_lose 27 = .ok (.iload_n 1, 1) := by decide +kernel
theorem dX10_lose_28 : decode cX10_lose 28 = .ok (.iaload, 1) := by decide +kernel
theorem dX10_lose_29 : decode cX10_lose 29 = .ok (.istore_n 2, 1) := by decide +kernel
theorem dX10_lose_30 : decode cX10_lose 30 = .ok (.iload_n 2, 1) := by decide +kernel
theorem dX10_lose_31 : decode cX10_lose 31 = .ok (.bipush (-6), 2) := by decide +kernel
theorem dX10_lose_33 : decode cX10_lose 33 = .ok (.if_icmp .ne 6, 3) := by decide +kernel
theorem dX10_lose_36 : decode cX10_lose 36 = .ok (.bipush (-3), 2) := by decide +kernel
theorem dX10_lose_38 : decode cX10_lose 38 = .ok (.ireturn, 1) := by decide +kernel
theorem dX10_lose_39 : decode cX10_lose 39 = .ok (.aload_n 0, 1) := by decide +kernel
theorem dX10_lose_40 : decode cX10_lose 40 = .ok (.invokevirtual 81, 3) := by decide +kernel
theorem dX10_lose_43 : decode cX10_lose 43 = .ok (.aload_n 0, 1) := by decide +kernel
theorem dX10_lose_44 : decode cX10_lose 44 = .ok (.getfield 10, 3) := by decide +kernel
theorem dX10_lose_47 : decode cX10_lose 47 = .ok (.getfield 191, 3) := by decide +kernel
theorem dX10_lose_50 : decode cX10_lose 50 = .ok (.getfield 271, 3) := by decide +kernel
theorem dX10_lose_53 : decode cX10_lose 53 = .ok (.iload_n 1, 1) := by decide +kernel
theorem dX10_lose_54 : decode cX10_lose 54 = .ok (.bipush (-6), 2) := by decide +kernel
theorem dX10_lose_56 : decode cX10_lose 56 = .ok (.iastore, 1) := by decide +kernel
theorem dX10_lose_57 : decode cX10_lose 57 = .ok (.iload_n 2, 1) := by decide +kernel
theorem dX10_lose_58 : decode cX10_lose 58 = .ok (.ireturn, 1) := by decide +kernel
theorem dX10_found_0 : decode cX10_found 0 = .ok (.aload_n 0, 1) := by decide +kernel
theorem dX10_found_1 : decode cX10_found 1 = .ok (.getfield 10, 3) := by decide +kernel
theorem dX10_found_4 : decode cX10_found 4 = .ok (.getfield 191, 3) := by decide +kernel
theorem dX10_found_7 : decode cX10_found 7 = .ok (.iload_n 1, 1) := by decide +kernel
theorem dX10_found_8 : decode cX10_found 8 = .ok (.invokevirtual 202, 3) := by decide +kernel
theorem dX10_found_11 : decode cX10_found 11 = .ok (.ifCond .ne 6, 3) := by decide +kernel
theorem dX10_found_14 : decode cX10_found 14 = .ok (.bipush (-2), 2) := by decide +kernel
theorem dX10_found_16 : decode cX10_found 16 = .ok (.ireturn, 1) := by decide +kernel
theorem dX10_found_17 : decode cX10_found 17 = .ok (.aload_n 0, 1) := by decide +kernel
theorem dX10_found_18 : decode cX10_found 18 = .ok (.getfield 10, 3) := by decide +kernel
theorem dX10_found_21 : decode cX10_found 21 = .ok (.getfield 191, 3) := by decide +kernel
theorem dX10_found_24 : decode cX10_found 24 = .ok (.getfield 271, 3) := by decide +kernel
theorem dX10_found_27 : decode cX10_found 27 = .ok (.iload_n 1, 1) := by decide +kernel
theorem dX10_found_28 : decode cX10_found 28 = .ok (.iaload, 1) := by decide +kernel
theorem dX10_found_29 : decode cX10_found 29 = .ok (.bipush (-6), 2) := by decide +kernel
theorem dX10_found_31 : decode cX10_found 31 = .ok (.if_icmp .eq 6, 3) := by decide +kernel
theorem dX10_found_34 : decode cX10_found 34 = .ok (.bipush (-3), 2) := by decide +kernel
theorem dX10_found_36 : decode cX10_found 36 = .ok (.ireturn, 1) := by decide +kernel
theorem dX10_found_37 : decode cX10_found 37 = .ok (.aload_n 0, 1) := by decide +kernel
theorem dX10_found_38 : decode cX10_found 38 = .ok (.invokevirtual 81, 3) := by decide +kernel
theorem dX10_found_41 : decode cX10_found 41 = .ok (.aload_n 0, 1) := by decide +kernel
theorem dX10_found_42 : decode cX10_found 42 = .ok (.getfield 10, 3) := by decide +kernel
theorem dX10_found_45 : decode cX10_found 45 = .ok (.getfield 191, 3) := by decide +kernel
theorem dX10_found_48 : decode cX10_found 48 = .ok (.getfield 271, 3) := by decide +kernel
theorem dX10_found_51 : decode cX10_found 51 = .ok (.iload_n 1, 1) := by decide +kernel
theorem dX10_found_52 : decode cX10_found 52 = .ok (.iconst (-1), 1) := by decide +kernel
theorem dX10_found_53 : decode cX10_found 53 = .ok (.iastore, 1) := by decide +kernel
theorem dX10_found_54 : decode cX10_found 54 = .ok (.iconst 1, 1) := by decide +kernel
theorem dX10_found_55 : decode cX10_found 55 = .ok (.ireturn, 1) := by decide +kernel
theorem dX10_holder_0 : decode cX10_holder 0 = .ok (.aload_n 0, 1) := by decide +kernel
theorem dX10_holder_1 : decode cX10_holder 1 = .ok (.getfield 10, 3) := by decide +kernel
theorem dX10_holder_4 : decode cX10_holder 4 = .ok (.getfield 191, 3) := by decide +kernel
theorem dX10_holder_7 : decode cX10_holder 7 = .ok (.iload_n 1, 1) := by decide +kernel
theorem dX10_holder_8 : decode cX10_holder 8 = .ok (.invokevirtual 202, 3) := by decide +kernel
theorem dX10_holder_11 : decode cX10_holder 11 = .ok (.ifCond .eq 18, 3) := by decide +kernel
theorem dX10_holder_14 : decode cX10_holder 14 = .ok (.aload_n 0, 1) := by decide +kernel
theorem dX10_holder_15 : decode cX10_holder 15 = .ok (.getfield 10, 3) := by decide +kernel
theorem dX10_holder_18 : decode cX10_holder 18 = .ok (.getfield 191, 3) := by decide +kernel
theorem dX10_holder_21 : decode cX10_holder 21 = .ok (.getfield 271, 3) := by decide +kernel
theorem dX10_holder_24 : decode cX10_holder 24 = .ok (.iload_n 1, 1) := by decide +kernel
theorem dX10_holder_25 : decode cX10_holder 25 = .ok (.iaload, 1) := by decide +kernel
theorem dX10_holder_26 : decode cX10_holder 26 = .ok (.goto 5, 3) := by decide +kernel
theorem dX10_holder_29 : decode cX10_holder 29 = .ok (.bipush (-2), 2) := by decide +kernel
theorem dX10_holder_31 : decode cX10_holder 31 = .ok (.ireturn, 1) := by decide +kernel
theorem dX10_wish_0 : decode cX10_wish 0 = .ok (.aload_n 0, 1) := by decide +kernel
theorem dX10_wish_1 : decode cX10_wish 1 = .ok (.getfield 10, 3) := by decide +kernel
theorem dX10_wish_4 : decode cX10_wish 4 = .ok (.getfield 191, 3) := by decide +kernel
theorem dX10_wish_7 : decode cX10_wish 7 = .ok (.iload_n 1, 1) := by decide +kernel
theorem dX10_wish_8 : decode cX10_wish 8 = .ok (.invokevirtual 202, 3) := by decide +kernel
theorem dX10_wish_11 : decode cX10_wish 11 = .ok (.ifCond .eq 23, 3) := by decide +kernel
theorem dX10_wish_14 : decode cX10_wish 14 = .ok (.aload_n 0, 1) := by decide +kernel
theorem dX10_wish_15 : decode cX10_wish 15 = .ok (.getfield 10, 3) := by decide +kernel
theorem dX10_wish_18 : decode cX10_wish 18 = .ok (.iload_n 2, 1) := by decide +kernel
theorem dX10_wish_19 : decode cX10_wish 19 = .ok (.invokevirtual 222, 3) := by decide +kernel
theorem dX10_wish_22 : decode cX10_wish 22 = .ok (.ifCond .eq 12, 3) := by decide +kernel
theorem dX10_wish_25 : decode cX10_wish 25 = .ok (.iload_n 3, 1) := by decide +kernel
theorem dX10_wish_26 : decode cX10_wish 26 = .ok (.ifCond .lt 8, 3) := by decide +kernel
theorem dX10_wish_29 : decode cX10_wish 29 = .ok (.iload_n 3, 1) := by decide +kernel
theorem dX10_wish_30 : decode cX10_wish 30 = .ok (.iconst 2, 1) := by decide +kernel
theorem dX10_wish_31 : decode cX10_wish 31 = .ok (.if_icmp .le 6, 3) := by decide +kernel
theorem dX10_wish_34 : decode cX10_wish 34 = .ok (.bipush (-2), 2) := by decide +kernel
theorem dX10_wish_36 : decode cX10_wish 36 = .ok (.ireturn, 1) := by decide +kernel
theorem dX10_wish_37 : decode cX10_wish 37 = .ok (.aload_n 0, 1) := by decide +kernel
theorem dX10_wish_38 : decode cX10_wish 38 = .ok (.invokevirtual 81, 3) := by decide +kernel
theorem dX10_wish_41 : decode cX10_wish 41 = .ok (.aload_n 0, 1) := by decide +kernel
theorem dX10_wish_42 : decode cX10_wish 42 = .ok (.getfield 10, 3) := by decide +kernel
theorem dX10_wish_45 : decode cX10_wish 45 = .ok (.getfield 191, 3) := by decide +kernel
theorem dX10_wish_48 : decode cX10_wish 48 = .ok (.iload_n 1, 1) := by decide +kernel
theorem dX10_wish_49 : decode cX10_wish 49 = .ok (.iload_n 2, 1) := by decide +kernel
theorem dX10_wish_50 : decode cX10_wish 50 = .ok (.iload_n 3, 1) := by decide +kernel
theorem dX10_wish_51 : decode cX10_wish 51 = .ok (.invokevirtual 277, 3) := by decide +kernel
theorem dX10_wish_54 : decode cX10_wish 54 = .ok (.ireturn, 1) := by decide +kernel
theorem dX10_work_0 : decode cX10_work 0 = .ok (.aload_n 0, 1) := by decide +kernel
theorem dX10_work_1 : decode cX10_work 1 = .ok (.aload_n 0, 1) := by decide +kernel
theorem dX10_work_2 : decode cX10_work 2 = .ok (.iconst (-1), 1) := by decide +kernel
theorem dX10_work_3 : decode cX10_work 3 = .ok (.iload_n 1, 1) := by decide +kernel
theorem dX10_work_4 : decode cX10_work 4 = .ok (.iload_n 2, 1) := by decide +kernel
theorem dX10_work_5 : decode cX10_work 5 = .ok (.iload_n 3, 1) := by decide +kernel
theorem dX10_work_6 : decode cX10_work 6 = .ok (.iload 4, 2) := by decide +kernel
theorem dX10_work_8 : decode cX10_work 8 = .ok (.invokevirtual 280, 3) := by decide +kernel
theorem dX10_work_11 : decode cX10_work 11 = .ok (.invokevirtual 68, 3) := by decide +kernel
theorem dX10_work_14 : decode cX10_work 14 = .ok (.ireturn, 1) := by decide +kernel
theorem dX10_anew_0 : decode cX10_anew 0 = .ok (.iload_n 1, 1) := by decide +kernel
theorem dX10_anew_1 : decode cX10_anew 1 = .ok (.ifCond .lt 12, 3) := by decide +kernel
theorem dX10_anew_4 : decode cX10_anew 4 = .ok (.iload_n 1, 1) := by decide +kernel
theorem dX10_anew_5 : decode cX10_anew 5 = .ok (.iload_n 2, 1) := by decide +kernel
theorem dX10_anew_6 : decode cX10_anew 6 = .ok (.if_icmp .ge 7, 3) := by decide +kernel
theorem dX10_anew_9 : decode cX10_anew 9 = .ok (.iconst 1, 1) := by decide +kernel
theorem dX10_anew_10 : decode cX10_anew 10 = .ok (.goto 4, 3) := by decide +kernel
theorem dX10_anew_13 : decode cX10_anew 13 = .ok (.iconst 0, 1) := by decide +kernel
theorem dX10_anew_14 : decode cX10_anew 14 = .ok (.istore 6, 2) := by decide +kernel
theorem dX10_anew_16 : decode cX10_anew 16 = .ok (.iload 6, 2) := by decide +kernel
theorem dX10_anew_18 : decode cX10_anew 18 = .ok (.ifCond .eq 21, 3) := by decide +kernel
theorem dX10_anew_21 : decode cX10_anew 21 = .ok (.aload_n 0, 1) := by decide +kernel
theorem dX10_anew_22 : decode cX10_anew 22 = .ok (.aload_n 0, 1) := by decide +kernel
theorem dX10_anew_23 : decode cX10_anew 23 = .ok (.iload_n 1, 1) := by decide +kernel
theorem dX10_anew_24 : decode cX10_anew 24 = .ok (.iload_n 2, 1) := by decide +kernel
theorem dX10_anew_25 : decode cX10_anew 25 = .ok (.iload_n 3, 1) := by decide +kernel
theorem dX10_anew_26 : decode cX10_anew 26 = .ok (.iload 4, 2) := by decide +kernel
theorem dX10_anew_28 : decode cX10_anew 28 = .ok (.iload 5, 2) := by decide +kernel
theorem dX10_anew_30 : decode cX10_anew 30 = .ok (.invokevirtual 280, 3) := by decide +kernel
theorem dX10_anew_33 : decode cX10_anew 33 = .ok (.invokevirtual 68, 3) := by decide +kernel
theorem dX10_anew_36 : decode cX10_anew 36 = .ok (.goto 5, 3) := by decide +kernel
theorem dX10_anew_39 : decode cX10_anew 39 = .ok (.bipush (-2), 2) := by decide +kernel
theorem dX10_anew_41 : decode cX10_anew 41 = .ok (.ireturn, 1) := by decide +kernel
theorem dX10_cutByWishes_0 : decode cX10_cutByWishes 0 = .ok (.iload_n 2, 1) := by decide +kernel
theorem dX10_cutByWishes_1 : decode cX10_cutByWishes 1 = .ok (.iload_n 3, 1) := by decide +kernel
theorem dX10_cutByWishes_2 : decode cX10_cutByWishes 2 = .ok (.iload 4, 2) := by decide +kernel
theorem dX10_cutByWishes_4 : decode cX10_cutByWishes 4 = .ok (.iload 5, 2) := by decide +kernel
theorem dX10_cutByWishes_6 : decode cX10_cutByWishes 6 = .ok (.invokestatic 284, 3) := by decide +kernel
theorem dX10_cutByWishes_9 : decode cX10_cutByWishes 9 = .ok (.ifCond .ne 6, 3) := by decide +kernel
theorem dX10_cutByWishes_12 : decode cX10_cutByWishes 12 = .ok (.bipush (-2), 2) := by decide +kernel
theorem dX10_cutByWishes_14 : decode cX10_cutByWishes 14 = .ok (.ireturn, 1) := by decide +kernel
theorem dX10_cutByWishes_15 : decode cX10_cutByWishes 15 = .ok (.aload_n 0, 1) := by decide +kernel
theorem dX10_cutByWishes_16 : decode cX10_cutByWishes 16 = .ok (.getfield 10, 3) := by decide +kernel
theorem dX10_cutByWishes_19 : decode cX10_cutByWishes 19 = .ok (.getfield 191, 3) := by decide +kernel
theorem dX10_cutByWishes_22 : decode cX10_cutByWishes 22 = .ok (.getfield 209, 3) := by decide +kernel
theorem dX10_cutByWishes_25 : decode cX10_cutByWishes 25 = .ok (.iload_n 2, 1) := by decide +kernel
theorem dX10_cutByWishes_26 : decode cX10_cutByWishes 26 = .ok (.if_icmp .lt 29, 3) := by decide +kernel
theorem dX10_cutByWishes_29 : decode cX10_cutByWishes 29 = .ok (.aload_n 0, 1) := by decide +kernel
theorem dX10_cutByWishes_30 : decode cX10_cutByWishes 30 = .ok (.getfield 10, 3) := by decide +kernel
theorem dX10_cutByWishes_33 : decode cX10_cutByWishes 33 = .ok (.getfield 265, 3) := by decide +kernel
theorem dX10_cutByWishes_36 : decode cX10_cutByWishes 36 = .ok (.iload_n 3, 1) := by decide +kernel
theorem dX10_cutByWishes_37 : decode cX10_cutByWishes 37 = .ok (.if_icmp .lt 18, 3) := by decide +kernel
theorem dX10_cutByWishes_40 : decode cX10_cutByWishes 40 = .ok (.iload_n 1, 1) := by decide +kernel
theorem dX10_cutByWishes_41 : decode cX10_cutByWishes 41 = .ok (.iconst (-1), 1) := by decide +kernel
theorem dX10_cutByWishes_42 : decode cX10_cutByWishes 42 = .ok (.if_icmp .eq 16, 3) := by decide +kernel
theorem dX10_cutByWishes_45 : decode cX10_cutByWishes 45 = .ok (.aload_n 0, 1) := by decide +kernel
theorem dX10_cutByWishes_46 : decode cX10_cutByWishes 46 = .ok (.iload_n 1, 1) := by decide +kernel
theorem dX10_cutByWishes_47 : decode cX10_cutByWishes 47 = .ok (.iload 4, 2) := by decide +kernel
theorem dX10_cutByWishes_49 : decode cX10_cutByWishes 49 = .ok (.invokevirtual 288, 3) := by decide +kernel
theorem dX10_cutByWishes_52 : decode cX10_cutByWishes 52 = .ok (.ifCond .ne 6, 3) := by decide +kernel
theorem dX10_cutByWishes_55 : decode cX10_cutByWishes 55 = .ok (.bipush (-3), 2) := by decide +kernel
theorem dX10_cutByWishes_57 : decode cX10_cutByWishes 57 = .ok (.ireturn, 1) := by decide +kernel
theorem dX10_cutByWishes_58 : decode cX10_cutByWishes 58 = .ok (.aload_n 0, 1) := by decide +kernel
theorem dX10_cutByWishes_59 : decode cX10_cutByWishes 59 = .ok (.iload_n 3, 1) := by decide +kernel
theorem dX10_cutByWishes_60 : decode cX10_cutByWishes 60 = .ok (.iload 4, 2) := by decide +kernel
theorem dX10_cutByWishes_62 : decode cX10_cutByWishes 62 = .ok (.invokevirtual 291, 3) := by decide +kernel
theorem dX10_cutByWishes_65 : decode cX10_cutByWishes 65 = .ok (.istore 6, 2) := by decide +kernel
theorem dX10_cutByWishes_67 : decode cX10_cutByWishes 67 = .ok (.iload 6, 2) := by decide +kernel
theorem dX10_cutByWishes_69 : decode cX10_cutByWishes 69 = .ok (.ifCond .eq 6, 3) := by decide +kernel
theorem dX10_cutByWishes_72 : decode cX10_cutByWishes 72 = .ok (.iload 6, 2) := by decide +kernel
theorem dX10_cutByWishes_74 : decode cX10_cutByWishes 74 = .ok (.ireturn, 1) := by decide +kernel
theorem dX10_cutByWishes_75 : decode cX10_cutByWishes 75 = .ok (.aload_n 0, 1) := by decide +kernel
theorem dX10_cutByWishes_76 : decode cX10_cutByWishes 76 = .ok (.getfield 46, 3) := by decide +kernel
theorem dX10_cutByWishes_79 : decode cX10_cutByWishes 79 = .ok (.iload_n 2, 1) := by decide +kernel
theorem dX10_cutByWishes_80 : decode cX10_cutByWishes 80 = .ok (.iload_n 3, 1) := by decide +kernel
theorem dX10_cutByWishes_81 : decode cX10_cutByWishes 81 = .ok (.iload 4, 2) := by decide +kernel
theorem dX10_cutByWishes_83 : decode cX10_cutByWishes 83 = .ok (.iload 5, 2) := by decide +kernel
theorem dX10_cutByWishes_85 : decode cX10_cutByWishes 85 = .ok (.invokevirtual 294, 3) := by decide +kernel
theorem dX10_cutByWishes_88 : decode cX10_cutByWishes 88 = .ok (.aload_n 0, 1) := by decide +kernel
theorem dX10_cutByWishes_89 : decode cX10_cutByWishes 89 = .ok (.getfield 46, 3) := by decide +kernel
theorem dX10_cutByWishes_92 : decode cX10_cutByWishes 92 = .ok (.aload_n 0, 1) := by decide +kernel
theorem dX10_cutByWishes_93 : decode cX10_cutByWishes 93 = .ok (.getfield 10, 3) := by decide +kernel
theorem dX10_cutByWishes_96 : decode cX10_cutByWishes 96 = .ok (.invokevirtual 297, 3) := by decide +kernel
theorem dX10_cutByWishes_99 : decode cX10_cutByWishes 99 = .ok (.aload_n 0, 1) := by decide +kernel
theorem dX10_cutByWishes_100 : decode cX10_cutByWishes 100 = .ok (.getfield 46, 3) := by decide +kernel
theorem dX10_cutByWishes_103 : decode cX10_cutByWishes 103 = .ok (.aload_n 0, 1) := by decide +kernel
theorem dX10_cutByWishes_104 : decode cX10_cutByWishes 104 = .ok (.getfield 10, 3) := by decide +kernel
theorem dX10_cutByWishes_107 : decode cX10_cutByWishes 107 = .ok (.getfield 191, 3) := by decide +kernel
theorem dX10_cutByWishes_110 : decode cX10_cutByWishes 110 = .ok (.iload_n 1, 1) := by decide +kernel
theorem dX10_cutByWishes_111 : decode cX10_cutByWishes 111 = .ok (.invokevirtual 301, 3) := by decide +kernel
theorem dX10_cutByWishes_114 : decode cX10_cutByWishes 114 = .ok (.iload_n 1, 1) := by decide +kernel
theorem dX10_cutByWishes_115 : decode cX10_cutByWishes 115 = .ok (.iconst (-1), 1) := by decide +kernel
theorem dX10_cutByWishes_116 : decode cX10_cutByWishes 116 = .ok (.if_icmp .eq 23, 3) := by decide +kernel
theorem dX10_cutByWishes_119 : decode cX10_cutByWishes 119 = .ok (.aload_n 0, 1) := by decide +kernel
theorem dX10_cutByWishes_120 : decode cX10_cutByWishes 120 = .ok (.getfield 46, 3) := by decide +kernel
theorem dX10_cutByWishes_123 : decode cX10_cutByWishes 123 = .ok (.aload_n 0, 1) := by decide +kernel
theorem dX10_cutByWishes_124 : decode cX10_cutByWishes 124 = .ok (.getfield 10, 3) := by decide +kernel
theorem dX10_cutByWishes_127 : decode cX10_cutByWishes 127 = .ok (.getfield 191, 3) := by decide +kernel
theorem dX10_cutByWishes_130 : decode cX10_cutByWishes 130 = .ok (.iload_n 1, 1) := by decide +kernel
theorem dX10_cutByWishes_131 : decode cX10_cutByWishes 131 = .ok (.aload_n 0, 1) := by decide +kernel
theorem dX10_cutByWishes_132 : decode cX10_cutByWishes 132 = .ok (.iload_n 1, 1) := by decide +kernel
theorem dX10_cutByWishes_133 : decode cX10_cutByWishes 133 = .ok (.invokevirtual 305, 3) := by decide +kernel
theorem dX10_cutByWishes_136 : decode cX10_cutByWishes 136 = .ok (.invokevirtual 308, 3) := by decide +kernel
theorem dX10_cutByWishes_139 : decode cX10_cutByWishes 139 = .ok (.aload_n 0, 1) := by decide +kernel
theorem dX10_cutByWishes_140 : decode cX10_cutByWishes 140 = .ok (.getfield 46, 3) := by decide +kernel
theorem dX10_cutByWishes_143 : decode cX10_cutByWishes 143 = .ok (.invokevirtual 312, 3) := by decide +kernel
theorem dX10_cutByWishes_146 : decode cX10_cutByWishes 146 = .ok (.istore 7, 2) := by decide +kernel
theorem dX10_cutByWishes_148 : decode cX10_cutByWishes 148 = .ok (.iload 7, 2) := by decide +kernel
theorem dX10_cutByWishes_150 : decode cX10_cutByWishes 150 = .ok (.iconst 1, 1) := by decide +kernel
theorem dX10_cutByWishes_151 : decode cX10_cutByWishes 151 = .ok (.if_icmp .ne 18, 3) := by decide +kernel
theorem dX10_cutByWishes_154 : decode cX10_cutByWishes 154 = .ok (.aload_n 0, 1) := by decide +kernel
theorem dX10_cutByWishes_155 : decode cX10_cutByWishes 155 = .ok (.invokevirtual 81, 3) := by decide +kernel
theorem dX10_cutByWishes_158 : decode cX10_cutByWishes 158 = .ok (.aload_n 0, 1) := by decide +kernel
theorem dX10_cutByWishes_159 : decode cX10_cutByWishes 159 = .ok (.getfield 46, 3) := by decide +kernel
theorem dX10_cutByWishes_162 : decode cX10_cutByWishes 162 = .ok (.aload_n 0, 1) := by decide +kernel
theorem dX10_cutByWishes_163 : decode cX10_cutByWishes 163 = .ok (.getfield 10, 3) := by decide +kernel
theorem dX10_cutByWishes_166 : decode cX10_cutByWishes 166 = .ok (.invokevirtual 315, 3) := by decide +kernel
theorem dX10_cutByWishes_169 : decode cX10_cutByWishes 169 = .ok (.iload 7, 2) := by decide +kernel
theorem dX10_cutByWishes_171 : decode cX10_cutByWishes 171 = .ok (.ireturn, 1) := by decide +kernel
theorem dX10_areCuttingSizes_0 : decode cX10_areCuttingSizes 0 = .ok (.iload_n 0, 1) := by decide +kernel
theorem dX10_areCuttingSizes_1 : decode cX10_areCuttingSizes 1 = .ok (.iconst 1, 1) := by decide +kernel
theorem dX10_areCuttingSizes_2 : decode cX10_areCuttingSizes 2 = .ok (.if_icmp .lt 44, 3) := by decide +kernel
theorem dX10_areCuttingSizes_5 : decode cX10_areCuttingSizes 5 = .ok (.iload_n 0, 1) := by decide +kernel
theorem dX10_areCuttingSizes_6 : decode cX10_areCuttingSizes 6 = .ok (.bipush 6, 2) := by decide +kernel
theorem dX10_areCuttingSizes_8 : decode cX10_areCuttingSizes 8 = .ok (.if_icmp .gt 38, 3) := by decide +kernel
theorem dX10_areCuttingSizes_11 : decode cX10_areCuttingSizes 11 = .ok (.iload_n 1, 1) := by decide +kernel
theorem dX10_areCuttingSizes_12 : decode cX10_areCuttingSizes 12 = .ok (.iconst 1, 1) := by decide +kernel
theorem dX10_areCuttingSizes_13 : decode cX10_areCuttingSizes 13 = .ok (.if_icmp .lt 33, 3) := by decide +kernel
theorem dX10_areCuttingSizes_16 : decode cX10_areCuttingSizes 16 = .ok (.iload_n 1, 1) := by decide +kernel
theorem dX10_areCuttingSizes_17 : decode cX10_areCuttingSizes 17 = .ok (.bipush 6, 2) := by decide +kernel
theorem dX10_areCuttingSizes_19 : decode cX10_areCuttingSizes 19 = .ok (.if_icmp .gt 27, 3) := by decide +kernel
theorem dX10_areCuttingSizes_22 : decode cX10_areCuttingSizes 22 = .ok (.iload_n 2, 1) := by decide +kernel
theorem dX10_areCuttingSizes_23 : decode cX10_areCuttingSizes 23 = .ok (.iconst 1, 1) := by decide +kernel
theorem dX10_areCuttingSizes_24 : decode cX10_areCuttingSizes 24 = .ok (.if_icmp .lt 22, 3) := by decide +kernel
theorem dX10_areCuttingSizes_27 : decode cX10_areCuttingSizes 27 = .ok (.iload_n 2, 1) := by decide +kernel
theorem dX10_areCuttingSizes_28 : decode cX10_areCuttingSizes 28 = .ok (.iconst 5, 1) := by decide +kernel
theorem dX10_areCuttingSizes_29 : decode cX10_areCuttingSizes 29 = .ok (.if_icmp .gt 17, 3) := by decide +kernel
theorem dX10_areCuttingSizes_32 : decode cX10_areCuttingSizes 32 = .ok (.iload_n 3, 1) := by decide +kernel
theorem dX10_areCuttingSizes_33 : decode cX10_areCuttingSizes 33 = .ok (.ifCond .lt 13, 3) := by decide +kernel
theorem dX10_areCuttingSizes_36 : decode cX10_areCuttingSizes 36 = .ok (.iload_n 3, 1) := by decide +kernel
theorem dX10_areCuttingSizes_37 : decode cX10_areCuttingSizes 37 = .ok (.bipush 9, 2) := by decide +kernel
theorem dX10_areCuttingSizes_39 : decode cX10_areCuttingSizes 39 = .ok (.if_icmp .gt 7, 3) := by decide +kernel
theorem dX10_areCuttingSizes_42 : decode cX10_areCuttingSizes 42 = .ok (.iconst 1, 1) := by decide +kernel
theorem dX10_areCuttingSizes_43 : decode cX10_areCuttingSizes 43 = .ok (.goto 4, 3) := by decide +kernel
theorem dX10_areCuttingSizes_46 : decode cX10_areCuttingSizes 46 = .ok (.iconst 0, 1) := by decide +kernel
theorem dX10_areCuttingSizes_47 : decode cX10_areCuttingSizes 47 = .ok (.ireturn, 1) := by decide +kernel
theorem dX10_canBePassedOver_0 : decode cX10_canBePassedOver 0 = .ok (.aload_n 0, 1) := by decide +kernel
theorem dX10_canBePassedOver_1 : decode cX10_canBePassedOver 1 = .ok (.getfield 10, 3) := by decide +kernel
theorem dX10_canBePassedOver_4 : decode cX10_canBePassedOver 4 = .ok (.getfield 191, 3) := by decide +kernel
theorem dX10_canBePassedOver_7 : decode cX10_canBePassedOver 7 = .ok (.iload_n 1, 1) := by decide +kernel
theorem dX10_canBePassedOver_8 : decode cX10_canBePassedOver 8 = .ok (.invokevirtual 202, 3) := by decide +kernel
theorem dX10_canBePassedOver_11 : decode cX10_canBePassedOver 11 = .ok (.ifCond .eq 40, 3) := by decide +kernel
theorem dX10_canBePassedOver_14 : decode cX10_canBePassedOver 14 = .ok (.aload_n 0, 1) := by decide +kernel
theorem dX10_canBePassedOver_15 : decode cX10_canBePassedOver 15 = .ok (.getfield 10, 3) := by decide +kernel
theorem dX10_canBePassedOver_18 : decode cX10_canBePassedOver 18 = .ok (.getfield 191, 3) := by decide +kernel
theorem dX10_canBePassedOver_21 : decode cX10_canBePassedOver 21 = .ok (.getfield 271, 3) := by decide +kernel
theorem dX10_canBePassedOver_24 : decode cX10_canBePassedOver 24 = .ok (.iload_n 1, 1) := by decide +kernel
theorem dX10_canBePassedOver_25 : decode cX10_canBePassedOver 25 = .ok (.iaload, 1) := by decide +kernel
theorem dX10_canBePassedOver_26 : decode cX10_canBePassedOver 26 = .ok (.bipush (-6), 2) := by decide +kernel
theorem dX10_canBePassedOver_28 : decode cX10_canBePassedOver 28 = .ok (.if_icmp .ne 23, 3) := by decide +kernel
theorem dX10_canBePassedOver_31 : decode cX10_canBePassedOver 31 = .ok (.aload_n 0, 1) := by decide +kernel
theorem dX10_canBePassedOver_32 : decode cX10_canBePassedOver 32 = .ok (.getfield 10, 3) := by decide +kernel
theorem dX10_canBePassedOver_35 : decode cX10_canBePassedOver 35 = .ok (.getfield 191, 3) := by decide +kernel
theorem dX10_canBePassedOver_38 : decode cX10_canBePassedOver 38 = .ok (.getfield 203, 3) := by decide +kernel
theorem dX10_canBePassedOver_41 : decode cX10_canBePassedOver 41 = .ok (.iload_n 1, 1) := by decide +kernel
theorem dX10_canBePassedOver_42 : decode cX10_canBePassedOver 42 = .ok (.iaload, 1) := by decide +kernel
theorem dX10_canBePassedOver_43 : decode cX10_canBePassedOver 43 = .ok (.iload_n 2, 1) := by decide +kernel
theorem dX10_canBePassedOver_44 : decode cX10_canBePassedOver 44 = .ok (.if_icmp .ne 7, 3) := by decide +kernel
theorem dX10_canBePassedOver_47 : decode cX10_canBePassedOver 47 = .ok (.iconst 1, 1) := by decide +kernel
theorem dX10_canBePassedOver_48 : decode cX10_canBePassedOver 48 = .ok (.goto 4, 3) := by decide +kernel
theorem dX10_canBePassedOver_51 : decode cX10_canBePassedOver 51 = .ok (.iconst 0, 1) := by decide +kernel
theorem dX10_canBePassedOver_52 : decode cX10_canBePassedOver 52 = .ok (.ireturn, 1) := by decide +kernel
theorem dX10_doorsRefusal_0 : decode cX10_doorsRefusal 0 = .ok (.iconst 0, 1) := by decide +kernel
theorem dX10_doorsRefusal_1 : decode cX10_doorsRefusal 1 = .ok (.istore_n 3, 1) := by decide +kernel
theorem dX10_doorsRefusal_2 : decode cX10_doorsRefusal 2 = .ok (.iload_n 3, 1) := by decide +kernel
theorem dX10_doorsRefusal_3 : decode cX10_doorsRefusal 3 = .ok (.iload_n 1, 1) := by decide +kernel
theorem dX10_doorsRefusal_4 : decode cX10_doorsRefusal 4 = .ok (.if_icmp .ge 81, 3) := by decide +kernel
theorem dX10_doorsRefusal_7 : decode cX10_doorsRefusal 7 = .ok (.aload_n 0, 1) := by decide +kernel
theorem dX10_doorsRefusal_8 : decode cX10_doorsRefusal 8 = .ok (.getfield 10, 3) := by decide +kernel
theorem dX10_doorsRefusal_11 : decode cX10_doorsRefusal 11 = .ok (.getfield 225, 3) := by decide +kernel
theorem dX10_doorsRefusal_14 : decode cX10_doorsRefusal 14 = .ok (.iload_n 3, 1) := by decide +kernel
theorem dX10_doorsRefusal_15 : decode cX10_doorsRefusal 15 = .ok (.iaload, 1) := by decide +kernel
theorem dX10_doorsRefusal_16 : decode cX10_doorsRefusal 16 = .ok (.istore 4, 2) := by decide +kernel
theorem dX10_doorsRefusal_18 : decode cX10_doorsRefusal 18 = .ok (.iload 4, 2) := by decide +kernel
theorem dX10_doorsRefusal_20 : decode cX10_doorsRefusal 20 = .ok (.iconst (-1), 1) := by decide +kernel
theorem dX10_doorsRefusal_21 : decode cX10_doorsRefusal 21 = .ok (.if_icmp .ne 6, 3) := by decide +kernel
theorem dX10_doorsRefusal_24 : decode cX10_doorsRefusal 24 = .ok (.bipush (-11), 2) := by decide +kernel
theorem dX10_doorsRefusal_26 : decode cX10_doorsRefusal 26 = .ok (.ireturn, 1) := by decide +kernel
theorem dX10_doorsRefusal_27 : decode cX10_doorsRefusal 27 = .ok (.aload_n 0, 1) := by decide +kernel
theorem dX10_doorsRefusal_28 : decode cX10_doorsRefusal 28 = .ok (.getfield 10, 3) := by decide +kernel
theorem dX10_doorsRefusal_31 : decode cX10_doorsRefusal 31 = .ok (.getfield 72, 3) := by decide +kernel
theorem dX10_doorsRefusal_34 : decode cX10_doorsRefusal 34 = .ok (.iload 4, 2) := by decide +kernel
theorem dX10_doorsRefusal_36 : decode cX10_doorsRefusal 36 = .ok (.invokevirtual 157, 3) := by decide +kernel
theorem dX10_doorsRefusal_39 : decode cX10_doorsRefusal 39 = .ok (.istore 5, 2) := by decide +kernel
theorem dX10_doorsRefusal_41 : decode cX10_doorsRefusal 41 = .ok (.iload 5, 2) := by decide +kernel
theorem dX10_doorsRefusal_43 : decode cX10_doorsRefusal 43 = .ok (.ifCond .eq 6, 3) := by decide +kernel
theorem dX10_doorsRefusal_46 : decode cX10_doorsRefusal 46 = .ok (.iload 5, 2) := by decide +kernel
theorem dX10_doorsRefusal_48 : decode cX10_doorsRefusal 48 = .ok (.ireturn, 1) := by decide +kernel
theorem dX10_doorsRefusal_49 : decode cX10_doorsRefusal 49 = .ok (.aload_n 0, 1) := by decide +kernel
theorem dX10_doorsRefusal_50 : decode cX10_doorsRefusal 50 = .ok (.getfield 10, 3) := by decide +kernel
theorem dX10_doorsRefusal_53 : decode cX10_doorsRefusal 53 = .ok (.getfield 72, 3) := by decide +kernel
theorem dX10_doorsRefusal_56 : decode cX10_doorsRefusal 56 = .ok (.getfield 160, 3) := by decide +kernel
theorem dX10_doorsRefusal_59 : decode cX10_doorsRefusal 59 = .ok (.iload 4, 2) := by decide +kernel
theorem dX10_doorsRefusal_61 : decode cX10_doorsRefusal 61 = .ok (.iaload, 1) := by decide +kernel
theorem dX10_doorsRefusal_62 : decode cX10_doorsRefusal 62 = .ok (.iload_n 2, 1) := by decide +kernel
theorem dX10_doorsRefusal_63 : decode cX10_doorsRefusal 63 = .ok (.if_icmp .ne 13, 3) := by decide +kernel
theorem dX10_doorsRefusal_66 : decode cX10_doorsRefusal 66 = .ok (.aload_n 0, 1) := by decide +kernel
theorem dX10_doorsRefusal_67 : decode cX10_doorsRefusal 67 = .ok (.iload 4, 2) := by decide +kernel
theorem dX10_doorsRefusal_69 : decode cX10_doorsRefusal 69 = .ok (.iload_n 3, 1) := by decide +kernel
theorem dX10_doorsRefusal_70 : decode cX10_doorsRefusal 70 = .ok (.invokevirtual 318, 3) := by decide +kernel
theorem dX10_doorsRefusal_73 : decode cX10_doorsRefusal 73 = .ok (.ifCond .eq 6, 3) := by decide +kernel
theorem dX10_doorsRefusal_76 : decode cX10_doorsRefusal 76 = .ok (.bipush (-3), 2) := by decide +kernel
theorem dX10_doorsRefusal_78 : decode cX10_doorsRefusal 78 = .ok (.ireturn, 1) := by decide +kernel
theorem dX10_doorsRefusal_79 : decode cX10_doorsRefusal 79 = .ok (.iinc 3 1, 3) := by decide +kernel
theorem dX10_doorsRefusal_82 : decode cX10_doorsRefusal 82 = .ok (.goto (-80), 3) := by decide +kernel
theorem dX10_doorsRefusal_85 : decode cX10_doorsRefusal 85 = .ok (.iconst 0, 1) := by decide +kernel
theorem dX10_doorsRefusal_86 : decode cX10_doorsRefusal 86 = .ok (.ireturn, 1) := by decide +kernel
theorem dX10_isFittedAhead_0 : decode cX10_isFittedAhead 0 = .ok (.iconst 0, 1) := by decide +kernel
theorem dX10_isFittedAhead_1 : decode cX10_isFittedAhead 1 = .ok (.istore_n 3, 1) := by decide +kernel
theorem dX10_isFittedAhead_2 : decode cX10_isFittedAhead 2 = .ok (.iload_n 3, 1) := by decide +kernel
theorem dX10_isFittedAhead_3 : decode cX10_isFittedAhead 3 = .ok (.iload_n 2, 1) := by decide +kernel
theorem dX10_isFittedAhead_4 : decode cX10_isFittedAhead 4 = .ok (.if_icmp .ge 24, 3) := by decide +kernel
theorem dX10_isFittedAhead_7 : decode cX10_isFittedAhead 7 = .ok (.aload_n 0, 1) := by decide +kernel
theorem dX10_isFittedAhead_8 : decode cX10_isFittedAhead 8 = .ok (.getfield 10, 3) := by decide +kernel
theorem dX10_isFittedAhead_11 : decode cX10_isFittedAhead 11 = .ok (.getfield 225, 3) := by decide +kernel
theorem dX10_isFittedAhead_14 : decode cX10_isFittedAhead 14 = .ok (.iload_n 3, 1) := by decide +kernel
theorem dX10_isFittedAhead_15 : decode cX10_isFittedAhead 15 = .ok (.iaload, 1) := by decide +kernel
theorem dX10_isFittedAhead_16 : decode cX10_isFittedAhead 16 = .ok (.iload_n 1, 1) := by decide +kernel
theorem dX10_isFittedAhead_17 : decode cX10_isFittedAhead 17 = .ok (.if_icmp .ne 5, 3) := by decide +kernel
theorem dX10_isFittedAhead_20 : decode cX10_isFittedAhead 20 = .ok (.iconst 1, 1) := by decide +kernel
theorem dX10_isFittedAhead_21 : decode cX10_isFittedAhead 21 = .ok (.ireturn, 1) := by decide +kernel
theorem dX10_isFittedAhead_22 : decode cX10_isFittedAhead 22 = .ok (.iinc 3 1, 3) := by decide +kernel
theorem dX10_isFittedAhead_25 : decode cX10_isFittedAhead 25 = .ok (.goto (-23), 3) := by decide +kernel
theorem dX10_isFittedAhead_28 : decode cX10_isFittedAhead 28 = .ok (.iconst 0, 1) := by decide +kernel
theorem dX10_isFittedAhead_29 : decode cX10_isFittedAhead 29 = .ok (.ireturn, 1) := by decide +kernel
theorem dX10_trials_0 : decode cX10_trials 0 = .ok (.aload_n 0, 1) := by decide +kernel
theorem dX10_trials_1 : decode cX10_trials 1 = .ok (.getfield 46, 3) := by decide +kernel
theorem dX10_trials_4 : decode cX10_trials 4 = .ok (.getfield 321, 3) := by decide +kernel
theorem dX10_trials_7 : decode cX10_trials 7 = .ok (.ireturn, 1) := by decide +kernel
theorem dX10_count_0 : decode cX10_count 0 = .ok (.aload_n 0, 1) := by decide +kernel
theorem dX10_count_1 : decode cX10_count 1 = .ok (.getfield 10, 3) := by decide +kernel
theorem dX10_count_4 : decode cX10_count 4 = .ok (.iload_n 1, 1) := by decide +kernel
theorem dX10_count_5 : decode cX10_count 5 = .ok (.invokevirtual 222, 3) := by decide +kernel
theorem dX10_count_8 : decode cX10_count 8 = .ok (.ifCond .eq 23, 3) := by decide +kernel
theorem dX10_count_11 : decode cX10_count 11 = .ok (.iload_n 2, 1) := by decide +kernel
theorem dX10_count_12 : decode cX10_count 12 = .ok (.ifCond .lt 19, 3) := by decide +kernel
theorem dX10_count_15 : decode cX10_count 15 = .ok (.iload_n 2, 1) := by decide +kernel
theorem dX10_count_16 : decode cX10_count 16 = .ok (.bipush 18, 2) := by decide +kernel
theorem dX10_count_18 : decode cX10_count 18 = .ok (.if_icmp .gt 13, 3) := by decide +kernel
theorem dX10_count_21 : decode cX10_count 21 = .ok (.iload_n 3, 1) := by decide +kernel
theorem dX10_count_22 : decode cX10_count 22 = .ok (.ifCond .lt 9, 3) := by decide +kernel
theorem dX10_count_25 : decode cX10_count 25 = .ok (.iload_n 3, 1) := by decide +kernel
theorem dX10_count_26 : decode cX10_count 26 = .ok (.bipush 9, 2) := by decide +kernel
theorem dX10_count_28 : decode cX10_count 28 = .ok (.if_icmp .le 7, 3) := by decide +kernel
theorem dX10_count_31 : decode cX10_count 31 = .ok (.ldc2_w 324, 3) := by decide +kernel
theorem dX10_count_34 : decode cX10_count 34 = .ok (.lreturn, 1) := by decide +kernel
theorem dX10_count_35 : decode cX10_count 35 = .ok (.aload_n 0, 1) := by decide +kernel
theorem dX10_count_36 : decode cX10_count 36 = .ok (.getfield 53, 3) := by decide +kernel
theorem dX10_count_39 : decode cX10_count 39 = .ok (.aload_n 0, 1) := by decide +kernel
theorem dX10_count_40 : decode cX10_count 40 = .ok (.getfield 10, 3) := by decide +kernel
theorem dX10_count_43 : decode cX10_count 43 = .ok (.getfield 72, 3) := by decide +kernel
theorem dX10_count_46 : decode cX10_count 46 = .ok (.aload_n 0, 1) := by decide +kernel
theorem dX10_count_47 : decode cX10_count 47 = .ok (.getfield 10, 3) := by decide +kernel
theorem dX10_count_50 : decode cX10_count 50 = .ok (.getfield 225, 3) := by decide +kernel
theorem dX10_count_53 : decode cX10_count 53 = .ok (.iload_n 1, 1) := by decide +kernel
theorem dX10_count_54 : decode cX10_count 54 = .ok (.iaload, 1) := by decide +kernel
theorem dX10_count_55 : decode cX10_count 55 = .ok (.iload_n 2, 1) := by decide +kernel
theorem dX10_count_56 : decode cX10_count 56 = .ok (.iload_n 3, 1) := by decide +kernel
theorem dX10_count_57 : decode cX10_count 57 = .ok (.invokevirtual 326, 3) := by decide +kernel
theorem dX10_count_60 : decode cX10_count 60 = .ok (.lstore 4, 2) := by decide +kernel
theorem dX10_count_62 : decode cX10_count 62 = .ok (.aload_n 0, 1) := by decide +kernel
theorem dX10_count_63 : decode cX10_count 63 = .ok (.lload 4, 2) := by decide +kernel
theorem dX10_count_65 : decode cX10_count 65 = .ok (.ldc2_w 330, 3) := by decide +kernel
theorem dX10_count_68 : decode cX10_count 68 = .ok (.lcmp, 1) := by decide +kernel
theorem dX10_count_69 : decode cX10_count 69 = .ok (.ifCond .ne 8, 3) := by decide +kernel
theorem dX10_count_72 : decode cX10_count 72 = .ok (.bipush (-11), 2) := by decide +kernel
theorem dX10_count_74 : decode cX10_count 74 = .ok (.goto 4, 3) := by decide +kernel
theorem dX10_count_77 : decode cX10_count 77 = .ok (.iconst 0, 1) := by decide +kernel
theorem dX10_count_78 : decode cX10_count 78 = .ok (.invokevirtual 68, 3) := by decide +kernel
theorem dX10_count_81 : decode cX10_count 81 = .ok (.pop, 1) := by decide +kernel
theorem dX10_count_82 : decode cX10_count 82 = .ok (.lload 4, 2) := by decide +kernel
theorem dX10_count_84 : decode cX10_count 84 = .ok (.lreturn, 1) := by decide +kernel
theorem dX10_carry_0 : decode cX10_carry 0 = .ok (.aload_n 0, 1) := by decide +kernel
theorem dX10_carry_1 : decode cX10_carry 1 = .ok (.iload_n 1, 1) := by decide +kernel
theorem dX10_carry_2 : decode cX10_carry 2 = .ok (.invokevirtual 332, 3) := by decide +kernel
theorem dX10_carry_5 : decode cX10_carry 5 = .ok (.ifCond .ne 6, 3) := by decide +kernel
theorem dX10_carry_8 : decode cX10_carry 8 = .ok (.bipush (-2), 2) := by decide +kernel
theorem dX10_carry_10 : decode cX10_carry 10 = .ok (.ireturn, 1) := by decide +kernel
theorem dX10_carry_11 : decode cX10_carry 11 = .ok (.aload_n 0, 1) := by decide +kernel
theorem dX10_carry_12 : decode cX10_carry 12 = .ok (.getfield 10, 3) := by decide +kernel
theorem dX10_carry_15 : decode cX10_carry 15 = .ok (.getfield 191, 3) := by decide +kernel
theorem dX10_carry_18 : decode cX10_carry 18 = .ok (.getfield 209, 3) := by decide +kernel
theorem dX10_carry_21 : decode cX10_carry 21 = .ok (.bipush 14, 2) := by decide +kernel
theorem dX10_carry_23 : decode cX10_carry 23 = .ok (.invokestatic 335, 3) := by decide +kernel
theorem dX10_carry_26 : decode cX10_carry 26 = .ok (.istore_n 2, 1) := by decide +kernel
theorem dX10_carry_27 : decode cX10_carry 27 = .ok (.aload_n 0, 1) := by decide +kernel
theorem dX10_carry_28 : decode cX10_carry 28 = .ok (.getfield 60, 3) := by decide +kernel
theorem dX10_carry_31 : decode cX10_carry 31 = .ok (.invokevirtual 340, 3) := by decide +kernel
theorem dX10_carry_34 : decode cX10_carry 34 = .ok (.iconst 0, 1) := by decide +kernel
theorem dX10_carry_35 : decode cX10_carry 35 = .ok (.istore_n 3, 1) := by decide +kernel
theorem dX10_carry_36 : decode cX10_carry 36 = .ok (.iload_n 3, 1) := by decide +kernel
theorem dX10_carry_37 : decode cX10_carry 37 = .ok (.iload_n 2, 1) := by decide +kernel
theorem dX10_carry_38 : decode cX10_carry 38 = .ok (.if_icmp .ge 21, 3) := by decide +kernel
theorem dX10_carry_41 : decode cX10_carry 41 = .ok (.aload_n 0, 1) := by decide +kernel
theorem dX10_carry_42 : decode cX10_carry 42 = .ok (.getfield 60, 3) := by decide +kernel
theorem dX10_carry_45 : decode cX10_carry 45 = .ok (.aload_n 0, 1) := by decide +kernel
theorem dX10_carry_46 : decode cX10_carry 46 = .ok (.iload_n 3, 1) := by decide +kernel
theorem dX10_carry_47 : decode cX10_carry 47 = .ok (.invokevirtual 305, 3) := by decide +kernel
theorem dX10_carry_50 : decode cX10_carry 50 = .ok (.invokevirtual 341, 3) := by decide +kernel
theorem dX10_carry_53 : decode cX10_carry 53 = .ok (.iinc 3 1, 3) := by decide +kernel
theorem dX10_carry_56 : decode cX10_carry 56 = .ok (.goto (-20), 3) := by decide +kernel
theorem dX10_carry_59 : decode cX10_carry 59 = .ok (.aload_n 0, 1) := by decide +kernel
theorem dX10_carry_60 : decode cX10_carry 60 = .ok (.getfield 60, 3) := by decide +kernel
theorem dX10_carry_63 : decode cX10_carry 63 = .ok (.iload_n 1, 1) := by decide +kernel
theorem dX10_carry_64 : decode cX10_carry 64 = .ok (.invokevirtual 345, 3) := by decide +kernel
theorem dX10_carry_67 : decode cX10_carry 67 = .ok (.ireturn, 1) := by decide +kernel
theorem dX10_closed_0 : decode cX10_closed 0 = .ok (.aload_n 0, 1) := by decide +kernel
theorem dX10_closed_1 : decode cX10_closed 1 = .ok (.iload_n 1, 1) := by decide +kernel
theorem dX10_closed_2 : decode cX10_closed 2 = .ok (.invokevirtual 332, 3) := by decide +kernel
theorem dX10_closed_5 : decode cX10_closed 5 = .ok (.ifCond .ne 6, 3) := by decide +kernel
theorem dX10_closed_8 : decode cX10_closed 8 = .ok (.bipush (-2), 2) := by decide +kernel
theorem dX10_closed_10 : decode cX10_closed 10 = .ok (.ireturn, 1) := by decide +kernel
theorem dX10_closed_11 : decode cX10_closed 11 = .ok (.aload_n 0, 1) := by decide +kernel
theorem dX10_closed_12 : decode cX10_closed 12 = .ok (.getfield 10, 3) := by decide +kernel
theorem dX10_closed_15 : decode cX10_closed 15 = .ok (.getfield 191, 3) := by decide +kernel
theorem dX10_closed_18 : decode cX10_closed 18 = .ok (.getfield 209, 3) := by decide +kernel
theorem dX10_closed_21 : decode cX10_closed 21 = .ok (.bipush 14, 2) := by decide +kernel
theorem dX10_closed_23 : decode cX10_closed 23 = .ok (.invokestatic 335, 3) := by decide +kernel
theorem dX10_closed_26 : decode cX10_closed 26 = .ok (.istore_n 2, 1) := by decide +kernel
theorem dX10_closed_27 : decode cX10_closed 27 = .ok (.iconst 0, 1) := by decide +kernel
theorem dX10_closed_28 : decode cX10_closed 28 = .ok (.istore_n 3, 1) := by decide +kernel
theorem dX10_closed_29 : decode cX10_closed 29 = .ok (.iconst 0, 1) := by decide +kernel
theorem dX10_closed_30 : decode cX10_closed 30 = .ok (.istore 4, 2) := by decide +kernel
theorem dX10_closed_32 : decode cX10_closed 32 = .ok (.iload 4, 2) := by decide +kernel
theorem dX10_closed_34 : decode cX10_closed 34 = .ok (.iload_n 2, 1) := by decide +kernel
theorem dX10_closed_35 : decode cX10_closed 35 = .ok (.if_icmp .ge 18, 3) := by decide +kernel
theorem dX10_closed_38 : decode cX10_closed 38 = .ok (.iload_n 3, 1) := by decide +kernel
theorem dX10_closed_39 : decode cX10_closed 39 = .ok (.aload_n 0, 1) := by decide +kernel
theorem dX10_closed_40 : decode cX10_closed 40 = .ok (.iload 4, 2) := by decide +kernel
theorem dX10_closed_42 : decode cX10_closed 42 = .ok (.invokevirtual 305, 3) := by decide +kernel
theorem dX10_closed_45 : decode cX10_closed 45 = .ok (.ior, 1) := by decide +kernel
theorem dX10_closed_46 : decode cX10_closed 46 = .ok (.istore_n 3, 1) := by decide +kernel
theorem dX10_closed_47 : decode cX10_closed 47 = .ok (.iinc 4 1, 3) := by decide +kernel
theorem dX10_closed_50 : decode cX10_closed 50 = .ok (.goto (-18), 3) := by decide +kernel
theorem dX10_closed_53 : decode cX10_closed 53 = .ok (.iload_n 1, 1) := by decide +kernel
theorem dX10_closed_54 : decode cX10_closed 54 = .ok (.iload_n 3, 1) := by decide +kernel
theorem dX10_closed_55 : decode cX10_closed 55 = .ok (.iconst (-1), 1) := by decide +kernel
theorem dX10_closed_56 : decode cX10_closed 56 = .ok (.ixor, 1) := by decide +kernel
theorem dX10_closed_57 : decode cX10_closed 57 = .ok (.iand, 1) := by decide +kernel
theorem dX10_closed_58 : decode cX10_closed 58 = .ok (.ireturn, 1) := by decide +kernel
theorem dX10_endangered_0 : decode cX10_endangered 0 = .ok (.aload_n 0, 1) := by decide +kernel
theorem dX10_endangered_1 : decode cX10_endangered 1 = .ok (.getfield 10, 3) := by decide +kernel
theorem dX10_endangered_4 : decode cX10_endangered 4 = .ok (.getfield 191, 3) := by decide +kernel
theorem dX10_endangered_7 : decode cX10_endangered 7 = .ok (.iload_n 1, 1) := by decide +kernel
theorem dX10_endangered_8 : decode cX10_endangered 8 = .ok (.invokevirtual 202, 3) := by decide +kernel
theorem dX10_endangered_11 : decode cX10_endangered 11 = .ok (.ifCond .eq 11, 3) := by decide +kernel
theorem dX10_endangered_14 : decode cX10_endangered 14 = .ok (.aload_n 0, 1) := by decide +kernel
theorem dX10_endangered_15 : decode cX10_endangered 15 = .ok (.iload_n 1, 1) := by decide +kernel
theorem dX10_endangered_16 : decode cX10_endangered 16 = .ok (.invokevirtual 305, 3) := by decide +kernel
theorem dX10_endangered_19 : decode cX10_endangered 19 = .ok (.goto 5, 3) := by decide +kernel
theorem dX10_endangered_22 : decode cX10_endangered 22 = .ok (.bipush (-2), 2) := by decide +kernel
theorem dX10_endangered_24 : decode cX10_endangered 24 = .ok (.ireturn, 1) := by decide +kernel
theorem dX10_areDoors_0 : decode cX10_areDoors 0 = .ok (.iload_n 1, 1) := by decide +kernel
theorem dX10_areDoors_1 : decode cX10_areDoors 1 = .ok (.ifCond .ge 5, 3) := by decide +kernel
theorem dX10_areDoors_4 : decode cX10_areDoors 4 = .ok (.iconst 0, 1) := by decide +kernel
theorem dX10_areDoors_5 : decode cX10_areDoors 5 = .ok (.ireturn, 1) := by decide +kernel
theorem dX10_areDoors_6 : decode cX10_areDoors 6 = .ok (.aload_n 0, 1) := by decide +kernel
theorem dX10_areDoors_7 : decode cX10_areDoors 7 = .ok (.getfield 10, 3) := by decide +kernel
theorem dX10_areDoors_10 : decode cX10_areDoors 10 = .ok (.getfield 265, 3) := by decide +kernel
theorem dX10_areDoors_13 : decode cX10_areDoors 13 = .ok (.bipush 31, 2) := by decide +kernel
theorem dX10_areDoors_15 : decode cX10_areDoors 15 = .ok (.if_icmp .ge 15, 3) := by decide +kernel
theorem dX10_areDoors_18 : decode cX10_areDoors 18 = .ok (.iload_n 1, 1) := by decide +kernel
theorem dX10_areDoors_19 : decode cX10_areDoors 19 = .ok (.aload_n 0, 1) := by decide +kernel
theorem dX10_areDoors_20 : decode cX10_areDoors 20 = .ok (.getfield 10, 3) := by decide +kernel
theorem dX10_areDoors_23 : decode cX10_areDoors 23 = .ok (.getfield 265, 3) := by decide +kernel
theorem dX10_areDoors_26 : decode cX10_areDoors 26 = .ok (.ishr, 1) := by decide +kernel
theorem dX10_areDoors_27 : decode cX10_areDoors 27 = .ok (.ifCond .ne 7, 3) := by decide +kernel
theorem dX10_areDoors_30 : decode cX10_areDoors 30 = .ok (.iconst 1, 1) := by decide +kernel
theorem dX10_areDoors_31 : decode cX10_areDoors 31 = .ok (.goto 4, 3) := by decide +kernel
theorem dX10_areDoors_34 : decode cX10_areDoors 34 = .ok (.iconst 0, 1) := by decide +kernel
theorem dX10_areDoors_35 : decode cX10_areDoors 35 = .ok (.ireturn, 1) := by decide +kernel
theorem dX10_doorsThatOpen_0 : decode cX10_doorsThatOpen 0 = .ok (.aload_n 0, 1) := by decide +kernel
theorem dX10_doorsThatOpen_1 : decode cX10_doorsThatOpen 1 = .ok (.getfield 10, 3) := by decide +kernel
theorem dX10_doorsThatOpen_4 : decode cX10_doorsThatOpen 4 = .ok (.getfield 265, 3) := by decide +kernel
theorem dX10_doorsThatOpen_7 : decode cX10_doorsThatOpen 7 = .ok (.bipush 31, 2) := by decide +kernel
theorem dX10_doorsThatOpen_9 : decode cX10_doorsThatOpen 9 = .ok (.invokestatic 335, 3) := by decide +kernel
theorem dX10_doorsThatOpen_12 : decode cX10_doorsThatOpen 12 = .ok (.istore_n 2, 1) := by decide +kernel
theorem dX10_doorsThatOpen_13 : decode cX10_doorsThatOpen 13 = .ok (.iconst 0, 1) := by decide +kernel
theorem dX10_doorsThatOpen_14 : decode cX10_doorsThatOpen 14 = .ok (.istore_n 3, 1) := by decide +kernel
theorem dX10_doorsThatOpen_15 : decode cX10_doorsThatOpen 15 = .ok (.iconst 0, 1) := by decide +kernel
theorem dX10_doorsThatOpen_16 : decode cX10_doorsThatOpen 16 = .ok (.istore 4, 2) := by decide +kernel
theorem dX10_doorsThatOpen_18 : decode cX10_doorsThatOpen 18 = .ok (.iload 4, 2) := by decide +kernel
theorem dX10_doorsThatOpen_20 : decode cX10_doorsThatOpen 20 = .ok (.iload_n 2, 1) := by decide +kernel
theorem dX10_doorsThatOpen_21 : decode cX10_doorsThatOpen 21 = .ok (.if_icmp .ge 49, 3) := by decide +kernel
theorem dX10_doorsThatOpen_24 : decode cX10_doorsThatOpen 24 = .ok (.aload_n 0, 1) := by decide +kernel
theorem dX10_doorsThatOpen_25 : decode cX10_doorsThatOpen 25 = .ok (.getfield 40, 3) := by decide +kernel
theorem dX10_doorsThatOpen_28 : decode cX10_doorsThatOpen 28 = .ok (.invokevirtual 217, 3) := by decide +kernel
theorem dX10_doorsThatOpen_31 : decode cX10_doorsThatOpen 31 = .ok (.aload_n 0, 1) := by decide +kernel
theorem dX10_doorsThatOpen_32 : decode cX10_doorsThatOpen 32 = .ok (.getfield 40, 3) := by decide +kernel
theorem dX10_doorsThatOpen_35 : decode cX10_doorsThatOpen 35 = .ok (.aload_n 0, 1) := by decide +kernel
theorem dX10_doorsThatOpen_36 : decode cX10_doorsThatOpen 36 = .ok (.getfield 10, 3) := by decide +kernel
theorem dX10_doorsThatOpen_39 : decode cX10_doorsThatOpen 39 = .ok (.iload_n 1, 1) := by decide +kernel
theorem dX10_doorsThatOpen_40 : decode cX10_doorsThatOpen 40 = .ok (.aload_n 0, 1) := by decide +kernel
theorem dX10_doorsThatOpen_41 : decode cX10_doorsThatOpen 41 = .ok (.getfield 10, 3) := by decide +kernel
theorem dX10_doorsThatOpen_44 : decode cX10_doorsThatOpen 44 = .ok (.getfield 225, 3) := by decide +kernel
theorem dX10_doorsThatOpen_47 : decode cX10_doorsThatOpen 47 = .ok (.iload 4, 2) := by decide +kernel
theorem dX10_doorsThatOpen_49 : decode cX10_doorsThatOpen 49 = .ok (.iaload, 1) := by decide +kernel
theorem dX10_doorsThatOpen_50 : decode cX10_doorsThatOpen 50 = .ok (.invokevirtual 218, 3) := by decide +kernel
theorem dX10_doorsThatOpen_53 : decode cX10_doorsThatOpen 53 = .ok (.iconst 1, 1) := by decide +kernel
theorem dX10_doorsThatOpen_54 : decode cX10_doorsThatOpen 54 = .ok (.if_icmp .ne 10, 3) := by decide +kernel
theorem dX10_doorsThatOpen_57 : decode cX10_doorsThatOpen 57 = .ok (.iload_n 3, 1) := by decide +kernel
theorem dX10_doorsThatOpen_58 : decode cX10_doorsThatOpen 58 = .ok (.iconst 1, 1) := by decide +kernel
theorem dX10_doorsThatOpen_59 : decode cX10_doorsThatOpen 59 = .ok (.iload 4, 2) := by decide +kernel
theorem dX10_doorsThatOpen_61 : decode cX10_doorsThatOpen 61 = .ok (.ishl, 1) := by decide +kernel
theorem dX10_doorsThatOpen_62 : decode cX10_doorsThatOpen 62 = .ok (.ior, 1) := by decide +kernel
theorem dX10_doorsThatOpen_63 : decode cX10_doorsThatOpen 63 = .ok (.istore_n 3, 1) := by decide +kernel
theorem dX10_doorsThatOpen_64 : decode cX10_doorsThatOpen 64 = .ok (.iinc 4 1, 3) := by decide +kernel
theorem dX10_doorsThatOpen_67 : decode cX10_doorsThatOpen 67 = .ok (.goto (-49), 3) := by decide +kernel
theorem dX10_doorsThatOpen_70 : decode cX10_doorsThatOpen 70 = .ok (.iload_n 3, 1) := by decide +kernel
theorem dX10_doorsThatOpen_71 : decode cX10_doorsThatOpen 71 = .ok (.ireturn, 1) := by decide +kernel
theorem dX10_undo_0 : decode cX10_undo 0 = .ok (.aload_n 0, 1) := by decide +kernel
theorem dX10_undo_1 : decode cX10_undo 1 = .ok (.getfield 19, 3) := by decide +kernel
theorem dX10_undo_4 : decode cX10_undo 4 = .ok (.ifCond .ne 6, 3) := by decide +kernel
theorem dX10_undo_7 : decode cX10_undo 7 = .ok (.bipush (-3), 2) := by decide +kernel
theorem dX10_undo_9 : decode cX10_undo 9 = .ok (.ireturn, 1) := by decide +kernel
theorem dX10_undo_10 : decode cX10_undo 10 = .ok (.aload_n 0, 1) := by decide +kernel
theorem dX10_undo_11 : decode cX10_undo 11 = .ok (.getfield 10, 3) := by decide +kernel
theorem dX10_undo_14 : decode cX10_undo 14 = .ok (.astore_n 1, 1) := by decide +kernel
theorem dX10_undo_15 : decode cX10_undo 15 = .ok (.aload_n 0, 1) := by decide +kernel
theorem dX10_undo_16 : decode cX10_undo 16 = .ok (.aload_n 0, 1) := by decide +kernel
theorem dX10_undo_17 : decode cX10_undo 17 = .ok (.getfield 16, 3) := by decide +kernel
theorem dX10_undo_20 : decode cX10_undo 20 = .ok (.putfield 10, 3) := by decide +kernel
theorem dX10_undo_23 : decode cX10_undo 23 = .ok (.aload_n 0, 1) := by decide +kernel
theorem dX10_undo_24 : decode cX10_undo 24 = .ok (.aload_n 1, 1) := by decide +kernel
theorem dX10_undo_25 : decode cX10_undo 25 = .ok (.putfield 16, 3) := by decide +kernel
theorem dX10_undo_28 : decode cX10_undo 28 = .ok (.aload_n 0, 1) := by decide +kernel
theorem dX10_undo_29 : decode cX10_undo 29 = .ok (.iconst 0, 1) := by decide +kernel
theorem dX10_undo_30 : decode cX10_undo 30 = .ok (.putfield 19, 3) := by decide +kernel
theorem dX10_undo_33 : decode cX10_undo 33 = .ok (.iconst 1, 1) := by decide +kernel
theorem dX10_undo_34 : decode cX10_undo 34 = .ok (.ireturn, 1) := by decide +kernel
theorem dX10_finding_0 : decode cX10_finding 0 = .ok (.aload_n 0, 1) := by decide +kernel
theorem dX10_finding_1 : decode cX10_finding 1 = .ok (.getfield 27, 3) := by decide +kernel
theorem dX10_finding_4 : decode cX10_finding 4 = .ok (.ireturn, 1) := by decide +kernel
theorem dX10_trace_0 : decode cX10_trace 0 = .ok (.aload_n 0, 1) := by decide +kernel
theorem dX10_trace_1 : decode cX10_trace 1 = .ok (.getfield 36, 3) := by decide +kernel
theorem dX10_trace_4 : decode cX10_trace 4 = .ok (.getfield 163, 3) := by decide +kernel
theorem dX10_trace_7 : decode cX10_trace 7 = .ok (.iload_n 1, 1) := by decide +kernel
theorem dX10_trace_8 : decode cX10_trace 8 = .ok (.invokevirtual 348, 3) := by decide +kernel
theorem dX10_trace_11 : decode cX10_trace 11 = .ok (.ireturn, 1) := by decide +kernel
theorem dX10_told_0 : decode cX10_told 0 = .ok (.iload_n 1, 1) := by decide +kernel
theorem dX10_told_1 : decode cX10_told 1 = .ok (.tableswitch 144 0 9 #[55, 66, 77, 88, 96, 104, 112, 117, 122, 133], 55) := by decide +kernel
theorem dX10_told_56 : decode cX10_told 56 = .ok (.aload_n 0, 1) := by decide +kernel
theorem dX10_told_57 : decode cX10_told 57 = .ok (.getfield 10, 3) := by decide +kernel
theorem dX10_told_60 : decode cX10_told 60 = .ok (.getfield 72, 3) := by decide +kernel
theorem dX10_told_63 : decode cX10_told 63 = .ok (.getfield 76, 3) := by decide +kernel
theorem dX10_told_66 : decode cX10_told 66 = .ok (.ireturn, 1) := by decide +kernel
theorem dX10_told_67 : decode cX10_told 67 = .ok (.aload_n 0, 1) := by decide +kernel
theorem dX10_told_68 : decode cX10_told 68 = .ok (.getfield 10, 3) := by decide +kernel
theorem dX10_told_71 : decode cX10_told 71 = .ok (.getfield 191, 3) := by decide +kernel
theorem dX10_told_74 : decode cX10_told 74 = .ok (.getfield 209, 3) := by decide +kernel
theorem dX10_told_77 : decode cX10_told 77 = .ok (.ireturn, 1) := by decide +kernel
theorem dX10_told_78 : decode cX10_told 78 = .ok (.aload_n 0, 1) := by decide +kernel
theorem dX10_told_79 : decode cX10_told 79 = .ok (.getfield 10, 3) := by decide +kernel
theorem dX10_told_82 : decode cX10_told 82 = .ok (.getfield 228, 3) := by decide +kernel
theorem dX10_told_85 : decode cX10_told 85 = .ok (.getfield 250, 3) := by decide +kernel
theorem dX10_told_88 : decode cX10_told 88 = .ok (.ireturn, 1) := by decide +kernel
theorem dX10_told_89 : decode cX10_told 89 = .ok (.aload_n 0, 1) := by decide +kernel
theorem dX10_told_90 : decode cX10_told 90 = .ok (.getfield 10, 3) := by decide +kernel
theorem dX10_told_93 : decode cX10_told 93 = .ok (.getfield 265, 3) := by decide +kernel
theorem dX10_told_96 : decode cX10_told 96 = .ok (.ireturn, 1) := by decide +kernel
theorem dX10_told_97 : decode cX10_told 97 = .ok (.aload_n 0, 1) := by decide +kernel
theorem dX10_told_98 : decode cX10_told 98 = .ok (.getfield 10, 3) := by decide +kernel
theorem dX10_told_101 : decode cX10_told 101 = .ok (.getfield 268, 3) := by decide +kernel
theorem dX10_told_104 : decode cX10_told 104 = .ok (.ireturn, 1) := by decide +kernel
theorem dX10_told_105 : decode cX10_told 105 = .ok (.aload_n 0, 1) := by decide +kernel
theorem dX10_told_106 : decode cX10_told 106 = .ok (.getfield 10, 3) := by decide +kernel
theorem dX10_told_109 : decode cX10_told 109 = .ok (.getfield 178, 3) := by decide +kernel
theorem dX10_told_112 : decode cX10_told 112 = .ok (.ireturn, 1) := by decide +kernel
theorem dX10_told_113 : decode cX10_told 113 = .ok (.aload_n 0, 1) := by decide +kernel
theorem dX10_told_114 : decode cX10_told 114 = .ok (.getfield 23, 3) := by decide +kernel
theorem dX10_told_117 : decode cX10_told 117 = .ok (.ireturn, 1) := by decide +kernel
theorem dX10_told_118 : decode cX10_told 118 = .ok (.aload_n 0, 1) := by decide +kernel
theorem dX10_told_119 : decode cX10_told 119 = .ok (.getfield 30, 3) := by decide +kernel
theorem dX10_told_122 : decode cX10_told 122 = .ok (.ireturn, 1) := by decide +kernel
theorem dX10_told_123 : decode cX10_told 123 = .ok (.aload_n 0, 1) := by decide +kernel
theorem dX10_told_124 : decode cX10_told 124 = .ok (.getfield 36, 3) := by decide +kernel
theorem dX10_told_127 : decode cX10_told 127 = .ok (.getfield 163, 3) := by decide +kernel
theorem dX10_told_130 : decode cX10_told 130 = .ok (.getfield 351, 3) := by decide +kernel
theorem dX10_told_133 : decode cX10_told 133 = .ok (.ireturn, 1) := by decide +kernel
theorem dX10_told_134 : decode cX10_told 134 = .ok (.aload_n 0, 1) := by decide +kernel
theorem dX10_told_135 : decode cX10_told 135 = .ok (.getfield 10, 3) := by decide +kernel
theorem dX10_told_138 : decode cX10_told 138 = .ok (.getfield 72, 3) := by decide +kernel
theorem dX10_told_141 : decode cX10_told 141 = .ok (.getfield 147, 3) := by decide +kernel
theorem dX10_told_144 : decode cX10_told 144 = .ok (.ireturn, 1) := by decide +kernel
theorem dX10_told_145 : decode cX10_told 145 = .ok (.bipush (-2), 2) := by decide +kernel
theorem dX10_told_147 : decode cX10_told 147 = .ok (.ireturn, 1) := by decide +kernel
theorem dX10_remember_0 : decode cX10_remember 0 = .ok (.aload_n 0, 1) := by decide +kernel
theorem dX10_remember_1 : decode cX10_remember 1 = .ok (.getfield 16, 3) := by decide +kernel
theorem dX10_remember_4 : decode cX10_remember 4 = .ok (.aload_n 0, 1) := by decide +kernel
theorem dX10_remember_5 : decode cX10_remember 5 = .ok (.getfield 10, 3) := by decide +kernel
theorem dX10_remember_8 : decode cX10_remember 8 = .ok (.invokevirtual 354, 3) := by decide +kernel
theorem dX10_remember_11 : decode cX10_remember 11 = .ok (.aload_n 0, 1) := by decide +kernel
theorem dX10_remember_12 : decode cX10_remember 12 = .ok (.iconst 1, 1) := by decide +kernel
theorem dX10_remember_13 : decode cX10_remember 13 = .ok (.putfield 19, 3) := by decide +kernel
theorem dX10_remember_16 : decode cX10_remember 16 = .ok (.return_, 1) := by decide +kernel
theorem dX10_settle_0 : decode cX10_settle 0 = .ok (.iload_n 1, 1) := by decide +kernel
theorem dX10_settle_1 : decode cX10_settle 1 = .ok (.bipush (-11), 2) := by decide +kernel
theorem dX10_settle_3 : decode cX10_settle 3 = .ok (.if_icmp .gt 30, 3) := by decide +kernel
theorem dX10_settle_6 : decode cX10_settle 6 = .ok (.iload_n 1, 1) := by decide +kernel
theorem dX10_settle_7 : decode cX10_settle 7 = .ok (.bipush (-15), 2) := by decide +kernel
theorem dX10_settle_9 : decode cX10_settle 9 = .ok (.if_icmp .lt 24, 3) := by decide +kernel
theorem dX10_settle_12 : decode cX10_settle 12 = .ok (.aload_n 0, 1) := by decide +kernel
theorem dX10_settle_13 : decode cX10_settle 13 = .ok (.bipush (-10), 2) := by decide +kernel
theorem dX10_settle_15 : decode cX10_settle 15 = .ok (.iload_n 1, 1) := by decide +kernel
theorem dX10_settle_16 : decode cX10_settle 16 = .ok (.isub, 1) := by decide +kernel
theorem dX10_settle_17 : decode cX10_settle 17 = .ok (.putfield 27, 3) := by decide +kernel
theorem dX10_settle_20 : decode cX10_settle 20 = .ok (.aload_n 0, 1) := by decide +kernel
theorem dX10_settle_21 : decode cX10_settle 21 = .ok (.dup, 1) := by decide +kernel
theorem dX10_settle_22 : decode cX10_settle 22 = .ok (.getfield 30, 3) := by decide +kernel
theorem dX10_settle_25 : decode cX10_settle 25 = .ok (.iconst 1, 1) := by decide +kernel
theorem dX10_settle_26 : decode cX10_settle 26 = .ok (.iadd, 1) := by decide +kernel
theorem dX10_settle_27 : decode cX10_settle 27 = .ok (.putfield 30, 3) := by decide +kernel
theorem dX10_settle_30 : decode cX10_settle 30 = .ok (.goto 26, 3) := by decide +kernel
theorem dX10_settle_33 : decode cX10_settle 33 = .ok (.iload_n 1, 1) := by decide +kernel
theorem dX10_settle_34 : decode cX10_settle 34 = .ok (.bipush (-2), 2) := by decide +kernel
theorem dX10_settle_36 : decode cX10_settle 36 = .ok (.if_icmp .eq 20, 3) := by decide +kernel
theorem dX10_settle_39 : decode cX10_settle 39 = .ok (.iload_n 1, 1) := by decide +kernel
theorem dX10_settle_40 : decode cX10_settle 40 = .ok (.bipush (-3), 2) := by decide +kernel
theorem dX10_settle_42 : decode cX10_settle 42 = .ok (.if_icmp .eq 14, 3) := by decide +kernel
theorem dX10_settle_45 : decode cX10_settle 45 = .ok (.iload_n 1, 1) := by decide +kernel
theorem dX10_settle_46 : decode cX10_settle 46 = .ok (.bipush (-4), 2) := by decide +kernel
theorem dX10_settle_48 : decode cX10_settle 48 = .ok (.if_icmp .eq 8, 3) := by decide +kernel
theorem dX10_settle_51 : decode cX10_settle 51 = .ok (.aload_n 0, 1) := by decide +kernel
theorem dX10_settle_52 : decode cX10_settle 52 = .ok (.iconst 0, 1) := by decide +kernel
theorem dX10_settle_53 : decode cX10_settle 53 = .ok (.putfield 27, 3) := by decide +kernel
theorem dX10_settle_56 : decode cX10_settle 56 = .ok (.iload_n 1, 1) := by decide +kernel
theorem dX10_settle_57 : decode cX10_settle 57 = .ok (.ireturn, 1) := by decide +kernel
theorem dX11_init_0 : decode cX11_init 0 = .ok (.aload_n 0, 1) := by decide +kernel
theorem dX11_init_1 : decode cX11_init 1 = .ok (.invokespecial 1, 3) := by decide +kernel
theorem dX11_init_4 : decode cX11_init 4 = .ok (.aload_n 0, 1) := by decide +kernel
theorem dX11_init_5 : decode cX11_init 5 = .ok (.sipush 8530, 3) := by decide +kernel
theorem dX11_init_8 : decode cX11_init 8 = .ok (.newarray .int, 2) := by decide +kernel
theorem dX11_init_10 : decode cX11_init 10 = .ok (.putfield 7, 3) := by decide +kernel
theorem dX11_init_13 : decode cX11_init 13 = .ok (.aload_n 0, 1) := by decide +kernel
theorem dX11_init_14 : decode cX11_init 14 = .ok (.sipush 8530, 3) := by decide +kernel
theorem dX11_init_17 : decode cX11_init 17 = .ok (.newarray .int, 2) := by decide +kernel
theorem dX11_init_19 : decode cX11_init 19 = .ok (.putfield 13, 3) := by decide +kernel
theorem dX11_init_22 : decode cX11_init 22 = .ok (.aload_n 0, 1) := by decide +kernel
theorem dX11_init_23 : decode cX11_init 23 = .ok (.iconst (-1), 1) := by decide +kernel
theorem dX11_init_24 : decode cX11_init 24 = .ok (.putfield 16, 3) := by decide +kernel
theorem dX11_init_27 : decode cX11_init 27 = .ok (.aload_n 0, 1) := by decide +kernel
theorem dX11_init_28 : decode cX11_init 28 = .ok (.iconst (-1), 1) := by decide +kernel
theorem dX11_init_29 : decode cX11_init 29 = .ok (.putfield 20, 3) := by decide +kernel
theorem dX11_init_32 : decode cX11_init 32 = .ok (.aload_n 0, 1) := by decide +kernel
theorem dX11_init_33 : decode cX11_init 33 = .ok (.bipush 40, 2) := by decide +kernel
theorem dX11_init_35 : decode cX11_init 35 = .ok (.newarray .int, 2) := by decide +kernel
theorem dX11_init_37 : decode cX11_init 37 = .ok (.putfield 23, 3) := by decide +kernel
theorem dX11_init_40 : decode cX11_init 40 = .ok (.aload_n 0, 1) := by decide +kernel
theorem dX11_init_41 : decode cX11_init 41 = .ok (.bipush 30, 2) := by decide +kernel
theorem dX11_init_43 : decode cX11_init 43 = .ok (.newarray .int, 2) := by decide +kernel
theorem dX11_init_45 : decode cX11_init 45 = .ok (.putfield 26, 3) := by decide +kernel
theorem dX11_init_48 : decode cX11_init 48 = .ok (.aload_n 0, 1) := by decide +kernel
theorem dX11_init_49 : decode cX11_init 49 = .ok (.bipush 30, 2) := by decide +kernel
theorem dX11_init_51 : decode cX11_init 51 = .ok (.newarray .int, 2) := by decide +kernel
theorem dX11_init_53 : decode cX11_init 53 = .ok (.putfield 29, 3) := by decide +kernel
theorem dX11_init_56 : decode cX11_init 56 = .ok (.aload_n 0, 1) := by decide +kernel
theorem dX11_init_57 : decode cX11_init 57 = .ok (.bipush 6, 2) := by decide +kernel
theorem dX11_init_59 : decode cX11_init 59 = .ok (.newarray .int, 2) := by decide +kernel
theorem dX11_init_61 : decode cX11_init 61 = .ok (.putfield 32, 3) := by decide +kernel
theorem dX11_init_64 : decode cX11_init 64 = .ok (.aload_n 0, 1) := by decide +kernel
theorem dX11_init_65 : decode cX11_init 65 = .ok (.bipush 36, 2) := by decide +kernel
theorem dX11_init_67 : decode cX11_init 67 = .ok (.newarray .int, 2) := by decide +kernel
theorem dX11_init_69 : decode cX11_init 69 = .ok (.putfield 35, 3) := by decide +kernel
theorem dX11_init_72 : decode cX11_init 72 = .ok (.aload_n 0, 1) := by decide +kernel
theorem dX11_init_73 : decode cX11_init 73 = .ok (.bipush 30, 2) := by decide +kernel
theorem dX11_init_75 : decode cX11_init 75 = .ok (.newarray .int, 2) := by decide +kernel
theorem dX11_init_77 : decode cX11_init 77 = .ok (.putfield 38, 3) := by decide +kernel
theorem dX11_init_80 : decode cX11_init 80 = .ok (.aload_n 0, 1) := by decide +kernel
theorem dX11_init_81 : decode cX11_init 81 = .ok (.bipush 18, 2) := by decide +kernel
theorem dX11_init_83 : decode cX11_init 83 = .ok (.newarray .int, 2) := by decide +kernel
theorem dX11_init_85 : decode cX11_init 85 = .ok (.putfield 41, 3) := by decide +kernel
theorem dX11_init_88 : decode cX11_init 88 = .ok (.aload_n 0, 1) := by decide +kernel
theorem dX11_init_89 : decode cX11_init 89 = .ok (.bipush 10, 2) := by decide +kernel
theorem dX11_init_91 : decode cX11_init 91 = .ok (.newarray .long, 2) := by decide +kernel
theorem dX11_init_93 : decode cX11_init 93 = .ok (.putfield 44, 3) := by decide +kernel
theorem dX11_init_96 : decode cX11_init 96 = .ok (.aload_n 0, 1) := by decide +kernel
theorem dX11_init_97 : decode cX11_init 97 = .ok (.bipush 10, 2) := by decide +kernel
theorem dX11_init_99 : decode cX11_init 99 = .ok (.newarray .long, 2) := by decide +kernel
theorem dX11_init_101 : decode cX11_init 101 = .ok (.putfield 48, 3) := by decide +kernel
theorem dX11_init_104 : decode cX11_init 104 = .ok (.aload_n 0, 1) := by decide +kernel
theorem dX11_init_105 : decode cX11_init 105 = .ok (.bipush 14, 2) := by decide +kernel
theorem dX11_init_107 : decode cX11_init 107 = .ok (.newarray .int, 2) := by decide +kernel
theorem dX11_init_109 : decode cX11_init 109 = .ok (.putfield 51, 3) := by decide +kernel
theorem dX11_init_112 : decode cX11_init 112 = .ok (.aload_n 0, 1) := by decide +kernel
theorem dX11_init_113 : decode cX11_init 113 = .ok (.sipush 16384, 3) := by decide +kernel
theorem dX11_init_116 : decode cX11_init 116 = .ok (.newarray .int, 2) := by decide +kernel
theorem dX11_init_118 : decode cX11_init 118 = .ok (.putfield 54, 3) := by decide +kernel
theorem dX11_init_121 : decode cX11_init 121 = .ok (.aload_n 0, 1) := by decide +kernel
theorem dX11_init_122 : decode cX11_init 122 = .ok (.getfield 7, 3) := by decide +kernel
theorem dX11_init_125 : decode cX11_init 125 = .ok (.sipush 8528, 3) := by decide +kernel
theorem dX11_init_128 : decode cX11_init 128 = .ok (.iconst (-1), 1) := by decide +kernel
theorem dX11_init_129 : decode cX11_init 129 = .ok (.iastore, 1) := by decide +kernel
theorem dX11_init_130 : decode cX11_init 130 = .ok (.return_, 1) := by decide +kernel
theorem dX11_in_0 : decode cX11_in 0 = .ok (.lload_n 0, 1) := by decide +kernel
theorem dX11_in_1 : decode cX11_in 1 = .ok (.lload_n 2, 1) := by decide +kernel
theorem dX11_in_2 : decode cX11_in 2 = .ok (.lcmp, 1) := by decide +kernel
theorem dX11_in_3 : decode cX11_in 3 = .ok (.ifCond .lt 14, 3) := by decide +kernel
theorem dX11_in_6 : decode cX11_in 6 = .ok (.lload_n 0, 1) := by decide +kernel
theorem dX11_in_7 : decode cX11_in 7 = .ok (.lload 4, 2) := by decide +kernel
theorem dX11_in_9 : decode cX11_in 9 = .ok (.lcmp, 1) := by decide +kernel
theorem dX11_in_10 : decode cX11_in 10 = .ok (.ifCond .gt 7, 3) := by decide +kernel
theorem dX11_in_13 : decode cX11_in 13 = .ok (.iconst 1, 1) := by decide +kernel
theorem dX11_in_14 : decode cX11_in 14 = .ok (.goto 4, 3) := by decide +kernel
theorem dX11_in_17 : decode cX11_in 17 = .ok (.iconst 0, 1) := by decide +kernel
theorem dX11_in_18 : decode cX11_in 18 = .ok (.ireturn, 1) := by decide +kernel
theorem dX11_met_0 : decode cX11_met 0 = .ok (.aload_n 0, 1) := by decide +kernel
theorem dX11_met_1 : decode cX11_met 1 = .ok (.iload_n 1, 1) := by decide +kernel
theorem dX11_met_2 : decode cX11_met 2 = .ok (.putfield 57, 3) := by decide +kernel
theorem dX11_met_5 : decode cX11_met 5 = .ok (.aload_n 0, 1) := by decide +kernel
theorem dX11_met_6 : decode cX11_met 6 = .ok (.dup, 1) := by decide +kernel
theorem dX11_met_7 : decode cX11_met 7 = .ok (.getfield 60, 3) := by decide +kernel
theorem dX11_met_10 : decode cX11_met 10 = .ok (.iconst 1, 1) := by decide +kernel
theorem dX11_met_11 : decode cX11_met 11 = .ok (.iadd, 1) := by decide +kernel
theorem dX11_met_12 : decode cX11_met 12 = .ok (.putfield 60, 3) := by decide +kernel
theorem dX11_met_15 : decode cX11_met 15 = .ok (.bipush (-10), 2) := by decide +kernel
theorem dX11_met_17 : decode cX11_met 17 = .ok (.iload_n 1, 1) := by decide +kernel
theorem dX11_met_18 : decode cX11_met 18 = .ok (.isub, 1) := by decide +kernel
theorem dX11_met_19 : decode cX11_met 19 = .ok (.ireturn, 1) := by decide +kernel
theorem dX11_well_0 : decode cX11_well 0 = .ok (.aload_n 0, 1) := by decide +kernel
theorem dX11_well_1 : decode cX11_well 1 = .ok (.iconst 0, 1) := by decide +kernel
theorem dX11_well_2 : decode cX11_well 2 = .ok (.putfield 57, 3) := by decide +kernel
theorem dX11_well_5 : decode cX11_well 5 = .ok (.iload_n 1, 1) := by decide +kernel
theorem dX11_well_6 : decode cX11_well 6 = .ok (.ireturn, 1) := by decide +kernel
theorem dX11_change_0 : decode cX11_change 0 = .ok (.iconst 0, 1) := by decide +kernel
theorem dX11_change_1 : decode cX11_change 1 = .ok (.istore_n 1, 1) := by decide +kernel
theorem dX11_change_2 : decode cX11_change 2 = .ok (.iload_n 1, 1) := by decide +kernel
theorem dX11_change_3 : decode cX11_change 3 = .ok (.sipush 8530, 3) := by decide +kernel
theorem dX11_change_6 : decode cX11_change 6 = .ok (.if_icmp .ge 21, 3) := by decide +kernel
theorem dX11_change_9 : decode cX11_change 9 = .ok (.aload_n 0, 1) := by decide +kernel
theorem dX11_change_10 : decode cX11_change 10 = .ok (.getfield 13, 3) := by decide +kernel
theorem dX11_change_13 : decode cX11_change 13 = .ok (.iload_n 1, 1) := by decide +kernel
theorem dX11_change_14 : decode cX11_change 14 = .ok (.aload_n 0, 1) := by decide +kernel
theorem dX11_change_15 : decode cX11_change 15 = .ok (.getfield 7, 3) := by decide +kernel
theorem dX11_change_18 : decode cX11_change 18 = .ok (.iload_n 1, 1) := by decide +kernel
theorem dX11_change_19 : decode cX11_change 19 = .ok (.iaload, 1) := by decide +kernel
theorem dX11_change_20 : decode cX11_change 20 = .ok (.iastore, 1) := by decide +kernel
theorem dX11_change_21 : decode cX11_change 21 = .ok (.iinc 1 1, 3) := by decide +kernel
theorem dX11_change_24 : decode cX11_change 24 = .ok (.goto (-22), 3) := by decide +kernel
theorem dX11_change_27 : decode cX11_change 27 = .ok (.aload_n 0, 1) := by decide +kernel
theorem dX11_change_28 : decode cX11_change 28 = .ok (.iconst 1, 1) := by decide +kernel
theorem dX11_change_29 : decode cX11_change 29 = .ok (.putfield 63, 3) := by decide +kernel
theorem dX11_change_32 : decode cX11_change 32 = .ok (.return_, 1) := by decide +kernel
theorem dX11_isCylinder_0 : decode cX11_isCylinder 0 = .ok (.iload_n 1, 1) := by decide +kernel
theorem dX11_isCylinder_1 : decode cX11_isCylinder 1 = .ok (.i2l, 1) := by decide +kernel
theorem dX11_isCylinder_2 : decode cX11_isCylinder 2 = .ok (.lconst 0, 1) := by decide +kernel
theorem dX11_isCylinder_3 : decode cX11_isCylinder 3 = .ok (.aload_n 0, 1) := by decide +kernel
theorem dX11_isCylinder_4 : decode cX11_isCylinder 4 = .ok (.getfield 7, 3) := by decide +kernel
theorem dX11_isCylinder_7 : decode cX11_isCylinder 7 = .ok (.sipush 8522, 3) := by decide +kernel
theorem dX11_isCylinder_10 : decode cX11_isCylinder 10 = .ok (.iaload, 1) := by decide +kernel
theorem dX11_isCylinder_11 : decode cX11_isCylinder 11 = .ok (.iconst 1, 1) := by decide +kernel
theorem dX11_isCylinder_12 : decode cX11_isCylinder 12 = .ok (.isub, 1) := by decide +kernel
theorem dX11_isCylinder_13 : decode cX11_isCylinder 13 = .ok (.i2l, 1) := by decide +kernel
theorem dX11_isCylinder_14 : decode cX11_isCylinder 14 = .ok (.invokestatic 67, 3) := by decide +kernel
theorem dX11_isCylinder_17 : decode cX11_isCylinder 17 = .ok (.ireturn, 1) := by decide +kernel
theorem dX11_isKey_0 : decode cX11_isKey 0 = .ok (.iload_n 1, 1) := by decide +kernel
theorem dX11_isKey_1 : decode cX11_isKey 1 = .ok (.i2l, 1) := by decide +kernel
theorem dX11_isKey_2 : decode cX11_isKey 2 = .ok (.lconst 0, 1) := by decide +kernel
theorem dX11_isKey_3 : decode cX11_isKey 3 = .ok (.aload_n 0, 1) := by decide +kernel
theorem dX11_isKey_4 : decode cX11_isKey 4 = .ok (.getfield 7, 3) := by decide +kernel
theorem dX11_isKey_7 : decode cX11_isKey 7 = .ok (.sipush 8523, 3) := by decide +kernel
theorem dX11_isKey_10 : decode cX11_isKey 10 = .ok (.iaload, 1) := by decide +kernel
theorem dX11_isKey_11 : decode cX11_isKey 11 = .ok (.iconst 1, 1) := by decide +kernel
theorem dX11_isKey_12 : decode cX11_isKey 12 = .ok (.isub, 1) := by decide +kernel
theorem dX11_isKey_13 : decode cX11_isKey 13 = .ok (.i2l, 1) := by decide +kernel
theorem dX11_isKey_14 : decode cX11_isKey 14 = .ok (.invokestatic 67, 3) := by decide +kernel
theorem dX11_isKey_17 : decode cX11_isKey 17 = .ok (.ireturn, 1) := by decide +kernel
theorem dX11_isDoor_0 : decode cX11_isDoor 0 = .ok (.iload_n 1, 1) := by decide +kernel
theorem dX11_isDoor_1 : decode cX11_isDoor 1 = .ok (.i2l, 1) := by decide +kernel
theorem dX11_isDoor_2 : decode cX11_isDoor 2 = .ok (.lconst 0, 1) := by decide +kernel
theorem dX11_isDoor_3 : decode cX11_isDoor 3 = .ok (.aload_n 0, 1) := by decide +kernel
theorem dX11_isDoor_4 : decode cX11_isDoor 4 = .ok (.getfield 7, 3) := by decide +kernel
theorem dX11_isDoor_7 : decode cX11_isDoor 7 = .ok (.sipush 8525, 3) := by decide +kernel
theorem dX11_isDoor_10 : decode cX11_isDoor 10 = .ok (.iaload, 1) := by decide +kernel
theorem dX11_isDoor_11 : decode cX11_isDoor 11 = .ok (.iconst 1, 1) := by decide +kernel
theorem dX11_isDoor_12 : decode cX11_isDoor 12 = .ok (.isub, 1) := by decide +kernel
theorem dX11_isDoor_13 : decode cX11_isDoor 13 = .ok (.i2l, 1) := by decide +kernel
theorem dX11_isDoor_14 : decode cX11_isDoor 14 = .ok (.invokestatic 67, 3) := by decide +kernel
theorem dX11_isDoor_17 : decode cX11_isDoor 17 = .ok (.ireturn, 1) := by decide +kernel
theorem dX11_most_0 : decode cX11_most 0 = .ok (.iload_n 0, 1) := by decide +kernel
theorem dX11_most_1 : decode cX11_most 1 = .ok (.ifCond .ne 7, 3) := by decide +kernel
theorem dX11_most_4 : decode cX11_most 4 = .ok (.iconst 1, 1) := by decide +kernel
theorem dX11_most_5 : decode cX11_most 5 = .ok (.goto 13, 3) := by decide +kernel
theorem dX11_most_8 : decode cX11_most 8 = .ok (.iload_n 0, 1) := by decide +kernel
theorem dX11_most_9 : decode cX11_most 9 = .ok (.iconst 3, 1) := by decide +kernel
theorem dX11_most_10 : decode cX11_most 10 = .ok (.if_icmp .ne 7, 3) := by decide +kernel
theorem dX11_most_13 : decode cX11_most 13 = .ok (.iconst 0, 1) := by decide +kernel
theorem dX11_most_14 : decode cX11_most 14 = .ok (.goto 4, 3) := by decide +kernel
theorem dX11_most_17 : decode cX11_most 17 = .ok (.iconst 4, 1) := by decide +kernel
theorem dX11_most_18 : decode cX11_most 18 = .ok (.ireturn, 1) := by decide +kernel
theorem dX11_bits_0 : decode cX11_bits 0 = .ok (.iconst 0, 1) := by decide +kernel
theorem dX11_bits_1 : decode cX11_bits 1 = .ok (.istore_n 1, 1) := by decide +kernel
theorem dX11_bits_2 : decode cX11_bits 2 = .ok (.iconst 0, 1) := by decide +kernel
theorem dX11_bits_3 : decode cX11_bits 3 = .ok (.istore_n 2, 1) := by decide +kernel
theorem dX11_bits_4 : decode cX11_bits 4 = .ok (.iload_n 2, 1) := by decide +kernel
theorem dX11_bits_5 : decode cX11_bits 5 = .ok (.bipush 31, 2) := by decide +kernel
theorem dX11_bits_7 : decode cX11_bits 7 = .ok (.if_icmp .ge 17, 3) := by decide +kernel
theorem dX11_bits_10 : decode cX11_bits 10 = .ok (.iload_n 1, 1) := by decide +kernel
theorem dX11_bits_11 : decode cX11_bits 11 = .ok (.iload_n 0, 1) := by decide +kernel
theorem dX11_bits_12 : decode cX11_bits 12 = .ok (.iload_n 2, 1) := by decide +kernel
theorem dX11_bits_13 : decode cX11_bits 13 = .ok (.ishr, 1) := by decide +kernel
theorem dX11_bits_14 : decode cX11_bits 14 = .ok (.iconst 1, 1) := by decide +kernel
theorem dX11_bits_15 : decode cX11_bits 15 = .ok (.iand, 1) := by decide +kernel
theorem dX11_bits_16 : decode cX11_bits 16 = .ok (.iadd, 1) := by decide +kernel
theorem dX11_bits_17 : decode cX11_bits 17 = .ok (.istore_n 1, 1) := by decide +kernel
theorem dX11_bits_18 : decode cX11_bits 18 = .ok (.iinc 2 1, 3) := by decide +kernel
theorem dX11_bits_21 : decode cX11_bits 21 = .ok (.goto (-17), 3) := by decide +kernel
theorem dX11_bits_24 : decode cX11_bits 24 = .ok (.iload_n 1, 1) := by decide +kernel
theorem dX11_bits_25 : decode cX11_bits 25 = .ok (.ireturn, 1) := by decide +kernel
theorem dX11_newCylinder_0 : decode cX11_newCylinder 0 = .ok (.aload_n 0, 1) := by decide +kernel
theorem dX11_newCylinder_1 : decode cX11_newCylinder 1 = .ok (.invokevirtual 71, 3) := by decide +kernel
theorem dX11_newCylinder_4 : decode cX11_newCylinder 4 = .ok (.aload_n 0, 1) := by decide +kernel
theorem dX11_newCylinder_5 : decode cX11_newCylinder 5 = .ok (.getfield 7, 3) := by decide +kernel
theorem dX11_newCylinder_8 : decode cX11_newCylinder 8 = .ok (.sipush 8522, 3) := by decide +kernel
theorem dX11_newCylinder_11 : decode cX11_newCylinder 11 = .ok (.iaload, 1) := by decide +kernel
theorem dX11_newCylinder_12 : decode cX11_newCylinder 12 = .ok (.istore 5, 2) := by decide +kernel
theorem dX11_newCylinder_14 : decode cX11_newCylinder 14 = .ok (.aload_n 0, 1) := by decide +kernel
theorem dX11_newCylinder_15 : decode cX11_newCylinder 15 = .ok (.getfield 7, 3) := by decide +kernel
theorem dX11_newCylinder_18 : decode cX11_newCylinder 18 = .ok (.iconst 0, 1) := by decide +kernel
theorem dX11_newCylinder_19 : decode cX11_newCylinder 19 = .ok (.iload 5, 2) := by decide +kernel
theorem dX11_newCylinder_21 : decode cX11_newCylinder 21 = .ok (.iadd, 1) := by decide +kernel
theorem dX11_newCylinder_22 : decode cX11_newCylinder 22 = .ok (.iload_n 1, 1) := by decide +kernel
theorem dX11_newCylinder_23 : decode cX11_newCylinder 23 = .ok (.iastore, 1) := by decide +kernel
theorem dX11_newCylinder_24 : decode cX11_newCylinder 24 = .ok (.aload_n 0, 1) := by decide +kernel
theorem dX11_newCylinder_25 : decode cX11_newCylinder 25 = .ok (.getfield 7, 3) := by decide +kernel
theorem dX11_newCylinder_28 : decode cX11_newCylinder 28 = .ok (.bipush 100, 2) := by decide +kernel
theorem dX11_newCylinder_30 : decode cX11_newCylinder 30 = .ok (.iload 5, 2) := by decide +kernel
theorem dX11_newCylinder_32 : decode cX11_newCylinder 32 = .ok (.iadd, 1) := by decide +kernel
theorem dX11_newCylinder_33 : decode cX11_newCylinder 33 = .ok (.iload_n 2, 1) := by decide +kernel
theorem dX11_newCylinder_34 : decode cX11_newCylinder 34 = .ok (.iastore, 1) := by decide +kernel
theorem dX11_newCylinder_35 : decode cX11_newCylinder 35 = .ok (.aload_n 0, 1) := by decide +kernel
theorem dX11_newCylinder_36 : decode cX11_newCylinder 36 = .ok (.getfield 7, 3) := by decide +kernel
theorem dX11_newCylinder_39 : decode cX11_newCylinder 39 = .ok (.sipush 200, 3) := by decide +kernel
theorem dX11_newCylinder_42 : decode cX11_newCylinder 42 = .ok (.iload 5, 2) := by decide +kernel
theorem dX11_newCylinder_44 : decode cX11_newCylinder 44 = .ok (.iadd, 1) := by decide +kernel
theorem dX11_newCylinder_45 : decode cX11_newCylinder 45 = .ok (.iload_n 3, 1) := by decide +kernel
theorem dX11_newCylinder_46 : decode cX11_newCylinder 46 = .ok (.iastore, 1) := by decide +kernel
theorem dX11_newCylinder_47 : decode cX11_newCylinder 47 = .ok (.aload_n 0, 1) := by decide +kernel
theorem dX11_newCylinder_48 : decode cX11_newCylinder 48 = .ok (.getfield 7, 3) := by decide +kernel
theorem dX11_newCylinder_51 : decode cX11_newCylinder 51 = .ok (.sipush 300, 3) := by decide +kernel
theorem dX11_newCylinder_54 : decode cX11_newCylinder 54 = .ok (.iload 5, 2) := by decide +kernel
theorem dX11_newCylinder_56 : decode cX11_newCylinder 56 = .ok (.iadd, 1) := by decide +kernel
theorem dX11_newCylinder_57 : decode cX11_newCylinder 57 = .ok (.iload 4, 2) := by decide +kernel
theorem dX11_newCylinder_59 : decode cX11_newCylinder 59 = .ok (.iastore, 1) := by decide +kernel
theorem dX11_newCylinder_60 : decode cX11_newCylinder 60 = .ok (.iconst 0, 1) := by decide +kernel
theorem dX11_newCylinder_61 : decode cX11_newCylinder 61 = .ok (.istore 6, 2) := by decide +kernel
theorem dX11_newCylinder_63 : decode cX11_newCylinder 63 = .ok (.iload 6, 2) := by decide +kernel
theorem dX11_newCylinder_65 : decode cX11_newCylinder 65 = .ok (.bipush 18, 2) := by decide +kernel
theorem dX11_newCylinder_67 : decode cX11_newCylinder 67 = .ok (.if_icmp .ge 27, 3) := by decide +kernel
theorem dX11_newCylinder_70 : decode cX11_newCylinder 70 = .ok (.aload_n 0, 1) := by decide +kernel
theorem dX11_newCylinder_71 : decode cX11_newCylinder 71 = .ok (.getfield 7, 3) := by decide +kernel
theorem dX11_newCylinder_74 : decode cX11_newCylinder 74 = .ok (.sipush 400, 3) := by decide +kernel
theorem dX11_newCylinder_77 : decode cX11_newCylinder 77 = .ok (.bipush 18, 2) := by decide +kernel
theorem dX11_newCylinder_79 : decode cX11_newCylinder 79 = .ok (.iload 5, 2) := by decide +kernel
theorem dX11_newCylinder_81 : decode cX11_newCylinder 81 = .ok (.imul, 1) := by decide +kernel
theorem dX11_newCylinder_82 : decode cX11_newCylinder 82 = .ok (.iadd, 1) := by decide +kernel
theorem dX11_newCylinder_83 : decode cX11_newCylinder 83 = .ok (.iload 6, 2) := by decide +kernel
theorem dX11_newCylinder_85 : decode cX11_newCylinder 85 = .ok (.iadd, 1) := by decide +kernel
theorem dX11_newCylinder_86 : decode cX11_newCylinder 86 = .ok (.iconst 0, 1) := by decide +kernel
theorem dX11_newCylinder_87 : decode cX11_newCylinder 87 = .ok (.iastore, 1) := by decide +kernel
theorem dX11_newCylinder_88 : decode cX11_newCylinder 88 = .ok (.iinc 6 1, 3) := by decide +kernel
theorem dX11_newCylinder_91 : decode cX11_newCylinder 91 = .ok (.goto (-28), 3) := by decide +kernel
theorem dX11_newCylinder_94 : decode cX11_newCylinder 94 = .ok (.aload_n 0, 1) := by decide +kernel
theorem dX11_newCylinder_95 : decode cX11_newCylinder 95 = .ok (.getfield 7, 3) := by decide +kernel
theorem dX11_newCylinder_98 : decode cX11_newCylinder 98 = .ok (.sipush 8522, 3) := by decide +kernel
theorem dX11_newCylinder_101 : decode cX11_newCylinder 101 = .ok (.iload 5, 2) := by decide +kernel
theorem dX11_newCylinder_103 : decode cX11_newCylinder 103 = .ok (.iconst 1, 1) := by decide +kernel
theorem dX11_newCylinder_104 : decode cX11_newCylinder 104 = .ok (.iadd, 1) := by decide +kernel
theorem dX11_newCylinder_105 : decode cX11_newCylinder 105 = .ok (.iastore, 1) := by decide +kernel
theorem dX11_newCylinder_106 : decode cX11_newCylinder 106 = .ok (.aload_n 0, 1) := by decide +kernel
theorem dX11_newCylinder_107 : decode cX11_newCylinder 107 = .ok (.iload 5, 2) := by decide +kernel
theorem dX11_newCylinder_109 : decode cX11_newCylinder 109 = .ok (.invokevirtual 74, 3) := by decide +kernel
theorem dX11_newCylinder_112 : decode cX11_newCylinder 112 = .ok (.ireturn, 1) := by decide +kernel
theorem dX11_cylinder_0 : decode cX11_cylinder 0 = .ok (.iload_n 1, 1) := by decide +kernel
theorem dX11_cylinder_1 : decode cX11_cylinder 1 = .ok (.i2l, 1) := by decide +kernel
theorem dX11_cylinder_2 : decode cX11_cylinder 2 = .ok (.lconst 0, 1) := by decide +kernel
theorem dX11_cylinder_3 : decode cX11_cylinder 3 = .ok (.ldc2_w 78, 3) := by decide +kernel
theorem dX11_cylinder_6 : decode cX11_cylinder 6 = .ok (.invokestatic 67, 3) := by decide +kernel
theorem dX11_cylinder_9 : decode cX11_cylinder 9 = .ok (.ifCond .eq 9, 3) := by decide +kernel
theorem dX11_cylinder_12 : decode cX11_cylinder 12 = .ok (.iload_n 2, 1) := by decide +kernel
theorem dX11_cylinder_13 : decode cX11_cylinder 13 = .ok (.bipush 18, 2) := by decide +kernel
theorem dX11_cylinder_15 : decode cX11_cylinder 15 = .ok (.if_icmp .le 6, 3) := by decide +kernel
theorem dX11_cylinder_18 : decode cX11_cylinder 18 = .ok (.bipush (-2), 2) := by decide +kernel
theorem dX11_cylinder_20 : decode cX11_cylinder 20 = .ok (.ireturn, 1) := by decide +kernel
theorem dX11_cylinder_21 : decode cX11_cylinder 21 = .ok (.aload_n 0, 1) := by decide +kernel
theorem dX11_cylinder_22 : decode cX11_cylinder 22 = .ok (.getfield 7, 3) := by decide +kernel
theorem dX11_cylinder_25 : decode cX11_cylinder 25 = .ok (.sipush 8522, 3) := by decide +kernel
theorem dX11_cylinder_28 : decode cX11_cylinder 28 = .ok (.iaload, 1) := by decide +kernel
theorem dX11_cylinder_29 : decode cX11_cylinder 29 = .ok (.bipush 100, 2) := by decide +kernel
theorem dX11_cylinder_31 : decode cX11_cylinder 31 = .ok (.if_icmp .ne 6, 3) := by decide +kernel
theorem dX11_cylinder_34 : decode cX11_cylinder 34 = .ok (.bipush (-4), 2) := by decide +kernel
theorem dX11_cylinder_36 : decode cX11_cylinder 36 = .ok (.ireturn, 1) := by decide +kernel
theorem dX11_cylinder_37 : decode cX11_cylinder 37 = .ok (.iload_n 2, 1) := by decide +kernel
theorem dX11_cylinder_38 : decode cX11_cylinder 38 = .ok (.ifCond .ge 11, 3) := by decide +kernel
theorem dX11_cylinder_41 : decode cX11_cylinder 41 = .ok (.aload_n 0, 1) := by decide +kernel
theorem dX11_cylinder_42 : decode cX11_cylinder 42 = .ok (.iconst 5, 1) := by decide +kernel
theorem dX11_cylinder_43 : decode cX11_cylinder 43 = .ok (.invokevirtual 80, 3) := by decide +kernel
theorem dX11_cylinder_46 : decode cX11_cylinder 46 = .ok (.goto 11, 3) := by decide +kernel
theorem dX11_cylinder_49 : decode cX11_cylinder 49 = .ok (.aload_n 0, 1) := by decide +kernel
theorem dX11_cylinder_50 : decode cX11_cylinder 50 = .ok (.iload_n 1, 1) := by decide +kernel
theorem dX11_cylinder_51 : decode cX11_cylinder 51 = .ok (.iload_n 2, 1) := by decide +kernel
theorem dX11_cylinder_52 : decode cX11_cylinder 52 = .ok (.iconst (-1), 1) := by decide +kernel
theorem dX11_cylinder_53 : decode cX11_cylinder 53 = .ok (.iconst (-1), 1) := by decide +kernel
theorem dX11_cylinder_54 : decode cX11_cylinder 54 = .ok (.invokevirtual 83, 3) := by decide +kernel
theorem dX11_cylinder_57 : decode cX11_cylinder 57 = .ok (.ireturn, 1) := by decide +kernel
theorem dX11_twin_0 : decode cX11_twin 0 = .ok (.iload_n 1, 1) := by decide +kernel
theorem dX11_twin_1 : decode cX11_twin 1 = .ok (.iconst (-1), 1) := by decide +kernel
theorem dX11_twin_2 : decode cX11_twin 2 = .ok (.if_icmp .eq 11, 3) := by decide +kernel
theorem dX11_twin_5 : decode cX11_twin 5 = .ok (.aload_n 0, 1) := by decide +kernel
theorem dX11_twin_6 : decode cX11_twin 6 = .ok (.iload_n 1, 1) := by decide +kernel
theorem dX11_twin_7 : decode cX11_twin 7 = .ok (.invokevirtual 87, 3) := by decide +kernel
theorem dX11_twin_10 : decode cX11_twin 10 = .ok (.ifCond .eq 16, 3) := by decide +kernel
theorem dX11_twin_13 : decode cX11_twin 13 = .ok (.iload_n 2, 1) := by decide +kernel
theorem dX11_twin_14 : decode cX11_twin 14 = .ok (.iconst (-1), 1) := by decide +kernel
theorem dX11_twin_15 : decode cX11_twin 15 = .ok (.if_icmp .eq 14, 3) := by decide +kernel
theorem dX11_twin_18 : decode cX11_twin 18 = .ok (.aload_n 0, 1) := by decide +kernel
theorem dX11_twin_19 : decode cX11_twin 19 = .ok (.iload_n 2, 1) := by decide +kernel
theorem dX11_twin_20 : decode cX11_twin 20 = .ok (.invokevirtual 87, 3) := by decide +kernel
theorem dX11_twin_23 : decode cX11_twin 23 = .ok (.ifCond .ne 6, 3) := by decide +kernel
theorem dX11_twin_26 : decode cX11_twin 26 = .ok (.bipush (-2), 2) := by decide +kernel
theorem dX11_twin_28 : decode cX11_twin 28 = .ok (.ireturn, 1) := by decide +kernel
theorem dX11_twin_29 : decode cX11_twin 29 = .ok (.aload_n 0, 1) := by decide +kernel
theorem dX11_twin_30 : decode cX11_twin 30 = .ok (.getfield 7, 3) := by decide +kernel
theorem dX11_twin_33 : decode cX11_twin 33 = .ok (.sipush 8522, 3) := by decide +kernel
theorem dX11_twin_36 : decode cX11_twin 36 = .ok (.iaload, 1) := by decide +kernel
theorem dX11_twin_37 : decode cX11_twin 37 = .ok (.bipush 100, 2) := by decide +kernel
theorem dX11_twin_39 : decode cX11_twin 39 = .ok (.if_icmp .ne 6, 3) := by decide +kernel
theorem dX11_twin_42 : decode cX11_twin 42 = .ok (.bipush (-4), 2) := by decide +kernel
theorem dX11_twin_44 : decode cX11_twin 44 = .ok (.ireturn, 1) := by decide +kernel
theorem dX11_twin_45 : decode cX11_twin 45 = .ok (.iload_n 1, 1) := by decide +kernel
theorem dX11_twin_46 : decode cX11_twin 46 = .ok (.iconst (-1), 1) := by decide +kernel
theorem dX11_twin_47 : decode cX11_twin 47 = .ok (.if_icmp .eq 15, 3) := by decide +kernel
theorem dX11_twin_50 : decode cX11_twin 50 = .ok (.aload_n 0, 1) := by decide +kernel
theorem dX11_twin_51 : decode cX11_twin 51 = .ok (.getfield 7, 3) := by decide +kernel
theorem dX11_twin_54 : decode cX11_twin 54 = .ok (.iconst 0, 1) := by decide +kernel
theorem dX11_twin_55 : decode cX11_twin 55 = .ok (.iload_n 1, 1) := by decide +kernel
theorem dX11_twin_56 : decode cX11_twin 56 = .ok (.iadd, 1) := by decide +kernel
theorem dX11_twin_57 : decode cX11_twin 57 = .ok (.iaload, 1) := by decide +kernel
theorem dX11_twin_58 : decode cX11_twin 58 = .ok (.iconst 4, 1) := by decide +kernel
theorem dX11_twin_59 : decode cX11_twin 59 = .ok (.if_icmp .eq 20, 3) := by decide +kernel
theorem dX11_twin_62 : decode cX11_twin 62 = .ok (.iload_n 2, 1) := by decide +kernel
theorem dX11_twin_63 : decode cX11_twin 63 = .ok (.iconst (-1), 1) := by decide +kernel
theorem dX11_twin_64 : decode cX11_twin 64 = .ok (.if_icmp .eq 21, 3) := by decide +kernel
theorem dX11_twin_67 : decode cX11_twin 67 = .ok (.aload_n 0, 1) := by decide +kernel
theorem dX11_twin_68 : decode cX11_twin 68 = .ok (.getfield 7, 3) := by decide +kernel
theorem dX11_twin_71 : decode cX11_twin 71 = .ok (.iconst 0, 1) := by decide +kernel
theorem dX11_twin_72 : decode cX11_twin 72 = .ok (.iload_n 2, 1) := by decide +kernel
theorem dX11_twin_73 : decode cX11_twin 73 = .ok (.iadd, 1) := by decide +kernel
theorem dX11_twin_74 : decode cX11_twin 74 = .ok (.iaload, 1) := by decide +kernel
theorem dX11_twin_75 : decode cX11_twin 75 = .ok (.iconst 4, 1) := by decide +kernel
theorem dX11_twin_76 : decode cX11_twin 76 = .ok (.if_icmp .ne 9, 3) := by decide +kernel
theorem dX11_twin_79 : decode cX11_twin 79 = .ok (.aload_n 0, 1) := by decide +kernel
theorem dX11_twin_80 : decode cX11_twin 80 = .ok (.iconst 3, 1) := by decide +kernel
theorem dX11_twin_81 : decode cX11_twin 81 = .ok (.invokevirtual 80, 3) := by decide +kernel
theorem dX11_twin_84 : decode cX11_twin 84 = .ok (.ireturn, 1) := by decide +kernel
theorem dX11_twin_85 : decode cX11_twin 85 = .ok (.aload_n 0, 1) := by decide +kernel
theorem dX11_twin_86 : decode cX11_twin 86 = .ok (.iconst 4, 1) := by decide +kernel
theorem dX11_twin_87 : decode cX11_twin 87 = .ok (.iconst 0, 1) := by decide +kernel
theorem dX11_twin_88 : decode cX11_twin 88 = .ok (.iload_n 1, 1) := by decide +kernel
theorem dX11_twin_89 : decode cX11_twin 89 = .ok (.iload_n 2, 1) := by decide +kernel
theorem dX11_twin_90 : decode cX11_twin 90 = .ok (.invokevirtual 83, 3) := by decide +kernel
theorem dX11_twin_93 : decode cX11_twin 93 = .ok (.ireturn, 1) := by decide +kernel
theorem dX11_wrong_0 : decode cX11_wrong 0 = .ok (.aload_n 0, 1) := by decide +kernel
theorem dX11_wrong_1 : decode cX11_wrong 1 = .ok (.getfield 7, 3) := by decide +kernel
theorem dX11_wrong_4 : decode cX11_wrong 4 = .ok (.iconst 0, 1) := by decide +kernel
theorem dX11_wrong_5 : decode cX11_wrong 5 = .ok (.iload_n 1, 1) := by decide +kernel
theorem dX11_wrong_6 : decode cX11_wrong 6 = .ok (.iadd, 1) := by decide +kernel
theorem dX11_wrong_7 : decode cX11_wrong 7 = .ok (.iaload, 1) := by decide +kernel
theorem dX11_wrong_8 : decode cX11_wrong 8 = .ok (.iconst 4, 1) := by decide +kernel
theorem dX11_wrong_9 : decode cX11_wrong 9 = .ok (.if_icmp .ne 7, 3) := by decide +kernel
theorem dX11_wrong_12 : decode cX11_wrong 12 = .ok (.iconst 3, 1) := by decide +kernel
theorem dX11_wrong_13 : decode cX11_wrong 13 = .ok (.goto 45, 3) := by decide +kernel
theorem dX11_wrong_16 : decode cX11_wrong 16 = .ok (.aload_n 0, 1) := by decide +kernel
theorem dX11_wrong_17 : decode cX11_wrong 17 = .ok (.getfield 7, 3) := by decide +kernel
theorem dX11_wrong_20 : decode cX11_wrong 20 = .ok (.bipush 100, 2) := by decide +kernel
theorem dX11_wrong_22 : decode cX11_wrong 22 = .ok (.iload_n 1, 1) := by decide +kernel
theorem dX11_wrong_23 : decode cX11_wrong 23 = .ok (.iadd, 1) := by decide +kernel
theorem dX11_wrong_24 : decode cX11_wrong 24 = .ok (.iaload, 1) := by decide +kernel
theorem dX11_wrong_25 : decode cX11_wrong 25 = .ok (.ifCond .ge 7, 3) := by decide +kernel
theorem dX11_wrong_28 : decode cX11_wrong 28 = .ok (.iconst 1, 1) := by decide +kernel
theorem dX11_wrong_29 : decode cX11_wrong 29 = .ok (.goto 29, 3) := by decide +kernel
theorem dX11_wrong_32 : decode cX11_wrong 32 = .ok (.iload_n 2, 1) := by decide +kernel
theorem dX11_wrong_33 : decode cX11_wrong 33 = .ok (.i2l, 1) := by decide +kernel
theorem dX11_wrong_34 : decode cX11_wrong 34 = .ok (.lconst 0, 1) := by decide +kernel
theorem dX11_wrong_35 : decode cX11_wrong 35 = .ok (.aload_n 0, 1) := by decide +kernel
theorem dX11_wrong_36 : decode cX11_wrong 36 = .ok (.getfield 7, 3) := by decide +kernel
theorem dX11_wrong_39 : decode cX11_wrong 39 = .ok (.bipush 100, 2) := by decide +kernel
theorem dX11_wrong_41 : decode cX11_wrong 41 = .ok (.iload_n 1, 1) := by decide +kernel
theorem dX11_wrong_42 : decode cX11_wrong 42 = .ok (.iadd, 1) := by decide +kernel
theorem dX11_wrong_43 : decode cX11_wrong 43 = .ok (.iaload, 1) := by decide +kernel
theorem dX11_wrong_44 : decode cX11_wrong 44 = .ok (.iconst 1, 1) := by decide +kernel
theorem dX11_wrong_45 : decode cX11_wrong 45 = .ok (.isub, 1) := by decide +kernel
theorem dX11_wrong_46 : decode cX11_wrong 46 = .ok (.i2l, 1) := by decide +kernel
theorem dX11_wrong_47 : decode cX11_wrong 47 = .ok (.invokestatic 67, 3) := by decide +kernel
theorem dX11_wrong_50 : decode cX11_wrong 50 = .ok (.ifCond .eq 7, 3) := by decide +kernel
theorem dX11_wrong_53 : decode cX11_wrong 53 = .ok (.iconst 0, 1) := by decide +kernel
theorem dX11_wrong_54 : decode cX11_wrong 54 = .ok (.goto 4, 3) := by decide +kernel
theorem dX11_wrong_57 : decode cX11_wrong 57 = .ok (.iconst 2, 1) := by decide +kernel
theorem dX11_wrong_58 : decode cX11_wrong 58 = .ok (.ireturn, 1) := by decide +kernel
theorem dX11_height_0 : decode cX11_height 0 = .ok (.aload_n 0, 1) := by decide +kernel
theorem dX11_height_1 : decode cX11_height 1 = .ok (.iload_n 1, 1) := by decide +kernel
theorem dX11_height_2 : decode cX11_height 2 = .ok (.invokevirtual 87, 3) := by decide +kernel
theorem dX11_height_5 : decode cX11_height 5 = .ok (.ifCond .eq 15, 3) := by decide +kernel
theorem dX11_height_8 : decode cX11_height 8 = .ok (.iload_n 3, 1) := by decide +kernel
theorem dX11_height_9 : decode cX11_height 9 = .ok (.i2l, 1) := by decide +kernel
theorem dX11_height_10 : decode cX11_height 10 = .ok (.lconst 0, 1) := by decide +kernel
theorem dX11_height_11 : decode cX11_height 11 = .ok (.ldc2_w 91, 3) := by decide +kernel
theorem dX11_height_14 : decode cX11_height 14 = .ok (.invokestatic 67, 3) := by decide +kernel
theorem dX11_height_17 : decode cX11_height 17 = .ok (.ifCond .ne 6, 3) := by decide +kernel
theorem dX11_height_20 : decode cX11_height 20 = .ok (.bipush (-2), 2) := by decide +kernel
theorem dX11_height_22 : decode cX11_height 22 = .ok (.ireturn, 1) := by decide +kernel
theorem dX11_height_23 : decode cX11_height 23 = .ok (.aload_n 0, 1) := by decide +kernel
theorem dX11_height_24 : decode cX11_height 24 = .ok (.iload_n 1, 1) := by decide +kernel
theorem dX11_height_25 : decode cX11_height 25 = .ok (.iload_n 2, 1) := by decide +kernel
theorem dX11_height_26 : decode cX11_height 26 = .ok (.invokevirtual 93, 3) := by decide +kernel
theorem dX11_height_29 : decode cX11_height 29 = .ok (.istore 5, 2) := by decide +kernel
theorem dX11_height_31 : decode cX11_height 31 = .ok (.iload 5, 2) := by decide +kernel
theorem dX11_height_33 : decode cX11_height 33 = .ok (.ifCond .le 10, 3) := by decide +kernel
theorem dX11_height_36 : decode cX11_height 36 = .ok (.aload_n 0, 1) := by decide +kernel
theorem dX11_height_37 : decode cX11_height 37 = .ok (.iload 5, 2) := by decide +kernel
theorem dX11_height_39 : decode cX11_height 39 = .ok (.invokevirtual 80, 3) := by decide +kernel
theorem dX11_height_42 : decode cX11_height 42 = .ok (.ireturn, 1) := by decide +kernel
theorem dX11_height_43 : decode cX11_height 43 = .ok (.sipush 400, 3) := by decide +kernel
theorem dX11_height_46 : decode cX11_height 46 = .ok (.bipush 18, 2) := by decide +kernel
theorem dX11_height_48 : decode cX11_height 48 = .ok (.iload_n 1, 1) := by decide +kernel
theorem dX11_height_49 : decode cX11_height 49 = .ok (.imul, 1) := by decide +kernel
theorem dX11_height_50 : decode cX11_height 50 = .ok (.iadd, 1) := by decide +kernel
theorem dX11_height_51 : decode cX11_height 51 = .ok (.iload_n 2, 1) := by decide +kernel
theorem dX11_height_52 : decode cX11_height 52 = .ok (.iadd, 1) := by decide +kernel
theorem dX11_height_53 : decode cX11_height 53 = .ok (.istore 6, 2) := by decide +kernel
theorem dX11_height_55 : decode cX11_height 55 = .ok (.iload 4, 2) := by decide +kernel
theorem dX11_height_57 : decode cX11_height 57 = .ok (.ifCond .eq 17, 3) := by decide +kernel
theorem dX11_height_60 : decode cX11_height 60 = .ok (.aload_n 0, 1) := by decide +kernel
theorem dX11_height_61 : decode cX11_height 61 = .ok (.getfield 7, 3) := by decide +kernel
theorem dX11_height_64 : decode cX11_height 64 = .ok (.iload 6, 2) := by decide +kernel
theorem dX11_height_66 : decode cX11_height 66 = .ok (.iaload, 1) := by decide +kernel
theorem dX11_height_67 : decode cX11_height 67 = .ok (.iconst 1, 1) := by decide +kernel
theorem dX11_height_68 : decode cX11_height 68 = .ok (.iload_n 3, 1) := by decide +kernel
theorem dX11_height_69 : decode cX11_height 69 = .ok (.ishl, 1) := by decide +kernel
theorem dX11_height_70 : decode cX11_height 70 = .ok (.ior, 1) := by decide +kernel
theorem dX11_height_71 : decode cX11_height 71 = .ok (.goto 16, 3) := by decide +kernel
theorem dX11_height_74 : decode cX11_height 74 = .ok (.aload_n 0, 1) := by decide +kernel
theorem dX11_height_75 : decode cX11_height 75 = .ok (.getfield 7, 3) := by decide +kernel
theorem dX11_height_78 : decode cX11_height 78 = .ok (.iload 6, 2) := by decide +kernel
theorem dX11_height_80 : decode cX11_height 80 = .ok (.iaload, 1) := by decide +kernel
theorem dX11_height_81 : decode cX11_height 81 = .ok (.iconst 1, 1) := by decide +kernel
theorem dX11_height_82 : decode cX11_height 82 = .ok (.iload_n 3, 1) := by decide +kernel
theorem dX11_height_83 : decode cX11_height 83 = .ok (.ishl, 1) := by decide +kernel
theorem dX11_height_84 : decode cX11_height 84 = .ok (.iconst (-1), 1) := by decide +kernel
theorem dX11_height_85 : decode cX11_height 85 = .ok (.ixor, 1) := by decide +kernel
theorem dX11_height_86 : decode cX11_height 86 = .ok (.iand, 1) := by decide +kernel
theorem dX11_height_87 : decode cX11_height 87 = .ok (.istore 7, 2) := by decide +kernel
theorem dX11_height_89 : decode cX11_height 89 = .ok (.iload 7, 2) := by decide +kernel
theorem dX11_height_91 : decode cX11_height 91 = .ok (.invokestatic 97, 3) := by decide +kernel
theorem dX11_height_94 : decode cX11_height 94 = .ok (.aload_n 0, 1) := by decide +kernel
theorem dX11_height_95 : decode cX11_height 95 = .ok (.getfield 7, 3) := by decide +kernel
theorem dX11_height_98 : decode cX11_height 98 = .ok (.iconst 0, 1) := by decide +kernel
theorem dX11_height_99 : decode cX11_height 99 = .ok (.iload_n 1, 1) := by decide +kernel
theorem dX11_height_100 : decode cX11_height 100 = .ok (.iadd, 1) := by decide +kernel
theorem dX11_height_101 : decode cX11_height 101 = .ok (.iaload, 1) := by decide +kernel
theorem dX11_height_102 : decode cX11_height 102 = .ok (.invokestatic 100, 3) := by decide +kernel
theorem dX11_height_105 : decode cX11_height 105 = .ok (.if_icmp .le 6, 3) := by decide +kernel
theorem dX11_height_108 : decode cX11_height 108 = .ok (.bipush (-4), 2) := by decide +kernel
theorem dX11_height_110 : decode cX11_height 110 = .ok (.ireturn, 1) := by decide +kernel
theorem dX11_height_111 : decode cX11_height 111 = .ok (.aload_n 0, 1) := by decide +kernel
theorem dX11_height_112 : decode cX11_height 112 = .ok (.invokevirtual 71, 3) := by decide +kernel
theorem dX11_height_115 : decode cX11_height 115 = .ok (.aload_n 0, 1) := by decide +kernel
theorem dX11_height_116 : decode cX11_height 116 = .ok (.getfield 7, 3) := by decide +kernel
theorem dX11_height_119 : decode cX11_height 119 = .ok (.iload 6, 2) := by decide +kernel
theorem dX11_height_121 : decode cX11_height 121 = .ok (.iload 7, 2) := by decide +kernel
theorem dX11_height_123 : decode cX11_height 123 = .ok (.iastore, 1) := by decide +kernel
theorem dX11_height_124 : decode cX11_height 124 = .ok (.aload_n 0, 1) := by decide +kernel
theorem dX11_height_125 : decode cX11_height 125 = .ok (.iload 7, 2) := by decide +kernel
theorem dX11_height_127 : decode cX11_height 127 = .ok (.invokestatic 97, 3) := by decide +kernel
theorem dX11_height_130 : decode cX11_height 130 = .ok (.invokevirtual 74, 3) := by decide +kernel
theorem dX11_height_133 : decode cX11_height 133 = .ok (.ireturn, 1) := by decide +kernel
theorem dX11_heightAt_0 : decode cX11_heightAt 0 = .ok (.aload_n 0, 1) := by decide +kernel
theorem dX11_heightAt_1 : decode cX11_heightAt 1 = .ok (.iload_n 1, 1) := by decide +kernel
theorem dX11_heightAt_2 : decode cX11_heightAt 2 = .ok (.invokevirtual 87, 3) := by decide +kernel
theorem dX11_heightAt_5 : decode cX11_heightAt 5 = .ok (.ifCond .ne 6, 3) := by decide +kernel
theorem dX11_heightAt_8 : decode cX11_heightAt 8 = .ok (.bipush (-2), 2) := by decide +kernel
theorem dX11_heightAt_10 : decode cX11_heightAt 10 = .ok (.ireturn, 1) := by decide +kernel
theorem dX11_heightAt_11 : decode cX11_heightAt 11 = .ok (.aload_n 0, 1) := by decide +kernel
theorem dX11_heightAt_12 : decode cX11_heightAt 12 = .ok (.iload_n 1, 1) := by decide +kernel
theorem dX11_heightAt_13 : decode cX11_heightAt 13 = .ok (.iload_n 2, 1) := by decide +kernel
theorem dX11_heightAt_14 : decode cX11_heightAt 14 = .ok (.invokevirtual 93, 3) := by decide +kernel
theorem dX11_heightAt_17 : decode cX11_heightAt 17 = .ok (.istore 4, 2) := by decide +kernel
theorem dX11_heightAt_19 : decode cX11_heightAt 19 = .ok (.iload 4, 2) := by decide +kernel
theorem dX11_heightAt_21 : decode cX11_heightAt 21 = .ok (.ifCond .le 10, 3) := by decide +kernel
theorem dX11_heightAt_24 : decode cX11_heightAt 24 = .ok (.aload_n 0, 1) := by decide +kernel
theorem dX11_heightAt_25 : decode cX11_heightAt 25 = .ok (.iload 4, 2) := by decide +kernel
theorem dX11_heightAt_27 : decode cX11_heightAt 27 = .ok (.invokevirtual 80, 3) := by decide +kernel
theorem dX11_heightAt_30 : decode cX11_heightAt 30 = .ok (.ireturn, 1) := by decide +kernel
theorem dX11_heightAt_31 : decode cX11_heightAt 31 = .ok (.aload_n 0, 1) := by decide +kernel
theorem dX11_heightAt_32 : decode cX11_heightAt 32 = .ok (.getfield 7, 3) := by decide +kernel
theorem dX11_heightAt_35 : decode cX11_heightAt 35 = .ok (.sipush 400, 3) := by decide +kernel
theorem dX11_heightAt_38 : decode cX11_heightAt 38 = .ok (.bipush 18, 2) := by decide +kernel
theorem dX11_heightAt_40 : decode cX11_heightAt 40 = .ok (.iload_n 1, 1) := by decide +kernel
theorem dX11_heightAt_41 : decode cX11_heightAt 41 = .ok (.imul, 1) := by decide +kernel
theorem dX11_heightAt_42 : decode cX11_heightAt 42 = .ok (.iadd, 1) := by decide +kernel
theorem dX11_heightAt_43 : decode cX11_heightAt 43 = .ok (.iload_n 2, 1) := by decide +kernel
theorem dX11_heightAt_44 : decode cX11_heightAt 44 = .ok (.iadd, 1) := by decide +kernel
theorem dX11_heightAt_45 : decode cX11_heightAt 45 = .ok (.iaload, 1) := by decide +kernel
theorem dX11_heightAt_46 : decode cX11_heightAt 46 = .ok (.istore 5, 2) := by decide +kernel
theorem dX11_heightAt_48 : decode cX11_heightAt 48 = .ok (.iload 5, 2) := by decide +kernel
theorem dX11_heightAt_50 : decode cX11_heightAt 50 = .ok (.ifCond .ne 9, 3) := by decide +kernel
theorem dX11_heightAt_53 : decode cX11_heightAt 53 = .ok (.aload_n 0, 1) := by decide +kernel
theorem dX11_heightAt_54 : decode cX11_heightAt 54 = .ok (.iconst 1, 1) := by decide +kernel
theorem dX11_heightAt_55 : decode cX11_heightAt 55 = .ok (.invokevirtual 80, 3) := by decide +kernel
theorem dX11_heightAt_58 : decode cX11_heightAt 58 = .ok (.ireturn, 1) := by decide +kernel
theorem dX11_heightAt_59 : decode cX11_heightAt 59 = .ok (.iload_n 3, 1) := by decide +kernel
theorem dX11_heightAt_60 : decode cX11_heightAt 60 = .ok (.istore 6, 2) := by decide +kernel
theorem dX11_heightAt_62 : decode cX11_heightAt 62 = .ok (.iconst 0, 1) := by decide +kernel
theorem dX11_heightAt_63 : decode cX11_heightAt 63 = .ok (.istore 7, 2) := by decide +kernel
theorem dX11_heightAt_65 : decode cX11_heightAt 65 = .ok (.iload 7, 2) := by decide +kernel
theorem dX11_heightAt_67 : decode cX11_heightAt 67 = .ok (.bipush 10, 2) := by decide +kernel
theorem dX11_heightAt_69 : decode cX11_heightAt 69 = .ok (.if_icmp .ge 39, 3) := by decide +kernel
theorem dX11_heightAt_72 : decode cX11_heightAt 72 = .ok (.iload_n 3, 1) := by decide +kernel
theorem dX11_heightAt_73 : decode cX11_heightAt 73 = .ok (.ifCond .lt 35, 3) := by decide +kernel
theorem dX11_heightAt_76 : decode cX11_heightAt 76 = .ok (.iload 5, 2) := by decide +kernel
theorem dX11_heightAt_78 : decode cX11_heightAt 78 = .ok (.iload 7, 2) := by decide +kernel
theorem dX11_heightAt_80 : decode cX11_heightAt 80 = .ok (.ishr, 1) := by decide +kernel
theorem dX11_heightAt_81 : decode cX11_heightAt 81 = .ok (.iconst 1, 1) := by decide +kernel
theorem dX11_heightAt_82 : decode cX11_heightAt 82 = .ok (.iand, 1) := by decide +kernel
theorem dX11_heightAt_83 : decode cX11_heightAt 83 = .ok (.iconst 1, 1) := by decide +kernel
theorem dX11_heightAt_84 : decode cX11_heightAt 84 = .ok (.if_icmp .ne 18, 3) := by decide +kernel
theorem dX11_heightAt_87 : decode cX11_heightAt 87 = .ok (.iload 6, 2) := by decide +kernel
theorem dX11_heightAt_89 : decode cX11_heightAt 89 = .ok (.ifCond .ne 10, 3) := by decide +kernel
theorem dX11_heightAt_92 : decode cX11_heightAt 92 = .ok (.aload_n 0, 1) := by decide +kernel
theorem dX11_heightAt_93 : decode cX11_heightAt 93 = .ok (.iload 7, 2) := by decide +kernel
theorem dX11_heightAt_95 : decode cX11_heightAt 95 = .ok (.invokevirtual 74, 3) := by decide +kernel
theorem dX11_heightAt_98 : decode cX11_heightAt 98 = .ok (.ireturn, 1) := by decide +kernel
theorem dX11_heightAt_99 : decode cX11_heightAt 99 = .ok (.iinc 6 (-1), 3) := by decide +kernel
theorem dX11_heightAt_102 : decode cX11_heightAt 102 = .ok (.iinc 7 1, 3) := by decide +kernel
theorem dX11_heightAt_105 : decode cX11_heightAt 105 = .ok (.goto (-40), 3) := by decide +kernel
theorem dX11_heightAt_108 : decode cX11_heightAt 108 = .ok (.aload_n 0, 1) := by decide +kernel
theorem dX11_heightAt_109 : decode cX11_heightAt 109 = .ok (.iconst 2, 1) := by decide +kernel
theorem dX11_heightAt_110 : decode cX11_heightAt 110 = .ok (.invokevirtual 80, 3) := by decide +kernel
theorem dX11_heightAt_113 : decode cX11_heightAt 113 = .ok (.ireturn, 1) := by decide +kernel
theorem dX11_takeCore_0 : decode cX11_takeCore 0 = .ok (.aload_n 0, 1) := by decide +kernel
theorem dX11_takeCore_1 : decode cX11_takeCore 1 = .ok (.iload_n 1, 1) := by decide +kernel
theorem dX11_takeCore_2 : decode cX11_takeCore 2 = .ok (.invokevirtual 87, 3) := by decide +kernel
theorem dX11_takeCore_5 : decode cX11_takeCore 5 = .ok (.ifCond .ne 6, 3) := by decide +kernel
theorem dX11_takeCore_8 : decode cX11_takeCore 8 = .ok (.bipush (-2), 2) := by decide +kernel
theorem dX11_takeCore_10 : decode cX11_takeCore 10 = .ok (.ireturn, 1) := by decide +kernel
theorem dX11_takeCore_11 : decode cX11_takeCore 11 = .ok (.aload_n 0, 1) := by decide +kernel
theorem dX11_takeCore_12 : decode cX11_takeCore 12 = .ok (.getfield 7, 3) := by decide +kernel
theorem dX11_takeCore_15 : decode cX11_takeCore 15 = .ok (.iconst 0, 1) := by decide +kernel
theorem dX11_takeCore_16 : decode cX11_takeCore 16 = .ok (.iload_n 1, 1) := by decide +kernel
theorem dX11_takeCore_17 : decode cX11_takeCore 17 = .ok (.iadd, 1) := by decide +kernel
theorem dX11_takeCore_18 : decode cX11_takeCore 18 = .ok (.iaload, 1) := by decide +kernel
theorem dX11_takeCore_19 : decode cX11_takeCore 19 = .ok (.iconst 2, 1) := by decide +kernel
theorem dX11_takeCore_20 : decode cX11_takeCore 20 = .ok (.if_icmp .eq 9, 3) := by decide +kernel
theorem dX11_takeCore_23 : decode cX11_takeCore 23 = .ok (.aload_n 0, 1) := by decide +kernel
theorem dX11_takeCore_24 : decode cX11_takeCore 24 = .ok (.iconst 3, 1) := by decide +kernel
theorem dX11_takeCore_25 : decode cX11_takeCore 25 = .ok (.invokevirtual 80, 3) := by decide +kernel
theorem dX11_takeCore_28 : decode cX11_takeCore 28 = .ok (.ireturn, 1) := by decide +kernel
theorem dX11_takeCore_29 : decode cX11_takeCore 29 = .ok (.aload_n 0, 1) := by decide +kernel
theorem dX11_takeCore_30 : decode cX11_takeCore 30 = .ok (.getfield 7, 3) := by decide +kernel
theorem dX11_takeCore_33 : decode cX11_takeCore 33 = .ok (.bipush 100, 2) := by decide +kernel
theorem dX11_takeCore_35 : decode cX11_takeCore 35 = .ok (.iload_n 1, 1) := by decide +kernel
theorem dX11_takeCore_36 : decode cX11_takeCore 36 = .ok (.iadd, 1) := by decide +kernel
theorem dX11_takeCore_37 : decode cX11_takeCore 37 = .ok (.iaload, 1) := by decide +kernel
theorem dX11_takeCore_38 : decode cX11_takeCore 38 = .ok (.istore_n 2, 1) := by decide +kernel
theorem dX11_takeCore_39 : decode cX11_takeCore 39 = .ok (.iload_n 2, 1) := by decide +kernel
theorem dX11_takeCore_40 : decode cX11_takeCore 40 = .ok (.ifCond .ge 9, 3) := by decide +kernel
theorem dX11_takeCore_43 : decode cX11_takeCore 43 = .ok (.aload_n 0, 1) := by decide +kernel
theorem dX11_takeCore_44 : decode cX11_takeCore 44 = .ok (.iconst 1, 1) := by decide +kernel
theorem dX11_takeCore_45 : decode cX11_takeCore 45 = .ok (.invokevirtual 80, 3) := by decide +kernel
theorem dX11_takeCore_48 : decode cX11_takeCore 48 = .ok (.ireturn, 1) := by decide +kernel
theorem dX11_takeCore_49 : decode cX11_takeCore 49 = .ok (.aload_n 0, 1) := by decide +kernel
theorem dX11_takeCore_50 : decode cX11_takeCore 50 = .ok (.invokevirtual 71, 3) := by decide +kernel
theorem dX11_takeCore_53 : decode cX11_takeCore 53 = .ok (.iconst 0, 1) := by decide +kernel
theorem dX11_takeCore_54 : decode cX11_takeCore 54 = .ok (.istore_n 3, 1) := by decide +kernel
theorem dX11_takeCore_55 : decode cX11_takeCore 55 = .ok (.iload_n 3, 1) := by decide +kernel
theorem dX11_takeCore_56 : decode cX11_takeCore 56 = .ok (.bipush 18, 2) := by decide +kernel
theorem dX11_takeCore_58 : decode cX11_takeCore 58 = .ok (.if_icmp .ge 50, 3) := by decide +kernel
theorem dX11_takeCore_61 : decode cX11_takeCore 61 = .ok (.aload_n 0, 1) := by decide +kernel
theorem dX11_takeCore_62 : decode cX11_takeCore 62 = .ok (.getfield 7, 3) := by decide +kernel
theorem dX11_takeCore_65 : decode cX11_takeCore 65 = .ok (.sipush 8504, 3) := by decide +kernel
theorem dX11_takeCore_68 : decode cX11_takeCore 68 = .ok (.iload_n 3, 1) := by decide +kernel
theorem dX11_takeCore_69 : decode cX11_takeCore 69 = .ok (.iadd, 1) := by decide +kernel
theorem dX11_takeCore_70 : decode cX11_takeCore 70 = .ok (.aload_n 0, 1) := by decide +kernel
theorem dX11_takeCore_71 : decode cX11_takeCore 71 = .ok (.getfield 7, 3) := by decide +kernel
theorem dX11_takeCore_74 : decode cX11_takeCore 74 = .ok (.sipush 400, 3) := by decide +kernel
theorem dX11_takeCore_77 : decode cX11_takeCore 77 = .ok (.bipush 18, 2) := by decide +kernel
theorem dX11_takeCore_79 : decode cX11_takeCore 79 = .ok (.iload_n 1, 1) := by decide +kernel
theorem dX11_takeCore_80 : decode cX11_takeCore 80 = .ok (.imul, 1) := by decide +kernel
theorem dX11_takeCore_81 : decode cX11_takeCore 81 = .ok (.iadd, 1) := by decide +kernel
theorem dX11_takeCore_82 : decode cX11_takeCore 82 = .ok (.iload_n 3, 1) := by decide +kernel
theorem dX11_takeCore_83 : decode cX11_takeCore 83 = .ok (.iadd, 1) := by decide +kernel
theorem dX11_takeCore_84 : decode cX11_takeCore 84 = .ok (.iaload, 1) := by decide +kernel
theorem dX11_takeCore_85 : decode cX11_takeCore 85 = .ok (.iastore, 1) := by decide +kernel
theorem dX11_takeCore_86 : decode cX11_takeCore 86 = .ok (.aload_n 0, 1) := by decide +kernel
theorem dX11_takeCore_87 : decode cX11_takeCore 87 = .ok (.getfield 7, 3) := by decide +kernel
theorem dX11_takeCore_90 : decode cX11_takeCore 90 = .ok (.sipush 400, 3) := by decide +kernel
theorem dX11_takeCore_93 : decode cX11_takeCore 93 = .ok (.bipush 18, 2) := by decide +kernel
theorem dX11_takeCore_95 : decode cX11_takeCore 95 = .ok (.iload_n 1, 1) := by decide +kernel
theorem dX11_takeCore_96 : decode cX11_takeCore 96 = .ok (.imul, 1) := by decide +kernel
theorem dX11_takeCore_97 : decode cX11_takeCore 97 = .ok (.iadd, 1) := by decide +kernel
theorem dX11_takeCore_98 : decode cX11_takeCore 98 = .ok (.iload_n 3, 1) := by decide +kernel
theorem dX11_takeCore_99 : decode cX11_takeCore 99 = .ok (.iadd, 1) := by decide +kernel
theorem dX11_takeCore_100 : decode cX11_takeCore 100 = .ok (.iconst 0, 1) := by decide +kernel
theorem dX11_takeCore_101 : decode cX11_takeCore 101 = .ok (.iastore, 1) := by decide +kernel
theorem dX11_takeCore_102 : decode cX11_takeCore 102 = .ok (.iinc 3 1, 3) := by decide +kernel
theorem dX11_takeCore_105 : decode cX11_takeCore 105 = .ok (.goto (-50), 3) := by decide +kernel
theorem dX11_takeCore_108 : decode cX11_takeCore 108 = .ok (.aload_n 0, 1) := by decide +kernel
theorem dX11_takeCore_109 : decode cX11_takeCore 109 = .ok (.getfield 7, 3) := by decide +kernel
theorem dX11_takeCore_112 : decode cX11_takeCore 112 = .ok (.sipush 8528, 3) := by decide +kernel
theorem dX11_takeCore_115 : decode cX11_takeCore 115 = .ok (.iload_n 2, 1) := by decide +kernel
theorem dX11_takeCore_116 : decode cX11_takeCore 116 = .ok (.iastore, 1) := by decide +kernel
theorem dX11_takeCore_117 : decode cX11_takeCore 117 = .ok (.aload_n 0, 1) := by decide +kernel
theorem dX11_takeCore_118 : decode cX11_takeCore 118 = .ok (.getfield 7, 3) := by decide +kernel
theorem dX11_takeCore_121 : decode cX11_takeCore 121 = .ok (.bipush 100, 2) := by decide +kernel
theorem dX11_takeCore_123 : decode cX11_takeCore 123 = .ok (.iload_n 1, 1) := by decide +kernel
theorem dX11_takeCore_124 : decode cX11_takeCore 124 = .ok (.iadd, 1) := by decide +kernel
theorem dX11_takeCore_125 : decode cX11_takeCore 125 = .ok (.iconst (-1), 1) := by decide +kernel
theorem dX11_takeCore_126 : decode cX11_takeCore 126 = .ok (.iastore, 1) := by decide +kernel
theorem dX11_takeCore_127 : decode cX11_takeCore 127 = .ok (.aload_n 0, 1) := by decide +kernel
theorem dX11_takeCore_128 : decode cX11_takeCore 128 = .ok (.iload_n 2, 1) := by decide +kernel
theorem dX11_takeCore_129 : decode cX11_takeCore 129 = .ok (.invokevirtual 74, 3) := by decide +kernel
theorem dX11_takeCore_132 : decode cX11_takeCore 132 = .ok (.ireturn, 1) := by decide +kernel
theorem dX11_putCore_0 : decode cX11_putCore 0 = .ok (.aload_n 0, 1) := by decide +kernel
theorem dX11_putCore_1 : decode cX11_putCore 1 = .ok (.iload_n 1, 1) := by decide +kernel
theorem dX11_putCore_2 : decode cX11_putCore 2 = .ok (.invokevirtual 87, 3) := by decide +kernel
theorem dX11_putCore_5 : decode cX11_putCore 5 = .ok (.ifCond .ne 6, 3) := by decide +kernel
theorem dX11_putCore_8 : decode cX11_putCore 8 = .ok (.bipush (-2), 2) := by decide +kernel
theorem dX11_putCore_10 : decode cX11_putCore 10 = .ok (.ireturn, 1) := by decide +kernel
theorem dX11_putCore_11 : decode cX11_putCore 11 = .ok (.aload_n 0, 1) := by decide +kernel
theorem dX11_putCore_12 : decode cX11_putCore 12 = .ok (.getfield 7, 3) := by decide +kernel
theorem dX11_putCore_15 : decode cX11_putCore 15 = .ok (.iconst 0, 1) := by decide +kernel
theorem dX11_putCore_16 : decode cX11_putCore 16 = .ok (.iload_n 1, 1) := by decide +kernel
theorem dX11_putCore_17 : decode cX11_putCore 17 = .ok (.iadd, 1) := by decide +kernel
theorem dX11_putCore_18 : decode cX11_putCore 18 = .ok (.iaload, 1) := by decide +kernel
theorem dX11_putCore_19 : decode cX11_putCore 19 = .ok (.iconst 2, 1) := by decide +kernel
theorem dX11_putCore_20 : decode cX11_putCore 20 = .ok (.if_icmp .eq 9, 3) := by decide +kernel
theorem dX11_putCore_23 : decode cX11_putCore 23 = .ok (.aload_n 0, 1) := by decide +kernel
theorem dX11_putCore_24 : decode cX11_putCore 24 = .ok (.iconst 3, 1) := by decide +kernel
theorem dX11_putCore_25 : decode cX11_putCore 25 = .ok (.invokevirtual 80, 3) := by decide +kernel
theorem dX11_putCore_28 : decode cX11_putCore 28 = .ok (.ireturn, 1) := by decide +kernel
theorem dX11_putCore_29 : decode cX11_putCore 29 = .ok (.aload_n 0, 1) := by decide +kernel
theorem dX11_putCore_30 : decode cX11_putCore 30 = .ok (.getfield 7, 3) := by decide +kernel
theorem dX11_putCore_33 : decode cX11_putCore 33 = .ok (.bipush 100, 2) := by decide +kernel
theorem dX11_putCore_35 : decode cX11_putCore 35 = .ok (.iload_n 1, 1) := by decide +kernel
theorem dX11_putCore_36 : decode cX11_putCore 36 = .ok (.iadd, 1) := by decide +kernel
theorem dX11_putCore_37 : decode cX11_putCore 37 = .ok (.iaload, 1) := by decide +kernel
theorem dX11_putCore_38 : decode cX11_putCore 38 = .ok (.ifCond .lt 6, 3) := by decide +kernel
theorem dX11_putCore_41 : decode cX11_putCore 41 = .ok (.bipush (-3), 2) := by decide +kernel
theorem dX11_putCore_43 : decode cX11_putCore 43 = .ok (.ireturn, 1) := by decide +kernel
theorem dX11_putCore_44 : decode cX11_putCore 44 = .ok (.aload_n 0, 1) := by decide +kernel
theorem dX11_putCore_45 : decode cX11_putCore 45 = .ok (.getfield 7, 3) := by decide +kernel
theorem dX11_putCore_48 : decode cX11_putCore 48 = .ok (.sipush 8528, 3) := by decide +kernel
theorem dX11_putCore_51 : decode cX11_putCore 51 = .ok (.iaload, 1) := by decide +kernel
theorem dX11_putCore_52 : decode cX11_putCore 52 = .ok (.istore_n 2, 1) := by decide +kernel
theorem dX11_putCore_53 : decode cX11_putCore 53 = .ok (.iload_n 2, 1) := by decide +kernel
theorem dX11_putCore_54 : decode cX11_putCore 54 = .ok (.ifCond .ge 9, 3) := by decide +kernel
theorem dX11_putCore_57 : decode cX11_putCore 57 = .ok (.aload_n 0, 1) := by decide +kernel
theorem dX11_putCore_58 : decode cX11_putCore 58 = .ok (.iconst 1, 1) := by decide +kernel
theorem dX11_putCore_59 : decode cX11_putCore 59 = .ok (.invokevirtual 80, 3) := by decide +kernel
theorem dX11_putCore_62 : decode cX11_putCore 62 = .ok (.ireturn, 1) := by decide +kernel
theorem dX11_putCore_63 : decode cX11_putCore 63 = .ok (.aload_n 0, 1) := by decide +kernel
theorem dX11_putCore_64 : decode cX11_putCore 64 = .ok (.invokevirtual 71, 3) := by decide +kernel
theorem dX11_putCore_67 : decode cX11_putCore 67 = .ok (.iconst 0, 1) := by decide +kernel
theorem dX11_putCore_68 : decode cX11_putCore 68 = .ok (.istore_n 3, 1) := by decide +kernel
theorem dX11_putCore_69 : decode cX11_putCore 69 = .ok (.iload_n 3, 1) := by decide +kernel
theorem dX11_putCore_70 : decode cX11_putCore 70 = .ok (.bipush 18, 2) := by decide +kernel
theorem dX11_putCore_72 : decode cX11_putCore 72 = .ok (.if_icmp .ge 34, 3) := by decide +kernel
theorem dX11_putCore_75 : decode cX11_putCore 75 = .ok (.aload_n 0, 1) := by decide +kernel
theorem dX11_putCore_76 : decode cX11_putCore 76 = .ok (.getfield 7, 3) := by decide +kernel
theorem dX11_putCore_79 : decode cX11_putCore 79 = .ok (.sipush 400, 3) := by decide +kernel
theorem dX11_putCore_82 : decode cX11_putCore 82 = .ok (.bipush 18, 2) := by decide +kernel
theorem dX11_putCore_84 : decode cX11_putCore 84 = .ok (.iload_n 1, 1) := by decide +kernel
theorem dX11_putCore_85 : decode cX11_putCore 85 = .ok (.imul, 1) := by decide +kernel
theorem dX11_putCore_86 : decode cX11_putCore 86 = .ok (.iadd, 1) := by decide +kernel
theorem dX11_putCore_87 : decode cX11_putCore 87 = .ok (.iload_n 3, 1) := by decide +kernel
theorem dX11_putCore_88 : decode cX11_putCore 88 = .ok (.iadd, 1) := by decide +kernel
theorem dX11_putCore_89 : decode cX11_putCore 89 = .ok (.aload_n 0, 1) := by decide +kernel
theorem dX11_putCore_90 : decode cX11_putCore 90 = .ok (.getfield 7, 3) := by decide +kernel
theorem dX11_putCore_93 : decode cX11_putCore 93 = .ok (.sipush 8504, 3) := by decide +kernel
theorem dX11_putCore_96 : decode cX11_putCore 96 = .ok (.iload_n 3, 1) := by decide +kernel
theorem dX11_putCore_97 : decode cX11_putCore 97 = .ok (.iadd, 1) := by decide +kernel
theorem dX11_putCore_98 : decode cX11_putCore 98 = .ok (.iaload, 1) := by decide +kernel
theorem dX11_putCore_99 : decode cX11_putCore 99 = .ok (.iastore, 1) := by decide +kernel
theorem dX11_putCore_100 : decode cX11_putCore 100 = .ok (.iinc 3 1, 3) := by decide +kernel
theorem dX11_putCore_103 : decode cX11_putCore 103 = .ok (.goto (-34), 3) := by decide +kernel
theorem dX11_putCore_106 : decode cX11_putCore 106 = .ok (.aload_n 0, 1) := by decide +kernel
theorem dX11_putCore_107 : decode cX11_putCore 107 = .ok (.getfield 7, 3) := by decide +kernel
theorem dX11_putCore_110 : decode cX11_putCore 110 = .ok (.bipush 100, 2) := by decide +kernel
theorem dX11_putCore_112 : decode cX11_putCore 112 = .ok (.iload_n 1, 1) := by decide +kernel
theorem dX11_putCore_113 : decode cX11_putCore 113 = .ok (.iadd, 1) := by decide +kernel
theorem dX11_putCore_114 : decode cX11_putCore 114 = .ok (.iload_n 2, 1) := by decide +kernel
theorem dX11_putCore_115 : decode cX11_putCore 115 = .ok (.iastore, 1) := by decide +kernel
theorem dX11_putCore_116 : decode cX11_putCore 116 = .ok (.aload_n 0, 1) := by decide +kernel
theorem dX11_putCore_117 : decode cX11_putCore 117 = .ok (.getfield 7, 3) := by decide +kernel
theorem dX11_putCore_120 : decode cX11_putCore 120 = .ok (.sipush 8528, 3) := by decide +kernel
theorem dX11_putCore_123 : decode cX11_putCore 123 = .ok (.iconst (-1), 1) := by decide +kernel
theorem dX11_putCore_124 : decode cX11_putCore 124 = .ok (.iastore, 1) := by decide +kernel
theorem dX11_putCore_125 : decode cX11_putCore 125 = .ok (.aload_n 0, 1) := by decide +kernel
theorem dX11_putCore_126 : decode cX11_putCore 126 = .ok (.iload_n 2, 1) := by decide +kernel
theorem dX11_putCore_127 : decode cX11_putCore 127 = .ok (.invokevirtual 74, 3) := by decide +kernel
theorem dX11_putCore_130 : decode cX11_putCore 130 = .ok (.ireturn, 1) := by decide +kernel
theorem dX11_kind_0 : decode cX11_kind 0 = .ok (.aload_n 0, 1) := by decide +kernel
theorem dX11_kind_1 : decode cX11_kind 1 = .ok (.iload_n 1, 1) := by decide +kernel
theorem dX11_kind_2 : decode cX11_kind 2 = .ok (.invokevirtual 87, 3) := by decide +kernel
theorem dX11_kind_5 : decode cX11_kind 5 = .ok (.ifCond .eq 14, 3) := by decide +kernel
theorem dX11_kind_8 : decode cX11_kind 8 = .ok (.aload_n 0, 1) := by decide +kernel
theorem dX11_kind_9 : decode cX11_kind 9 = .ok (.getfield 7, 3) := by decide +kernel
theorem dX11_kind_12 : decode cX11_kind 12 = .ok (.iconst 0, 1) := by decide +kernel
theorem dX11_kind_13 : decode cX11_kind 13 = .ok (.iload_n 1, 1) := by decide +kernel
theorem dX11_kind_14 : decode cX11_kind 14 = .ok (.iadd, 1) := by decide +kernel
theorem dX11_kind_15 : decode cX11_kind 15 = .ok (.iaload, 1) := by decide +kernel
theorem dX11_kind_16 : decode cX11_kind 16 = .ok (.goto 5, 3) := by decide +kernel
theorem dX11_kind_19 : decode cX11_kind 19 = .ok (.bipush (-2), 2) := by decide +kernel
theorem dX11_kind_21 : decode cX11_kind 21 = .ok (.ireturn, 1) := by decide +kernel
theorem dX11_chambers_0 : decode cX11_chambers 0 = .ok (.aload_n 0, 1) := by decide +kernel
theorem dX11_chambers_1 : decode cX11_chambers 1 = .ok (.iload_n 1, 1) := by decide +kernel
theorem dX11_chambers_2 : decode cX11_chambers 2 = .ok (.invokevirtual 87, 3) := by decide +kernel
theorem dX11_chambers_5 : decode cX11_chambers 5 = .ok (.ifCond .ne 6, 3) := by decide +kernel
theorem dX11_chambers_8 : decode cX11_chambers 8 = .ok (.bipush (-2), 2) := by decide +kernel
theorem dX11_chambers_10 : decode cX11_chambers 10 = .ok (.ireturn, 1) := by decide +kernel
theorem dX11_chambers_11 : decode cX11_chambers 11 = .ok (.aload_n 0, 1) := by decide +kernel
theorem dX11_chambers_12 : decode cX11_chambers 12 = .ok (.getfield 7, 3) := by decide +kernel
theorem dX11_chambers_15 : decode cX11_chambers 15 = .ok (.bipush 100, 2) := by decide +kernel
theorem dX11_chambers_17 : decode cX11_chambers 17 = .ok (.iload_n 1, 1) := by decide +kernel
theorem dX11_chambers_18 : decode cX11_chambers 18 = .ok (.iadd, 1) := by decide +kernel
theorem dX11_chambers_19 : decode cX11_chambers 19 = .ok (.iaload, 1) := by decide +kernel
theorem dX11_chambers_20 : decode cX11_chambers 20 = .ok (.istore_n 2, 1) := by decide +kernel
theorem dX11_chambers_21 : decode cX11_chambers 21 = .ok (.aload_n 0, 1) := by decide +kernel
theorem dX11_chambers_22 : decode cX11_chambers 22 = .ok (.getfield 7, 3) := by decide +kernel
theorem dX11_chambers_25 : decode cX11_chambers 25 = .ok (.iconst 0, 1) := by decide +kernel
theorem dX11_chambers_26 : decode cX11_chambers 26 = .ok (.iload_n 1, 1) := by decide +kernel
theorem dX11_chambers_27 : decode cX11_chambers 27 = .ok (.iadd, 1) := by decide +kernel
theorem dX11_chambers_28 : decode cX11_chambers 28 = .ok (.iaload, 1) := by decide +kernel
theorem dX11_chambers_29 : decode cX11_chambers 29 = .ok (.iconst 4, 1) := by decide +kernel
theorem dX11_chambers_30 : decode cX11_chambers 30 = .ok (.if_icmp .ne 11, 3) := by decide +kernel
theorem dX11_chambers_33 : decode cX11_chambers 33 = .ok (.aload_n 0, 1) := by decide +kernel
theorem dX11_chambers_34 : decode cX11_chambers 34 = .ok (.iconst 3, 1) := by decide +kernel
theorem dX11_chambers_35 : decode cX11_chambers 35 = .ok (.invokevirtual 80, 3) := by decide +kernel
theorem dX11_chambers_38 : decode cX11_chambers 38 = .ok (.goto 20, 3) := by decide +kernel
theorem dX11_chambers_41 : decode cX11_chambers 41 = .ok (.iload_n 2, 1) := by decide +kernel
theorem dX11_chambers_42 : decode cX11_chambers 42 = .ok (.ifCond .ge 11, 3) := by decide +kernel
theorem dX11_chambers_45 : decode cX11_chambers 45 = .ok (.aload_n 0, 1) := by decide +kernel
theorem dX11_chambers_46 : decode cX11_chambers 46 = .ok (.iconst 1, 1) := by decide +kernel
theorem dX11_chambers_47 : decode cX11_chambers 47 = .ok (.invokevirtual 80, 3) := by decide +kernel
theorem dX11_chambers_50 : decode cX11_chambers 50 = .ok (.goto 8, 3) := by decide +kernel
theorem dX11_chambers_53 : decode cX11_chambers 53 = .ok (.aload_n 0, 1) := by decide +kernel
theorem dX11_chambers_54 : decode cX11_chambers 54 = .ok (.iload_n 2, 1) := by decide +kernel
theorem dX11_chambers_55 : decode cX11_chambers 55 = .ok (.invokevirtual 74, 3) := by decide +kernel
theorem dX11_chambers_58 : decode cX11_chambers 58 = .ok (.ireturn, 1) := by decide +kernel
theorem dX11_note_0 : decode cX11_note 0 = .ok (.iload_n 2, 1) := by decide +kernel
theorem dX11_note_1 : decode cX11_note 1 = .ok (.ifCond .eq 32, 3) := by decide +kernel
theorem dX11_note_4 : decode cX11_note 4 = .ok (.aload_n 0, 1) := by decide +kernel
theorem dX11_note_5 : decode cX11_note 5 = .ok (.getfield 103, 3) := by decide +kernel
theorem dX11_note_8 : decode cX11_note 8 = .ok (.bipush 40, 2) := by decide +kernel
theorem dX11_note_10 : decode cX11_note 10 = .ok (.if_icmp .ge 13, 3) := by decide +kernel
theorem dX11_note_13 : decode cX11_note 13 = .ok (.aload_n 0, 1) := by decide +kernel
theorem dX11_note_14 : decode cX11_note 14 = .ok (.getfield 23, 3) := by decide +kernel
theorem dX11_note_17 : decode cX11_note 17 = .ok (.aload_n 0, 1) := by decide +kernel
theorem dX11_note_18 : decode cX11_note 18 = .ok (.getfield 103, 3) := by decide +kernel
theorem dX11_note_21 : decode cX11_note 21 = .ok (.iload_n 1, 1) := by decide +kernel
theorem dX11_note_22 : decode cX11_note 22 = .ok (.iastore, 1) := by decide +kernel
theorem dX11_note_23 : decode cX11_note 23 = .ok (.aload_n 0, 1) := by decide +kernel
theorem dX11_note_24 : decode cX11_note 24 = .ok (.dup, 1) := by decide +kernel
theorem dX11_note_25 : decode cX11_note 25 = .ok (.getfield 103, 3) := by decide +kernel
theorem dX11_note_28 : decode cX11_note 28 = .ok (.iconst 1, 1) := by decide +kernel
theorem dX11_note_29 : decode cX11_note 29 = .ok (.iadd, 1) := by decide +kernel
theorem dX11_note_30 : decode cX11_note 30 = .ok (.putfield 103, 3) := by decide +kernel
theorem dX11_note_33 : decode cX11_note 33 = .ok (.return_, 1) := by decide +kernel
theorem dX11_weigh_0 : decode cX11_weigh 0 = .ok (.iload_n 1, 1) := by decide +kernel
theorem dX11_weigh_1 : decode cX11_weigh 1 = .ok (.iconst (-1), 1) := by decide +kernel
theorem dX11_weigh_2 : decode cX11_weigh 2 = .ok (.if_icmp .ne 5, 3) := by decide +kernel
theorem dX11_weigh_5 : decode cX11_weigh 5 = .ok (.iconst 0, 1) := by decide +kernel
theorem dX11_weigh_6 : decode cX11_weigh 6 = .ok (.ireturn, 1) := by decide +kernel
theorem dX11_weigh_7 : decode cX11_weigh 7 = .ok (.aload_n 0, 1) := by decide +kernel
theorem dX11_weigh_8 : decode cX11_weigh 8 = .ok (.getfield 7, 3) := by decide +kernel
theorem dX11_weigh_11 : decode cX11_weigh 11 = .ok (.iconst 0, 1) := by decide +kernel
theorem dX11_weigh_12 : decode cX11_weigh 12 = .ok (.iload_n 1, 1) := by decide +kernel
theorem dX11_weigh_13 : decode cX11_weigh 13 = .ok (.iadd, 1) := by decide +kernel
theorem dX11_weigh_14 : decode cX11_weigh 14 = .ok (.iaload, 1) := by decide +kernel
theorem dX11_weigh_15 : decode cX11_weigh 15 = .ok (.istore_n 2, 1) := by decide +kernel
theorem dX11_weigh_16 : decode cX11_weigh 16 = .ok (.iload_n 2, 1) := by decide +kernel
theorem dX11_weigh_17 : decode cX11_weigh 17 = .ok (.iconst 4, 1) := by decide +kernel
theorem dX11_weigh_18 : decode cX11_weigh 18 = .ok (.if_icmp .ne 67, 3) := by decide +kernel
theorem dX11_weigh_21 : decode cX11_weigh 21 = .ok (.aload_n 0, 1) := by decide +kernel
theorem dX11_weigh_22 : decode cX11_weigh 22 = .ok (.bipush 7, 2) := by decide +kernel
theorem dX11_weigh_24 : decode cX11_weigh 24 = .ok (.iconst 1, 1) := by decide +kernel
theorem dX11_weigh_25 : decode cX11_weigh 25 = .ok (.invokevirtual 106, 3) := by decide +kernel
theorem dX11_weigh_28 : decode cX11_weigh 28 = .ok (.aload_n 0, 1) := by decide +kernel
theorem dX11_weigh_29 : decode cX11_weigh 29 = .ok (.aload_n 0, 1) := by decide +kernel
theorem dX11_weigh_30 : decode cX11_weigh 30 = .ok (.getfield 7, 3) := by decide +kernel
theorem dX11_weigh_33 : decode cX11_weigh 33 = .ok (.sipush 200, 3) := by decide +kernel
theorem dX11_weigh_36 : decode cX11_weigh 36 = .ok (.iload_n 1, 1) := by decide +kernel
theorem dX11_weigh_37 : decode cX11_weigh 37 = .ok (.iadd, 1) := by decide +kernel
theorem dX11_weigh_38 : decode cX11_weigh 38 = .ok (.iaload, 1) := by decide +kernel
theorem dX11_weigh_39 : decode cX11_weigh 39 = .ok (.invokevirtual 110, 3) := by decide +kernel
theorem dX11_weigh_42 : decode cX11_weigh 42 = .ok (.istore_n 3, 1) := by decide +kernel
theorem dX11_weigh_43 : decode cX11_weigh 43 = .ok (.iload_n 3, 1) := by decide +kernel
theorem dX11_weigh_44 : decode cX11_weigh 44 = .ok (.ifCond .ge 7, 3) := by decide +kernel
theorem dX11_weigh_47 : decode cX11_weigh 47 = .ok (.iconst (-1), 1) := by decide +kernel
theorem dX11_weigh_48 : decode cX11_weigh 48 = .ok (.goto 17, 3) := by decide +kernel
theorem dX11_weigh_51 : decode cX11_weigh 51 = .ok (.aload_n 0, 1) := by decide +kernel
theorem dX11_weigh_52 : decode cX11_weigh 52 = .ok (.aload_n 0, 1) := by decide +kernel
theorem dX11_weigh_53 : decode cX11_weigh 53 = .ok (.getfield 7, 3) := by decide +kernel
theorem dX11_weigh_56 : decode cX11_weigh 56 = .ok (.sipush 300, 3) := by decide +kernel
theorem dX11_weigh_59 : decode cX11_weigh 59 = .ok (.iload_n 1, 1) := by decide +kernel
theorem dX11_weigh_60 : decode cX11_weigh 60 = .ok (.iadd, 1) := by decide +kernel
theorem dX11_weigh_61 : decode cX11_weigh 61 = .ok (.iaload, 1) := by decide +kernel
theorem dX11_weigh_62 : decode cX11_weigh 62 = .ok (.invokevirtual 110, 3) := by decide +kernel
theorem dX11_weigh_65 : decode cX11_weigh 65 = .ok (.istore 4, 2) := by decide +kernel
theorem dX11_weigh_67 : decode cX11_weigh 67 = .ok (.iload_n 3, 1) := by decide +kernel
theorem dX11_weigh_68 : decode cX11_weigh 68 = .ok (.ifCond .lt 8, 3) := by decide +kernel
theorem dX11_weigh_71 : decode cX11_weigh 71 = .ok (.iload 4, 2) := by decide +kernel
theorem dX11_weigh_73 : decode cX11_weigh 73 = .ok (.ifCond .ge 7, 3) := by decide +kernel
theorem dX11_weigh_76 : decode cX11_weigh 76 = .ok (.iconst (-1), 1) := by decide +kernel
theorem dX11_weigh_77 : decode cX11_weigh 77 = .ok (.goto 7, 3) := by decide +kernel
theorem dX11_weigh_80 : decode cX11_weigh 80 = .ok (.iload_n 3, 1) := by decide +kernel
theorem dX11_weigh_81 : decode cX11_weigh 81 = .ok (.iload 4, 2) := by decide +kernel
theorem dX11_weigh_83 : decode cX11_weigh 83 = .ok (.iadd, 1) := by decide +kernel
theorem dX11_weigh_84 : decode cX11_weigh 84 = .ok (.ireturn, 1) := by decide +kernel
theorem dX11_weigh_85 : decode cX11_weigh 85 = .ok (.iload_n 2, 1) := by decide +kernel
theorem dX11_weigh_86 : decode cX11_weigh 86 = .ok (.iconst 2, 1) := by decide +kernel
theorem dX11_weigh_87 : decode cX11_weigh 87 = .ok (.if_icmp .ne 10, 3) := by decide +kernel
theorem dX11_weigh_90 : decode cX11_weigh 90 = .ok (.aload_n 0, 1) := by decide +kernel
theorem dX11_weigh_91 : decode cX11_weigh 91 = .ok (.bipush 6, 2) := by decide +kernel
theorem dX11_weigh_93 : decode cX11_weigh 93 = .ok (.iconst 1, 1) := by decide +kernel
theorem dX11_weigh_94 : decode cX11_weigh 94 = .ok (.invokevirtual 106, 3) := by decide +kernel
theorem dX11_weigh_97 : decode cX11_weigh 97 = .ok (.aload_n 0, 1) := by decide +kernel
theorem dX11_weigh_98 : decode cX11_weigh 98 = .ok (.iconst 5, 1) := by decide +kernel
theorem dX11_weigh_99 : decode cX11_weigh 99 = .ok (.iconst 1, 1) := by decide +kernel
theorem dX11_weigh_100 : decode cX11_weigh 100 = .ok (.invokevirtual 106, 3) := by decide +kernel
theorem dX11_weigh_103 : decode cX11_weigh 103 = .ok (.iload_n 2, 1) := by decide +kernel
theorem dX11_weigh_104 : decode cX11_weigh 104 = .ok (.iconst 2, 1) := by decide +kernel
theorem dX11_weigh_105 : decode cX11_weigh 105 = .ok (.if_icmp .ne 8, 3) := by decide +kernel
theorem dX11_weigh_108 : decode cX11_weigh 108 = .ok (.bipush 15, 2) := by decide +kernel
theorem dX11_weigh_110 : decode cX11_weigh 110 = .ok (.goto 5, 3) := by decide +kernel
theorem dX11_weigh_113 : decode cX11_weigh 113 = .ok (.bipush 10, 2) := by decide +kernel
theorem dX11_weigh_115 : decode cX11_weigh 115 = .ok (.istore_n 3, 1) := by decide +kernel
theorem dX11_weigh_116 : decode cX11_weigh 116 = .ok (.iconst 0, 1) := by decide +kernel
theorem dX11_weigh_117 : decode cX11_weigh 117 = .ok (.istore 4, 2) := by decide +kernel
theorem dX11_weigh_119 : decode cX11_weigh 119 = .ok (.iload 4, 2) := by decide +kernel
theorem dX11_weigh_121 : decode cX11_weigh 121 = .ok (.sipush 180, 3) := by decide +kernel
theorem dX11_weigh_124 : decode cX11_weigh 124 = .ok (.if_icmp .ge 45, 3) := by decide +kernel
theorem dX11_weigh_127 : decode cX11_weigh 127 = .ok (.iload_n 3, 1) := by decide +kernel
theorem dX11_weigh_128 : decode cX11_weigh 128 = .ok (.aload_n 0, 1) := by decide +kernel
theorem dX11_weigh_129 : decode cX11_weigh 129 = .ok (.getfield 7, 3) := by decide +kernel
theorem dX11_weigh_132 : decode cX11_weigh 132 = .ok (.sipush 400, 3) := by decide +kernel
theorem dX11_weigh_135 : decode cX11_weigh 135 = .ok (.bipush 18, 2) := by decide +kernel
theorem dX11_weigh_137 : decode cX11_weigh 137 = .ok (.iload_n 1, 1) := by decide +kernel
theorem dX11_weigh_138 : decode cX11_weigh 138 = .ok (.imul, 1) := by decide +kernel
theorem dX11_weigh_139 : decode cX11_weigh 139 = .ok (.iadd, 1) := by decide +kernel
theorem dX11_weigh_140 : decode cX11_weigh 140 = .ok (.iload 4, 2) := by decide +kernel
theorem dX11_weigh_142 : decode cX11_weigh 142 = .ok (.bipush 10, 2) := by decide +kernel
theorem dX11_weigh_144 : decode cX11_weigh 144 = .ok (.idiv, 1) := by decide +kernel
theorem dX11_weigh_145 : decode cX11_weigh 145 = .ok (.iadd, 1) := by decide +kernel
theorem dX11_weigh_146 : decode cX11_weigh 146 = .ok (.iaload, 1) := by decide +kernel
theorem dX11_weigh_147 : decode cX11_weigh 147 = .ok (.iload 4, 2) := by decide +kernel
theorem dX11_weigh_149 : decode cX11_weigh 149 = .ok (.bipush 10, 2) := by decide +kernel
theorem dX11_weigh_151 : decode cX11_weigh 151 = .ok (.irem, 1) := by decide +kernel
theorem dX11_weigh_152 : decode cX11_weigh 152 = .ok (.ishr, 1) := by decide +kernel
theorem dX11_weigh_153 : decode cX11_weigh 153 = .ok (.iconst 1, 1) := by decide +kernel
theorem dX11_weigh_154 : decode cX11_weigh 154 = .ok (.iand, 1) := by decide +kernel
theorem dX11_weigh_155 : decode cX11_weigh 155 = .ok (.iload 4, 2) := by decide +kernel
theorem dX11_weigh_157 : decode cX11_weigh 157 = .ok (.bipush 10, 2) := by decide +kernel
theorem dX11_weigh_159 : decode cX11_weigh 159 = .ok (.irem, 1) := by decide +kernel
theorem dX11_weigh_160 : decode cX11_weigh 160 = .ok (.imul, 1) := by decide +kernel
theorem dX11_weigh_161 : decode cX11_weigh 161 = .ok (.iadd, 1) := by decide +kernel
theorem dX11_weigh_162 : decode cX11_weigh 162 = .ok (.istore_n 3, 1) := by decide +kernel
theorem dX11_weigh_163 : decode cX11_weigh 163 = .ok (.iinc 4 1, 3) := by decide +kernel
theorem dX11_weigh_166 : decode cX11_weigh 166 = .ok (.goto (-47), 3) := by decide +kernel
theorem dX11_weigh_169 : decode cX11_weigh 169 = .ok (.aload_n 0, 1) := by decide +kernel
theorem dX11_weigh_170 : decode cX11_weigh 170 = .ok (.getfield 7, 3) := by decide +kernel
theorem dX11_weigh_173 : decode cX11_weigh 173 = .ok (.bipush 100, 2) := by decide +kernel
theorem dX11_weigh_175 : decode cX11_weigh 175 = .ok (.iload_n 1, 1) := by decide +kernel
theorem dX11_weigh_176 : decode cX11_weigh 176 = .ok (.iadd, 1) := by decide +kernel
theorem dX11_weigh_177 : decode cX11_weigh 177 = .ok (.iaload, 1) := by decide +kernel
theorem dX11_weigh_178 : decode cX11_weigh 178 = .ok (.ifCond .ge 7, 3) := by decide +kernel
theorem dX11_weigh_181 : decode cX11_weigh 181 = .ok (.iconst (-1), 1) := by decide +kernel
theorem dX11_weigh_182 : decode cX11_weigh 182 = .ok (.goto 4, 3) := by decide +kernel
theorem dX11_weigh_185 : decode cX11_weigh 185 = .ok (.iload_n 3, 1) := by decide +kernel
theorem dX11_weigh_186 : decode cX11_weigh 186 = .ok (.ireturn, 1) := by decide +kernel
theorem dX11_weight_0 : decode cX11_weight 0 = .ok (.aload_n 0, 1) := by decide +kernel
theorem dX11_weight_1 : decode cX11_weight 1 = .ok (.iload_n 1, 1) := by decide +kernel
theorem dX11_weight_2 : decode cX11_weight 2 = .ok (.invokevirtual 87, 3) := by decide +kernel
theorem dX11_weight_5 : decode cX11_weight 5 = .ok (.ifCond .ne 6, 3) := by decide +kernel
theorem dX11_weight_8 : decode cX11_weight 8 = .ok (.bipush (-2), 2) := by decide +kernel
theorem dX11_weight_10 : decode cX11_weight 10 = .ok (.ireturn, 1) := by decide +kernel
theorem dX11_weight_11 : decode cX11_weight 11 = .ok (.aload_n 0, 1) := by decide +kernel
theorem dX11_weight_12 : decode cX11_weight 12 = .ok (.iconst 0, 1) := by decide +kernel
theorem dX11_weight_13 : decode cX11_weight 13 = .ok (.putfield 103, 3) := by decide +kernel
theorem dX11_weight_16 : decode cX11_weight 16 = .ok (.aload_n 0, 1) := by decide +kernel
theorem dX11_weight_17 : decode cX11_weight 17 = .ok (.iload_n 1, 1) := by decide +kernel
theorem dX11_weight_18 : decode cX11_weight 18 = .ok (.invokevirtual 110, 3) := by decide +kernel
theorem dX11_weight_21 : decode cX11_weight 21 = .ok (.istore_n 2, 1) := by decide +kernel
theorem dX11_weight_22 : decode cX11_weight 22 = .ok (.iload_n 2, 1) := by decide +kernel
theorem dX11_weight_23 : decode cX11_weight 23 = .ok (.ifCond .ge 11, 3) := by decide +kernel
theorem dX11_weight_26 : decode cX11_weight 26 = .ok (.aload_n 0, 1) := by decide +kernel
theorem dX11_weight_27 : decode cX11_weight 27 = .ok (.iconst 1, 1) := by decide +kernel
theorem dX11_weight_28 : decode cX11_weight 28 = .ok (.invokevirtual 80, 3) := by decide +kernel
theorem dX11_weight_31 : decode cX11_weight 31 = .ok (.goto 8, 3) := by decide +kernel
theorem dX11_weight_34 : decode cX11_weight 34 = .ok (.aload_n 0, 1) := by decide +kernel
theorem dX11_weight_35 : decode cX11_weight 35 = .ok (.iload_n 2, 1) := by decide +kernel
theorem dX11_weight_36 : decode cX11_weight 36 = .ok (.invokevirtual 74, 3) := by decide +kernel
theorem dX11_weight_39 : decode cX11_weight 39 = .ok (.ireturn, 1) := by decide +kernel
theorem dX11_blanks_0 : decode cX11_blanks 0 = .ok (.iload_n 1, 1) := by decide +kernel
theorem dX11_blanks_1 : decode cX11_blanks 1 = .ok (.i2l, 1) := by decide +kernel
theorem dX11_blanks_2 : decode cX11_blanks 2 = .ok (.lconst 0, 1) := by decide +kernel
theorem dX11_blanks_3 : decode cX11_blanks 3 = .ok (.ldc2_w 113, 3) := by decide +kernel
theorem dX11_blanks_6 : decode cX11_blanks 6 = .ok (.invokestatic 67, 3) := by decide +kernel
theorem dX11_blanks_9 : decode cX11_blanks 9 = .ok (.ifCond .ne 6, 3) := by decide +kernel
theorem dX11_blanks_12 : decode cX11_blanks 12 = .ok (.bipush (-2), 2) := by decide +kernel
theorem dX11_blanks_14 : decode cX11_blanks 14 = .ok (.ireturn, 1) := by decide +kernel
theorem dX11_blanks_15 : decode cX11_blanks 15 = .ok (.aload_n 0, 1) := by decide +kernel
theorem dX11_blanks_16 : decode cX11_blanks 16 = .ok (.getfield 7, 3) := by decide +kernel
theorem dX11_blanks_19 : decode cX11_blanks 19 = .ok (.sipush 8527, 3) := by decide +kernel
theorem dX11_blanks_22 : decode cX11_blanks 22 = .ok (.iaload, 1) := by decide +kernel
theorem dX11_blanks_23 : decode cX11_blanks 23 = .ok (.iload_n 1, 1) := by decide +kernel
theorem dX11_blanks_24 : decode cX11_blanks 24 = .ok (.iadd, 1) := by decide +kernel
theorem dX11_blanks_25 : decode cX11_blanks 25 = .ok (.sipush 1000, 3) := by decide +kernel
theorem dX11_blanks_28 : decode cX11_blanks 28 = .ok (.if_icmp .le 6, 3) := by decide +kernel
theorem dX11_blanks_31 : decode cX11_blanks 31 = .ok (.bipush (-4), 2) := by decide +kernel
theorem dX11_blanks_33 : decode cX11_blanks 33 = .ok (.ireturn, 1) := by decide +kernel
theorem dX11_blanks_34 : decode cX11_blanks 34 = .ok (.aload_n 0, 1) := by decide +kernel
theorem dX11_blanks_35 : decode cX11_blanks 35 = .ok (.invokevirtual 71, 3) := by decide +kernel
theorem dX11_blanks_38 : decode cX11_blanks 38 = .ok (.aload_n 0, 1) := by decide +kernel
theorem dX11_blanks_39 : decode cX11_blanks 39 = .ok (.getfield 7, 3) := by decide +kernel
theorem dX11_blanks_42 : decode cX11_blanks 42 = .ok (.sipush 8527, 3) := by decide +kernel
theorem dX11_blanks_45 : decode cX11_blanks 45 = .ok (.dup2, 1) := by decide +kernel
theorem dX11_blanks_46 : decode cX11_blanks 46 = .ok (.iaload, 1) := by decide +kernel
theorem dX11_blanks_47 : decode cX11_blanks 47 = .ok (.iload_n 1, 1) := by decide +kernel
theorem dX11_blanks_48 : decode cX11_blanks 48 = .ok (.iadd, 1) := by decide +kernel
theorem dX11_blanks_49 : decode cX11_blanks 49 = .ok (.iastore, 1) := by decide +kernel
theorem dX11_blanks_50 : decode cX11_blanks 50 = .ok (.aload_n 0, 1) := by decide +kernel
theorem dX11_blanks_51 : decode cX11_blanks 51 = .ok (.getfield 7, 3) := by decide +kernel
theorem dX11_blanks_54 : decode cX11_blanks 54 = .ok (.sipush 8527, 3) := by decide +kernel
theorem dX11_blanks_57 : decode cX11_blanks 57 = .ok (.iaload, 1) := by decide +kernel
theorem dX11_blanks_58 : decode cX11_blanks 58 = .ok (.ireturn, 1) := by decide +kernel
theorem dX11_newKey_0 : decode cX11_newKey 0 = .ok (.aload_n 0, 1) := by decide +kernel
theorem dX11_newKey_1 : decode cX11_newKey 1 = .ok (.invokevirtual 71, 3) := by decide +kernel
theorem dX11_newKey_4 : decode cX11_newKey 4 = .ok (.aload_n 0, 1) := by decide +kernel
theorem dX11_newKey_5 : decode cX11_newKey 5 = .ok (.getfield 7, 3) := by decide +kernel
theorem dX11_newKey_8 : decode cX11_newKey 8 = .ok (.sipush 8523, 3) := by decide +kernel
theorem dX11_newKey_11 : decode cX11_newKey 11 = .ok (.iaload, 1) := by decide +kernel
theorem dX11_newKey_12 : decode cX11_newKey 12 = .ok (.istore_n 2, 1) := by decide +kernel
theorem dX11_newKey_13 : decode cX11_newKey 13 = .ok (.aload_n 0, 1) := by decide +kernel
theorem dX11_newKey_14 : decode cX11_newKey 14 = .ok (.getfield 7, 3) := by decide +kernel
theorem dX11_newKey_17 : decode cX11_newKey 17 = .ok (.sipush 8523, 3) := by decide +kernel
theorem dX11_newKey_20 : decode cX11_newKey 20 = .ok (.iload_n 2, 1) := by decide +kernel
theorem dX11_newKey_21 : decode cX11_newKey 21 = .ok (.iconst 1, 1) := by decide +kernel
theorem dX11_newKey_22 : decode cX11_newKey 22 = .ok (.iadd, 1) := by decide +kernel
theorem dX11_newKey_23 : decode cX11_newKey 23 = .ok (.iastore, 1) := by decide +kernel
theorem dX11_newKey_24 : decode cX11_newKey 24 = .ok (.aload_n 0, 1) := by decide +kernel
theorem dX11_newKey_25 : decode cX11_newKey 25 = .ok (.getfield 7, 3) := by decide +kernel
theorem dX11_newKey_28 : decode cX11_newKey 28 = .ok (.sipush 8527, 3) := by decide +kernel
theorem dX11_newKey_31 : decode cX11_newKey 31 = .ok (.dup2, 1) := by decide +kernel
theorem dX11_newKey_32 : decode cX11_newKey 32 = .ok (.iaload, 1) := by decide +kernel
theorem dX11_newKey_33 : decode cX11_newKey 33 = .ok (.iconst 1, 1) := by decide +kernel
theorem dX11_newKey_34 : decode cX11_newKey 34 = .ok (.isub, 1) := by decide +kernel
theorem dX11_newKey_35 : decode cX11_newKey 35 = .ok (.iastore, 1) := by decide +kernel
theorem dX11_newKey_36 : decode cX11_newKey 36 = .ok (.aload_n 0, 1) := by decide +kernel
theorem dX11_newKey_37 : decode cX11_newKey 37 = .ok (.getfield 7, 3) := by decide +kernel
theorem dX11_newKey_40 : decode cX11_newKey 40 = .ok (.sipush 2200, 3) := by decide +kernel
theorem dX11_newKey_43 : decode cX11_newKey 43 = .ok (.iload_n 2, 1) := by decide +kernel
theorem dX11_newKey_44 : decode cX11_newKey 44 = .ok (.iadd, 1) := by decide +kernel
theorem dX11_newKey_45 : decode cX11_newKey 45 = .ok (.iload_n 1, 1) := by decide +kernel
theorem dX11_newKey_46 : decode cX11_newKey 46 = .ok (.iastore, 1) := by decide +kernel
theorem dX11_newKey_47 : decode cX11_newKey 47 = .ok (.aload_n 0, 1) := by decide +kernel
theorem dX11_newKey_48 : decode cX11_newKey 48 = .ok (.getfield 7, 3) := by decide +kernel
theorem dX11_newKey_51 : decode cX11_newKey 51 = .ok (.sipush 4100, 3) := by decide +kernel
theorem dX11_newKey_54 : decode cX11_newKey 54 = .ok (.iload_n 2, 1) := by decide +kernel
theorem dX11_newKey_55 : decode cX11_newKey 55 = .ok (.iadd, 1) := by decide +kernel
theorem dX11_newKey_56 : decode cX11_newKey 56 = .ok (.iconst (-1), 1) := by decide +kernel
theorem dX11_newKey_57 : decode cX11_newKey 57 = .ok (.iastore, 1) := by decide +kernel
theorem dX11_newKey_58 : decode cX11_newKey 58 = .ok (.iconst 0, 1) := by decide +kernel
theorem dX11_newKey_59 : decode cX11_newKey 59 = .ok (.istore_n 3, 1) := by decide +kernel
theorem dX11_newKey_60 : decode cX11_newKey 60 = .ok (.iload_n 3, 1) := by decide +kernel
theorem dX11_newKey_61 : decode cX11_newKey 61 = .ok (.bipush 40, 2) := by decide +kernel
theorem dX11_newKey_63 : decode cX11_newKey 63 = .ok (.if_icmp .ge 25, 3) := by decide +kernel
theorem dX11_newKey_66 : decode cX11_newKey 66 = .ok (.aload_n 0, 1) := by decide +kernel
theorem dX11_newKey_67 : decode cX11_newKey 67 = .ok (.getfield 7, 3) := by decide +kernel
theorem dX11_newKey_70 : decode cX11_newKey 70 = .ok (.sipush 4504, 3) := by decide +kernel
theorem dX11_newKey_73 : decode cX11_newKey 73 = .ok (.bipush 40, 2) := by decide +kernel
theorem dX11_newKey_75 : decode cX11_newKey 75 = .ok (.iload_n 2, 1) := by decide +kernel
theorem dX11_newKey_76 : decode cX11_newKey 76 = .ok (.imul, 1) := by decide +kernel
theorem dX11_newKey_77 : decode cX11_newKey 77 = .ok (.iadd, 1) := by decide +kernel
theorem dX11_newKey_78 : decode cX11_newKey 78 = .ok (.iload_n 3, 1) := by decide +kernel
theorem dX11_newKey_79 : decode cX11_newKey 79 = .ok (.iadd, 1) := by decide +kernel
theorem dX11_newKey_80 : decode cX11_newKey 80 = .ok (.iconst 0, 1) := by decide +kernel
theorem dX11_newKey_81 : decode cX11_newKey 81 = .ok (.iastore, 1) := by decide +kernel
theorem dX11_newKey_82 : decode cX11_newKey 82 = .ok (.iinc 3 1, 3) := by decide +kernel
theorem dX11_newKey_85 : decode cX11_newKey 85 = .ok (.goto (-25), 3) := by decide +kernel
theorem dX11_newKey_88 : decode cX11_newKey 88 = .ok (.iload_n 2, 1) := by decide +kernel
theorem dX11_newKey_89 : decode cX11_newKey 89 = .ok (.ireturn, 1) := by decide +kernel
theorem dX11_key_0 : decode cX11_key 0 = .ok (.iload_n 1, 1) := by decide +kernel
theorem dX11_key_1 : decode cX11_key 1 = .ok (.bipush 18, 2) := by decide +kernel
theorem dX11_key_3 : decode cX11_key 3 = .ok (.if_icmp .gt 14, 3) := by decide +kernel
theorem dX11_key_6 : decode cX11_key 6 = .ok (.lload_n 2, 1) := by decide +kernel
theorem dX11_key_7 : decode cX11_key 7 = .ok (.lconst 0, 1) := by decide +kernel
theorem dX11_key_8 : decode cX11_key 8 = .ok (.ldc2_w 115, 3) := by decide +kernel
theorem dX11_key_11 : decode cX11_key 11 = .ok (.invokestatic 67, 3) := by decide +kernel
theorem dX11_key_14 : decode cX11_key 14 = .ok (.ifCond .ne 6, 3) := by decide +kernel
theorem dX11_key_17 : decode cX11_key 17 = .ok (.bipush (-2), 2) := by decide +kernel
theorem dX11_key_19 : decode cX11_key 19 = .ok (.ireturn, 1) := by decide +kernel
theorem dX11_key_20 : decode cX11_key 20 = .ok (.aload_n 0, 1) := by decide +kernel
theorem dX11_key_21 : decode cX11_key 21 = .ok (.getfield 7, 3) := by decide +kernel
theorem dX11_key_24 : decode cX11_key 24 = .ok (.sipush 8523, 3) := by decide +kernel
theorem dX11_key_27 : decode cX11_key 27 = .ok (.iaload, 1) := by decide +kernel
theorem dX11_key_28 : decode cX11_key 28 = .ok (.bipush 100, 2) := by decide +kernel
theorem dX11_key_30 : decode cX11_key 30 = .ok (.if_icmp .ne 6, 3) := by decide +kernel
theorem dX11_key_33 : decode cX11_key 33 = .ok (.bipush (-4), 2) := by decide +kernel
theorem dX11_key_35 : decode cX11_key 35 = .ok (.ireturn, 1) := by decide +kernel
theorem dX11_key_36 : decode cX11_key 36 = .ok (.aload_n 0, 1) := by decide +kernel
theorem dX11_key_37 : decode cX11_key 37 = .ok (.getfield 7, 3) := by decide +kernel
theorem dX11_key_40 : decode cX11_key 40 = .ok (.sipush 8527, 3) := by decide +kernel
theorem dX11_key_43 : decode cX11_key 43 = .ok (.iaload, 1) := by decide +kernel
theorem dX11_key_44 : decode cX11_key 44 = .ok (.ifCond .ne 6, 3) := by decide +kernel
theorem dX11_key_47 : decode cX11_key 47 = .ok (.bipush (-3), 2) := by decide +kernel
theorem dX11_key_49 : decode cX11_key 49 = .ok (.ireturn, 1) := by decide +kernel
theorem dX11_key_50 : decode cX11_key 50 = .ok (.aload_n 0, 1) := by decide +kernel
theorem dX11_key_51 : decode cX11_key 51 = .ok (.dup, 1) := by decide +kernel
theorem dX11_key_52 : decode cX11_key 52 = .ok (.getfield 117, 3) := by decide +kernel
theorem dX11_key_55 : decode cX11_key 55 = .ok (.iconst 1, 1) := by decide +kernel
theorem dX11_key_56 : decode cX11_key 56 = .ok (.iadd, 1) := by decide +kernel
theorem dX11_key_57 : decode cX11_key 57 = .ok (.putfield 117, 3) := by decide +kernel
theorem dX11_key_60 : decode cX11_key 60 = .ok (.iload_n 1, 1) := by decide +kernel
theorem dX11_key_61 : decode cX11_key 61 = .ok (.ifCond .ge 9, 3) := by decide +kernel
theorem dX11_key_64 : decode cX11_key 64 = .ok (.aload_n 0, 1) := by decide +kernel
theorem dX11_key_65 : decode cX11_key 65 = .ok (.iconst 5, 1) := by decide +kernel
theorem dX11_key_66 : decode cX11_key 66 = .ok (.invokevirtual 80, 3) := by decide +kernel
theorem dX11_key_69 : decode cX11_key 69 = .ok (.ireturn, 1) := by decide +kernel
theorem dX11_key_70 : decode cX11_key 70 = .ok (.aload_n 0, 1) := by decide +kernel
theorem dX11_key_71 : decode cX11_key 71 = .ok (.iload_n 1, 1) := by decide +kernel
theorem dX11_key_72 : decode cX11_key 72 = .ok (.invokevirtual 120, 3) := by decide +kernel
theorem dX11_key_75 : decode cX11_key 75 = .ok (.istore 4, 2) := by decide +kernel
theorem dX11_key_77 : decode cX11_key 77 = .ok (.lload_n 2, 1) := by decide +kernel
theorem dX11_key_78 : decode cX11_key 78 = .ok (.lstore 5, 2) := by decide +kernel
theorem dX11_key_80 : decode cX11_key 80 = .ok (.iconst 0, 1) := by decide +kernel
theorem dX11_key_81 : decode cX11_key 81 = .ok (.istore 7, 2) := by decide +kernel
theorem dX11_key_83 : decode cX11_key 83 = .ok (.iload 7, 2) := by decide +kernel
theorem dX11_key_85 : decode cX11_key 85 = .ok (.iload_n 1, 1) := by decide +kernel
theorem dX11_key_86 : decode cX11_key 86 = .ok (.if_icmp .ge 41, 3) := by decide +kernel
theorem dX11_key_89 : decode cX11_key 89 = .ok (.aload_n 0, 1) := by decide +kernel
theorem dX11_key_90 : decode cX11_key 90 = .ok (.getfield 7, 3) := by decide +kernel
theorem dX11_key_93 : decode cX11_key 93 = .ok (.sipush 2300, 3) := by decide +kernel
theorem dX11_key_96 : decode cX11_key 96 = .ok (.bipush 18, 2) := by decide +kernel
theorem dX11_key_98 : decode cX11_key 98 = .ok (.iload 4, 2) := by decide +kernel
theorem dX11_key_100 : decode cX11_key 100 = .ok (.imul, 1) := by decide +kernel
theorem dX11_key_101 : decode cX11_key 101 = .ok (.iadd, 1) := by decide +kernel
theorem dX11_key_102 : decode cX11_key 102 = .ok (.iload 7, 2) := by decide +kernel
theorem dX11_key_104 : decode cX11_key 104 = .ok (.iadd, 1) := by decide +kernel
theorem dX11_key_105 : decode cX11_key 105 = .ok (.lload 5, 2) := by decide +kernel
theorem dX11_key_107 : decode cX11_key 107 = .ok (.ldc2_w 123, 3) := by decide +kernel
theorem dX11_key_110 : decode cX11_key 110 = .ok (.lrem, 1) := by decide +kernel
theorem dX11_key_111 : decode cX11_key 111 = .ok (.l2i, 1) := by decide +kernel
theorem dX11_key_112 : decode cX11_key 112 = .ok (.iastore, 1) := by decide +kernel
theorem dX11_key_113 : decode cX11_key 113 = .ok (.lload 5, 2) := by decide +kernel
theorem dX11_key_115 : decode cX11_key 115 = .ok (.ldc2_w 123, 3) := by decide +kernel
theorem dX11_key_118 : decode cX11_key 118 = .ok (.ldiv, 1) := by decide +kernel
theorem dX11_key_119 : decode cX11_key 119 = .ok (.lstore 5, 2) := by decide +kernel
theorem dX11_key_121 : decode cX11_key 121 = .ok (.iinc 7 1, 3) := by decide +kernel
theorem dX11_key_124 : decode cX11_key 124 = .ok (.goto (-41), 3) := by decide +kernel
theorem dX11_key_127 : decode cX11_key 127 = .ok (.aload_n 0, 1) := by decide +kernel
theorem dX11_key_128 : decode cX11_key 128 = .ok (.iload 4, 2) := by decide +kernel
theorem dX11_key_130 : decode cX11_key 130 = .ok (.invokevirtual 74, 3) := by decide +kernel
theorem dX11_key_133 : decode cX11_key 133 = .ok (.ireturn, 1) := by decide +kernel
theorem dX11_turned_0 : decode cX11_turned 0 = .ok (.aload_n 0, 1) := by decide +kernel
theorem dX11_turned_1 : decode cX11_turned 1 = .ok (.iload_n 1, 1) := by decide +kernel
theorem dX11_turned_2 : decode cX11_turned 2 = .ok (.invokevirtual 125, 3) := by decide +kernel
theorem dX11_turned_5 : decode cX11_turned 5 = .ok (.ifCond .eq 9, 3) := by decide +kernel
theorem dX11_turned_8 : decode cX11_turned 8 = .ok (.iload_n 2, 1) := by decide +kernel
theorem dX11_turned_9 : decode cX11_turned 9 = .ok (.bipush 18, 2) := by decide +kernel
theorem dX11_turned_11 : decode cX11_turned 11 = .ok (.if_icmp .le 6, 3) := by decide +kernel
theorem dX11_turned_14 : decode cX11_turned 14 = .ok (.bipush (-2), 2) := by decide +kernel
theorem dX11_turned_16 : decode cX11_turned 16 = .ok (.ireturn, 1) := by decide +kernel
theorem dX11_turned_17 : decode cX11_turned 17 = .ok (.aload_n 0, 1) := by decide +kernel
theorem dX11_turned_18 : decode cX11_turned 18 = .ok (.getfield 7, 3) := by decide +kernel
theorem dX11_turned_21 : decode cX11_turned 21 = .ok (.sipush 8523, 3) := by decide +kernel
theorem dX11_turned_24 : decode cX11_turned 24 = .ok (.iaload, 1) := by decide +kernel
theorem dX11_turned_25 : decode cX11_turned 25 = .ok (.bipush 100, 2) := by decide +kernel
theorem dX11_turned_27 : decode cX11_turned 27 = .ok (.if_icmp .ne 6, 3) := by decide +kernel
theorem dX11_turned_30 : decode cX11_turned 30 = .ok (.bipush (-4), 2) := by decide +kernel
theorem dX11_turned_32 : decode cX11_turned 32 = .ok (.ireturn, 1) := by decide +kernel
theorem dX11_turned_33 : decode cX11_turned 33 = .ok (.aload_n 0, 1) := by decide +kernel
theorem dX11_turned_34 : decode cX11_turned 34 = .ok (.getfield 7, 3) := by decide +kernel
theorem dX11_turned_37 : decode cX11_turned 37 = .ok (.sipush 8527, 3) := by decide +kernel
theorem dX11_turned_40 : decode cX11_turned 40 = .ok (.iaload, 1) := by decide +kernel
theorem dX11_turned_41 : decode cX11_turned 41 = .ok (.ifCond .ne 6, 3) := by decide +kernel
theorem dX11_turned_44 : decode cX11_turned 44 = .ok (.bipush (-3), 2) := by decide +kernel
theorem dX11_turned_46 : decode cX11_turned 46 = .ok (.ireturn, 1) := by decide +kernel
theorem dX11_turned_47 : decode cX11_turned 47 = .ok (.aload_n 0, 1) := by decide +kernel
theorem dX11_turned_48 : decode cX11_turned 48 = .ok (.dup, 1) := by decide +kernel
theorem dX11_turned_49 : decode cX11_turned 49 = .ok (.getfield 117, 3) := by decide +kernel
theorem dX11_turned_52 : decode cX11_turned 52 = .ok (.iconst 1, 1) := by decide +kernel
theorem dX11_turned_53 : decode cX11_turned 53 = .ok (.iadd, 1) := by decide +kernel
theorem dX11_turned_54 : decode cX11_turned 54 = .ok (.putfield 117, 3) := by decide +kernel
theorem dX11_turned_57 : decode cX11_turned 57 = .ok (.iload_n 2, 1) := by decide +kernel
theorem dX11_turned_58 : decode cX11_turned 58 = .ok (.ifCond .lt 17, 3) := by decide +kernel
theorem dX11_turned_61 : decode cX11_turned 61 = .ok (.iload_n 2, 1) := by decide +kernel
theorem dX11_turned_62 : decode cX11_turned 62 = .ok (.aload_n 0, 1) := by decide +kernel
theorem dX11_turned_63 : decode cX11_turned 63 = .ok (.getfield 7, 3) := by decide +kernel
theorem dX11_turned_66 : decode cX11_turned 66 = .ok (.sipush 2200, 3) := by decide +kernel
theorem dX11_turned_69 : decode cX11_turned 69 = .ok (.iload_n 1, 1) := by decide +kernel
theorem dX11_turned_70 : decode cX11_turned 70 = .ok (.iadd, 1) := by decide +kernel
theorem dX11_turned_71 : decode cX11_turned 71 = .ok (.iaload, 1) := by decide +kernel
theorem dX11_turned_72 : decode cX11_turned 72 = .ok (.if_icmp .le 17, 3) := by decide +kernel
theorem dX11_turned_75 : decode cX11_turned 75 = .ok (.aload_n 0, 1) := by decide +kernel
theorem dX11_turned_76 : decode cX11_turned 76 = .ok (.iload_n 2, 1) := by decide +kernel
theorem dX11_turned_77 : decode cX11_turned 77 = .ok (.ifCond .ge 7, 3) := by decide +kernel
theorem dX11_turned_80 : decode cX11_turned 80 = .ok (.iconst 5, 1) := by decide +kernel
theorem dX11_turned_81 : decode cX11_turned 81 = .ok (.goto 4, 3) := by decide +kernel
theorem dX11_turned_84 : decode cX11_turned 84 = .ok (.iconst 2, 1) := by decide +kernel
theorem dX11_turned_85 : decode cX11_turned 85 = .ok (.invokevirtual 80, 3) := by decide +kernel
theorem dX11_turned_88 : decode cX11_turned 88 = .ok (.ireturn, 1) := by decide +kernel
theorem dX11_turned_89 : decode cX11_turned 89 = .ok (.aload_n 0, 1) := by decide +kernel
theorem dX11_turned_90 : decode cX11_turned 90 = .ok (.iload_n 2, 1) := by decide +kernel
theorem dX11_turned_91 : decode cX11_turned 91 = .ok (.invokevirtual 120, 3) := by decide +kernel
theorem dX11_turned_94 : decode cX11_turned 94 = .ok (.istore_n 3, 1) := by decide +kernel
theorem dX11_turned_95 : decode cX11_turned 95 = .ok (.iconst 0, 1) := by decide +kernel
theorem dX11_turned_96 : decode cX11_turned 96 = .ok (.istore 4, 2) := by decide +kernel
theorem dX11_turned_98 : decode cX11_turned 98 = .ok (.iload 4, 2) := by decide +kernel
theorem dX11_turned_100 : decode cX11_turned 100 = .ok (.iload_n 2, 1) := by decide +kernel
theorem dX11_turned_101 : decode cX11_turned 101 = .ok (.if_icmp .ge 45, 3) := by decide +kernel
theorem dX11_turned_104 : decode cX11_turned 104 = .ok (.aload_n 0, 1) := by decide +kernel
theorem dX11_turned_105 : decode cX11_turned 105 = .ok (.getfield 7, 3) := by decide +kernel
theorem dX11_turned_108 : decode cX11_turned 108 = .ok (.sipush 2300, 3) := by decide +kernel
theorem dX11_turned_111 : decode cX11_turned 111 = .ok (.bipush 18, 2) := by decide +kernel
theorem dX11_turned_113 : decode cX11_turned 113 = .ok (.iload_n 3, 1) := by decide +kernel
theorem dX11_turned_114 : decode cX11_turned 114 = .ok (.imul, 1) := by decide +kernel
theorem dX11_turned_115 : decode cX11_turned 115 = .ok (.iadd, 1) := by decide +kernel
theorem dX11_turned_116 : decode cX11_turned 116 = .ok (.iload 4, 2) := by decide +kernel
theorem dX11_turned_118 : decode cX11_turned 118 = .ok (.iadd, 1) := by decide +kernel
theorem dX11_turned_119 : decode cX11_turned 119 = .ok (.aload_n 0, 1) := by decide +kernel
theorem dX11_turned_120 : decode cX11_turned 120 = .ok (.getfield 7, 3) := by decide +kernel
theorem dX11_turned_123 : decode cX11_turned 123 = .ok (.sipush 2300, 3) := by decide +kernel
theorem dX11_turned_126 : decode cX11_turned 126 = .ok (.bipush 18, 2) := by decide +kernel
theorem dX11_turned_128 : decode cX11_turned 128 = .ok (.iload_n 1, 1) := by decide +kernel
theorem dX11_turned_129 : decode cX11_turned 129 = .ok (.imul, 1) := by decide +kernel
theorem dX11_turned_130 : decode cX11_turned 130 = .ok (.iadd, 1) := by decide +kernel
theorem dX11_turned_131 : decode cX11_turned 131 = .ok (.iload_n 2, 1) := by decide +kernel
theorem dX11_turned_132 : decode cX11_turned 132 = .ok (.iadd, 1) := by decide +kernel
theorem dX11_turned_133 : decode cX11_turned 133 = .ok (.iconst 1, 1) := by decide +kernel
theorem dX11_turned_134 : decode cX11_turned 134 = .ok (.isub, 1) := by decide +kernel
theorem dX11_turned_135 : decode cX11_turned 135 = .ok (.iload 4, 2) := by decide +kernel
theorem dX11_turned_137 : decode cX11_turned 137 = .ok (.isub, 1) := by decide +kernel
theorem dX11_turned_138 : decode cX11_turned 138 = .ok (.iaload, 1) := by decide +kernel
theorem dX11_turned_139 : decode cX11_turned 139 = .ok (.iastore, 1) := by decide +kernel
theorem dX11_turned_140 : decode cX11_turned 140 = .ok (.iinc 4 1, 3) := by decide +kernel
theorem dX11_turned_143 : decode cX11_turned 143 = .ok (.goto (-45), 3) := by decide +kernel
theorem dX11_turned_146 : decode cX11_turned 146 = .ok (.aload_n 0, 1) := by decide +kernel
theorem dX11_turned_147 : decode cX11_turned 147 = .ok (.iload_n 3, 1) := by decide +kernel
theorem dX11_turned_148 : decode cX11_turned 148 = .ok (.invokevirtual 74, 3) := by decide +kernel
theorem dX11_turned_151 : decode cX11_turned 151 = .ok (.ireturn, 1) := by decide +kernel
theorem dX11_cut_0 : decode cX11_cut 0 = .ok (.aload_n 0, 1) := by decide +kernel
theorem dX11_cut_1 : decode cX11_cut 1 = .ok (.iload_n 1, 1) := by decide +kernel
theorem dX11_cut_2 : decode cX11_cut 2 = .ok (.invokevirtual 125, 3) := by decide +kernel
theorem dX11_cut_5 : decode cX11_cut 5 = .ok (.ifCond .ne 6, 3) := by decide +kernel
theorem dX11_cut_8 : decode cX11_cut 8 = .ok (.bipush (-2), 2) := by decide +kernel
theorem dX11_cut_10 : decode cX11_cut 10 = .ok (.ireturn, 1) := by decide +kernel
theorem dX11_cut_11 : decode cX11_cut 11 = .ok (.iload_n 2, 1) := by decide +kernel
theorem dX11_cut_12 : decode cX11_cut 12 = .ok (.i2l, 1) := by decide +kernel
theorem dX11_cut_13 : decode cX11_cut 13 = .ok (.lconst 0, 1) := by decide +kernel
theorem dX11_cut_14 : decode cX11_cut 14 = .ok (.aload_n 0, 1) := by decide +kernel
theorem dX11_cut_15 : decode cX11_cut 15 = .ok (.getfield 7, 3) := by decide +kernel
theorem dX11_cut_18 : decode cX11_cut 18 = .ok (.sipush 2200, 3) := by decide +kernel
theorem dX11_cut_21 : decode cX11_cut 21 = .ok (.iload_n 1, 1) := by decide +kernel
theorem dX11_cut_22 : decode cX11_cut 22 = .ok (.iadd, 1) := by decide +kernel
theorem dX11_cut_23 : decode cX11_cut 23 = .ok (.iaload, 1) := by decide +kernel
theorem dX11_cut_24 : decode cX11_cut 24 = .ok (.iconst 1, 1) := by decide +kernel
theorem dX11_cut_25 : decode cX11_cut 25 = .ok (.isub, 1) := by decide +kernel
theorem dX11_cut_26 : decode cX11_cut 26 = .ok (.i2l, 1) := by decide +kernel
theorem dX11_cut_27 : decode cX11_cut 27 = .ok (.invokestatic 67, 3) := by decide +kernel
theorem dX11_cut_30 : decode cX11_cut 30 = .ok (.ifCond .eq 25, 3) := by decide +kernel
theorem dX11_cut_33 : decode cX11_cut 33 = .ok (.aload_n 0, 1) := by decide +kernel
theorem dX11_cut_34 : decode cX11_cut 34 = .ok (.aload_n 0, 1) := by decide +kernel
theorem dX11_cut_35 : decode cX11_cut 35 = .ok (.getfield 7, 3) := by decide +kernel
theorem dX11_cut_38 : decode cX11_cut 38 = .ok (.sipush 2300, 3) := by decide +kernel
theorem dX11_cut_41 : decode cX11_cut 41 = .ok (.bipush 18, 2) := by decide +kernel
theorem dX11_cut_43 : decode cX11_cut 43 = .ok (.iload_n 1, 1) := by decide +kernel
theorem dX11_cut_44 : decode cX11_cut 44 = .ok (.imul, 1) := by decide +kernel
theorem dX11_cut_45 : decode cX11_cut 45 = .ok (.iadd, 1) := by decide +kernel
theorem dX11_cut_46 : decode cX11_cut 46 = .ok (.iload_n 2, 1) := by decide +kernel
theorem dX11_cut_47 : decode cX11_cut 47 = .ok (.iadd, 1) := by decide +kernel
theorem dX11_cut_48 : decode cX11_cut 48 = .ok (.iaload, 1) := by decide +kernel
theorem dX11_cut_49 : decode cX11_cut 49 = .ok (.invokevirtual 74, 3) := by decide +kernel
theorem dX11_cut_52 : decode cX11_cut 52 = .ok (.goto 8, 3) := by decide +kernel
theorem dX11_cut_55 : decode cX11_cut 55 = .ok (.aload_n 0, 1) := by decide +kernel
theorem dX11_cut_56 : decode cX11_cut 56 = .ok (.iconst 2, 1) := by decide +kernel
theorem dX11_cut_57 : decode cX11_cut 57 = .ok (.invokevirtual 80, 3) := by decide +kernel
theorem dX11_cut_60 : decode cX11_cut 60 = .ok (.ireturn, 1) := by decide +kernel
theorem dX11_length_0 : decode cX11_length 0 = .ok (.aload_n 0, 1) := by decide +kernel
theorem dX11_length_1 : decode cX11_length 1 = .ok (.iload_n 1, 1) := by decide +kernel
theorem dX11_length_2 : decode cX11_length 2 = .ok (.invokevirtual 125, 3) := by decide +kernel
theorem dX11_length_5 : decode cX11_length 5 = .ok (.ifCond .eq 16, 3) := by decide +kernel
theorem dX11_length_8 : decode cX11_length 8 = .ok (.aload_n 0, 1) := by decide +kernel
theorem dX11_length_9 : decode cX11_length 9 = .ok (.getfield 7, 3) := by decide +kernel
theorem dX11_length_12 : decode cX11_length 12 = .ok (.sipush 2200, 3) := by decide +kernel
theorem dX11_length_15 : decode cX11_length 15 = .ok (.iload_n 1, 1) := by decide +kernel
theorem dX11_length_16 : decode cX11_length 16 = .ok (.iadd, 1) := by decide +kernel
theorem dX11_length_17 : decode cX11_length 17 = .ok (.iaload, 1) := by decide +kernel
theorem dX11_length_18 : decode cX11_length 18 = .ok (.goto 5, 3) := by decide +kernel
theorem dX11_length_21 : decode cX11_length 21 = .ok (.bipush (-2), 2) := by decide +kernel
theorem dX11_length_23 : decode cX11_length 23 = .ok (.ireturn, 1) := by decide +kernel
theorem dX11_tried_0 : decode cX11_tried 0 = .ok (.iload_n 1, 1) := by decide +kernel
theorem dX11_tried_1 : decode cX11_tried 1 = .ok (.iconst (-1), 1) := by decide +kernel
theorem dX11_tried_2 : decode cX11_tried 2 = .ok (.if_icmp .ne 5, 3) := by decide +kernel
theorem dX11_tried_5 : decode cX11_tried 5 = .ok (.iconst (-1), 1) := by decide +kernel
theorem dX11_tried_6 : decode cX11_tried 6 = .ok (.ireturn, 1) := by decide +kernel
theorem dX11_tried_7 : decode cX11_tried 7 = .ok (.aload_n 0, 1) := by decide +kernel
theorem dX11_tried_8 : decode cX11_tried 8 = .ok (.getfield 7, 3) := by decide +kernel
theorem dX11_tried_11 : decode cX11_tried 11 = .ok (.iconst 0, 1) := by decide +kernel
theorem dX11_tried_12 : decode cX11_tried 12 = .ok (.iload_n 1, 1) := by decide +kernel
theorem dX11_tried_13 : decode cX11_tried 13 = .ok (.iadd, 1) := by decide +kernel
theorem dX11_tried_14 : decode cX11_tried 14 = .ok (.iaload, 1) := by decide +kernel
theorem dX11_tried_15 : decode cX11_tried 15 = .ok (.istore 5, 2) := by decide +kernel
theorem dX11_tried_17 : decode cX11_tried 17 = .ok (.iload 5, 2) := by decide +kernel
theorem dX11_tried_19 : decode cX11_tried 19 = .ok (.iconst 4, 1) := by decide +kernel
theorem dX11_tried_20 : decode cX11_tried 20 = .ok (.if_icmp .ne 63, 3) := by decide +kernel
theorem dX11_tried_23 : decode cX11_tried 23 = .ok (.aload_n 0, 1) := by decide +kernel
theorem dX11_tried_24 : decode cX11_tried 24 = .ok (.iconst 4, 1) := by decide +kernel
theorem dX11_tried_25 : decode cX11_tried 25 = .ok (.iload 4, 2) := by decide +kernel
theorem dX11_tried_27 : decode cX11_tried 27 = .ok (.invokevirtual 106, 3) := by decide +kernel
theorem dX11_tried_30 : decode cX11_tried 30 = .ok (.aload_n 0, 1) := by decide +kernel
theorem dX11_tried_31 : decode cX11_tried 31 = .ok (.aload_n 0, 1) := by decide +kernel
theorem dX11_tried_32 : decode cX11_tried 32 = .ok (.getfield 7, 3) := by decide +kernel
theorem dX11_tried_35 : decode cX11_tried 35 = .ok (.sipush 200, 3) := by decide +kernel
theorem dX11_tried_38 : decode cX11_tried 38 = .ok (.iload_n 1, 1) := by decide +kernel
theorem dX11_tried_39 : decode cX11_tried 39 = .ok (.iadd, 1) := by decide +kernel
theorem dX11_tried_40 : decode cX11_tried 40 = .ok (.iaload, 1) := by decide +kernel
theorem dX11_tried_41 : decode cX11_tried 41 = .ok (.iload_n 2, 1) := by decide +kernel
theorem dX11_tried_42 : decode cX11_tried 42 = .ok (.iload_n 3, 1) := by decide +kernel
theorem dX11_tried_43 : decode cX11_tried 43 = .ok (.iload 4, 2) := by decide +kernel
theorem dX11_tried_45 : decode cX11_tried 45 = .ok (.invokevirtual 128, 3) := by decide +kernel
theorem dX11_tried_48 : decode cX11_tried 48 = .ok (.istore 6, 2) := by decide +kernel
theorem dX11_tried_50 : decode cX11_tried 50 = .ok (.iload 6, 2) := by decide +kernel
theorem dX11_tried_52 : decode cX11_tried 52 = .ok (.iconst 1, 1) := by decide +kernel
theorem dX11_tried_53 : decode cX11_tried 53 = .ok (.if_icmp .eq 8, 3) := by decide +kernel
theorem dX11_tried_56 : decode cX11_tried 56 = .ok (.iload 6, 2) := by decide +kernel
theorem dX11_tried_58 : decode cX11_tried 58 = .ok (.goto 24, 3) := by decide +kernel
theorem dX11_tried_61 : decode cX11_tried 61 = .ok (.aload_n 0, 1) := by decide +kernel
theorem dX11_tried_62 : decode cX11_tried 62 = .ok (.aload_n 0, 1) := by decide +kernel
theorem dX11_tried_63 : decode cX11_tried 63 = .ok (.getfield 7, 3) := by decide +kernel
theorem dX11_tried_66 : decode cX11_tried 66 = .ok (.sipush 300, 3) := by decide +kernel
theorem dX11_tried_69 : decode cX11_tried 69 = .ok (.iload_n 1, 1) := by decide +kernel
theorem dX11_tried_70 : decode cX11_tried 70 = .ok (.iadd, 1) := by decide +kernel
theorem dX11_tried_71 : decode cX11_tried 71 = .ok (.iaload, 1) := by decide +kernel
theorem dX11_tried_72 : decode cX11_tried 72 = .ok (.iload_n 2, 1) := by decide +kernel
theorem dX11_tried_73 : decode cX11_tried 73 = .ok (.iload_n 3, 1) := by decide +kernel
theorem dX11_tried_74 : decode cX11_tried 74 = .ok (.bipush 18, 2) := by decide +kernel
theorem dX11_tried_76 : decode cX11_tried 76 = .ok (.iadd, 1) := by decide +kernel
theorem dX11_tried_77 : decode cX11_tried 77 = .ok (.iload 4, 2) := by decide +kernel
theorem dX11_tried_79 : decode cX11_tried 79 = .ok (.invokevirtual 128, 3) := by decide +kernel
theorem dX11_tried_82 : decode cX11_tried 82 = .ok (.ireturn, 1) := by decide +kernel
theorem dX11_tried_83 : decode cX11_tried 83 = .ok (.iload 5, 2) := by decide +kernel
theorem dX11_tried_85 : decode cX11_tried 85 = .ok (.iconst 3, 1) := by decide +kernel
theorem dX11_tried_86 : decode cX11_tried 86 = .ok (.if_icmp .ne 17, 3) := by decide +kernel
theorem dX11_tried_89 : decode cX11_tried 89 = .ok (.aload_n 0, 1) := by decide +kernel
theorem dX11_tried_90 : decode cX11_tried 90 = .ok (.iconst 3, 1) := by decide +kernel
theorem dX11_tried_91 : decode cX11_tried 91 = .ok (.iload 4, 2) := by decide +kernel
theorem dX11_tried_93 : decode cX11_tried 93 = .ok (.invokevirtual 106, 3) := by decide +kernel
theorem dX11_tried_96 : decode cX11_tried 96 = .ok (.aload_n 0, 1) := by decide +kernel
theorem dX11_tried_97 : decode cX11_tried 97 = .ok (.iload_n 3, 1) := by decide +kernel
theorem dX11_tried_98 : decode cX11_tried 98 = .ok (.putfield 20, 3) := by decide +kernel
theorem dX11_tried_101 : decode cX11_tried 101 = .ok (.iconst 0, 1) := by decide +kernel
theorem dX11_tried_102 : decode cX11_tried 102 = .ok (.ireturn, 1) := by decide +kernel
theorem dX11_tried_103 : decode cX11_tried 103 = .ok (.iload 5, 2) := by decide +kernel
theorem dX11_tried_105 : decode cX11_tried 105 = .ok (.ifCond .eq 10, 3) := by decide +kernel
theorem dX11_tried_108 : decode cX11_tried 108 = .ok (.aload_n 0, 1) := by decide +kernel
theorem dX11_tried_109 : decode cX11_tried 109 = .ok (.iconst 2, 1) := by decide +kernel
theorem dX11_tried_110 : decode cX11_tried 110 = .ok (.iload 4, 2) := by decide +kernel
theorem dX11_tried_112 : decode cX11_tried 112 = .ok (.invokevirtual 106, 3) := by decide +kernel
theorem dX11_tried_115 : decode cX11_tried 115 = .ok (.aload_n 0, 1) := by decide +kernel
theorem dX11_tried_116 : decode cX11_tried 116 = .ok (.iconst 1, 1) := by decide +kernel
theorem dX11_tried_117 : decode cX11_tried 117 = .ok (.iload 4, 2) := by decide +kernel
theorem dX11_tried_119 : decode cX11_tried 119 = .ok (.invokevirtual 106, 3) := by decide +kernel
theorem dX11_tried_122 : decode cX11_tried 122 = .ok (.iconst 0, 1) := by decide +kernel
theorem dX11_tried_123 : decode cX11_tried 123 = .ok (.istore 6, 2) := by decide +kernel
theorem dX11_tried_125 : decode cX11_tried 125 = .ok (.iload 6, 2) := by decide +kernel
theorem dX11_tried_127 : decode cX11_tried 127 = .ok (.aload_n 0, 1) := by decide +kernel
theorem dX11_tried_128 : decode cX11_tried 128 = .ok (.getfield 7, 3) := by decide +kernel
theorem dX11_tried_131 : decode cX11_tried 131 = .ok (.bipush 100, 2) := by decide +kernel
theorem dX11_tried_133 : decode cX11_tried 133 = .ok (.iload_n 1, 1) := by decide +kernel
theorem dX11_tried_134 : decode cX11_tried 134 = .ok (.iadd, 1) := by decide +kernel
theorem dX11_tried_135 : decode cX11_tried 135 = .ok (.iaload, 1) := by decide +kernel
theorem dX11_tried_136 : decode cX11_tried 136 = .ok (.if_icmp .ge 103, 3) := by decide +kernel
theorem dX11_tried_139 : decode cX11_tried 139 = .ok (.aload_n 0, 1) := by decide +kernel
theorem dX11_tried_140 : decode cX11_tried 140 = .ok (.getfield 7, 3) := by decide +kernel
theorem dX11_tried_143 : decode cX11_tried 143 = .ok (.sipush 400, 3) := by decide +kernel
theorem dX11_tried_146 : decode cX11_tried 146 = .ok (.bipush 18, 2) := by decide +kernel
theorem dX11_tried_148 : decode cX11_tried 148 = .ok (.iload_n 1, 1) := by decide +kernel
theorem dX11_tried_149 : decode cX11_tried 149 = .ok (.imul, 1) := by decide +kernel
theorem dX11_tried_150 : decode cX11_tried 150 = .ok (.iadd, 1) := by decide +kernel
theorem dX11_tried_151 : decode cX11_tried 151 = .ok (.iload 6, 2) := by decide +kernel
theorem dX11_tried_153 : decode cX11_tried 153 = .ok (.iadd, 1) := by decide +kernel
theorem dX11_tried_154 : decode cX11_tried 154 = .ok (.iaload, 1) := by decide +kernel
theorem dX11_tried_155 : decode cX11_tried 155 = .ok (.istore 7, 2) := by decide +kernel
theorem dX11_tried_157 : decode cX11_tried 157 = .ok (.iload 6, 2) := by decide +kernel
theorem dX11_tried_159 : decode cX11_tried 159 = .ok (.aload_n 0, 1) := by decide +kernel
theorem dX11_tried_160 : decode cX11_tried 160 = .ok (.getfield 7, 3) := by decide +kernel
theorem dX11_tried_163 : decode cX11_tried 163 = .ok (.sipush 2200, 3) := by decide +kernel
theorem dX11_tried_166 : decode cX11_tried 166 = .ok (.iload_n 2, 1) := by decide +kernel
theorem dX11_tried_167 : decode cX11_tried 167 = .ok (.iadd, 1) := by decide +kernel
theorem dX11_tried_168 : decode cX11_tried 168 = .ok (.iaload, 1) := by decide +kernel
theorem dX11_tried_169 : decode cX11_tried 169 = .ok (.if_icmp .lt 7, 3) := by decide +kernel
theorem dX11_tried_172 : decode cX11_tried 172 = .ok (.iconst 1, 1) := by decide +kernel
theorem dX11_tried_173 : decode cX11_tried 173 = .ok (.goto 4, 3) := by decide +kernel
theorem dX11_tried_176 : decode cX11_tried 176 = .ok (.iconst 0, 1) := by decide +kernel
theorem dX11_tried_177 : decode cX11_tried 177 = .ok (.istore 8, 2) := by decide +kernel
theorem dX11_tried_179 : decode cX11_tried 179 = .ok (.iload 7, 2) := by decide +kernel
theorem dX11_tried_181 : decode cX11_tried 181 = .ok (.ifCond .eq 52, 3) := by decide +kernel
theorem dX11_tried_184 : decode cX11_tried 184 = .ok (.iload 8, 2) := by decide +kernel
theorem dX11_tried_186 : decode cX11_tried 186 = .ok (.ifCond .ne 27, 3) := by decide +kernel
theorem dX11_tried_189 : decode cX11_tried 189 = .ok (.iload 7, 2) := by decide +kernel
theorem dX11_tried_191 : decode cX11_tried 191 = .ok (.aload_n 0, 1) := by decide +kernel
theorem dX11_tried_192 : decode cX11_tried 192 = .ok (.getfield 7, 3) := by decide +kernel
theorem dX11_tried_195 : decode cX11_tried 195 = .ok (.sipush 2300, 3) := by decide +kernel
theorem dX11_tried_198 : decode cX11_tried 198 = .ok (.bipush 18, 2) := by decide +kernel
theorem dX11_tried_200 : decode cX11_tried 200 = .ok (.iload_n 2, 1) := by decide +kernel
theorem dX11_tried_201 : decode cX11_tried 201 = .ok (.imul, 1) := by decide +kernel
theorem dX11_tried_202 : decode cX11_tried 202 = .ok (.iadd, 1) := by decide +kernel
theorem dX11_tried_203 : decode cX11_tried 203 = .ok (.iload 6, 2) := by decide +kernel
theorem dX11_tried_205 : decode cX11_tried 205 = .ok (.iadd, 1) := by decide +kernel
theorem dX11_tried_206 : decode cX11_tried 206 = .ok (.iaload, 1) := by decide +kernel
theorem dX11_tried_207 : decode cX11_tried 207 = .ok (.ishr, 1) := by decide +kernel
theorem dX11_tried_208 : decode cX11_tried 208 = .ok (.iconst 1, 1) := by decide +kernel
theorem dX11_tried_209 : decode cX11_tried 209 = .ok (.iand, 1) := by decide +kernel
theorem dX11_tried_210 : decode cX11_tried 210 = .ok (.ifCond .ne 23, 3) := by decide +kernel
theorem dX11_tried_213 : decode cX11_tried 213 = .ok (.aload_n 0, 1) := by decide +kernel
theorem dX11_tried_214 : decode cX11_tried 214 = .ok (.iload_n 3, 1) := by decide +kernel
theorem dX11_tried_215 : decode cX11_tried 215 = .ok (.iload 6, 2) := by decide +kernel
theorem dX11_tried_217 : decode cX11_tried 217 = .ok (.iadd, 1) := by decide +kernel
theorem dX11_tried_218 : decode cX11_tried 218 = .ok (.putfield 20, 3) := by decide +kernel
theorem dX11_tried_221 : decode cX11_tried 221 = .ok (.iload 8, 2) := by decide +kernel
theorem dX11_tried_223 : decode cX11_tried 223 = .ok (.ifCond .eq 8, 3) := by decide +kernel
theorem dX11_tried_226 : decode cX11_tried 226 = .ok (.bipush (-2), 2) := by decide +kernel
theorem dX11_tried_228 : decode cX11_tried 228 = .ok (.goto 4, 3) := by decide +kernel
theorem dX11_tried_231 : decode cX11_tried 231 = .ok (.iconst 0, 1) := by decide +kernel
theorem dX11_tried_232 : decode cX11_tried 232 = .ok (.ireturn, 1) := by decide +kernel
theorem dX11_tried_233 : decode cX11_tried 233 = .ok (.iinc 6 1, 3) := by decide +kernel
theorem dX11_tried_236 : decode cX11_tried 236 = .ok (.goto (-111), 3) := by decide +kernel
theorem dX11_tried_239 : decode cX11_tried 239 = .ok (.aload_n 0, 1) := by decide +kernel
theorem dX11_tried_240 : decode cX11_tried 240 = .ok (.getfield 7, 3) := by decide +kernel
theorem dX11_tried_243 : decode cX11_tried 243 = .ok (.bipush 100, 2) := by decide +kernel
theorem dX11_tried_245 : decode cX11_tried 245 = .ok (.iload_n 1, 1) := by decide +kernel
theorem dX11_tried_246 : decode cX11_tried 246 = .ok (.iadd, 1) := by decide +kernel
theorem dX11_tried_247 : decode cX11_tried 247 = .ok (.iaload, 1) := by decide +kernel
theorem dX11_tried_248 : decode cX11_tried 248 = .ok (.ifCond .ge 7, 3) := by decide +kernel
theorem dX11_tried_251 : decode cX11_tried 251 = .ok (.iconst (-1), 1) := by decide +kernel
theorem dX11_tried_252 : decode cX11_tried 252 = .ok (.goto 4, 3) := by decide +kernel
theorem dX11_tried_255 : decode cX11_tried 255 = .ok (.iconst 1, 1) := by decide +kernel
theorem dX11_tried_256 : decode cX11_tried 256 = .ok (.ireturn, 1) := by decide +kernel
theorem dX11_lacks_0 : decode cX11_lacks 0 = .ok (.iload_n 1, 1) := by decide +kernel
theorem dX11_lacks_1 : decode cX11_lacks 1 = .ok (.iconst (-1), 1) := by decide +kernel
theorem dX11_lacks_2 : decode cX11_lacks 2 = .ok (.if_icmp .ne 11, 3) := by decide +kernel
theorem dX11_lacks_5 : decode cX11_lacks 5 = .ok (.aload_n 0, 1) := by decide +kernel
theorem dX11_lacks_6 : decode cX11_lacks 6 = .ok (.iconst 1, 1) := by decide +kernel
theorem dX11_lacks_7 : decode cX11_lacks 7 = .ok (.invokevirtual 80, 3) := by decide +kernel
theorem dX11_lacks_10 : decode cX11_lacks 10 = .ok (.goto 8, 3) := by decide +kernel
theorem dX11_lacks_13 : decode cX11_lacks 13 = .ok (.aload_n 0, 1) := by decide +kernel
theorem dX11_lacks_14 : decode cX11_lacks 14 = .ok (.iconst 2, 1) := by decide +kernel
theorem dX11_lacks_15 : decode cX11_lacks 15 = .ok (.invokevirtual 80, 3) := by decide +kernel
theorem dX11_lacks_18 : decode cX11_lacks 18 = .ok (.ireturn, 1) := by decide +kernel
theorem dX11_turnOne_0 : decode cX11_turnOne 0 = .ok (.aload_n 0, 1) := by decide +kernel
theorem dX11_turnOne_1 : decode cX11_turnOne 1 = .ok (.iconst 0, 1) := by decide +kernel
theorem dX11_turnOne_2 : decode cX11_turnOne 2 = .ok (.putfield 103, 3) := by decide +kernel
theorem dX11_turnOne_5 : decode cX11_turnOne 5 = .ok (.aload_n 0, 1) := by decide +kernel
theorem dX11_turnOne_6 : decode cX11_turnOne 6 = .ok (.iconst (-1), 1) := by decide +kernel
theorem dX11_turnOne_7 : decode cX11_turnOne 7 = .ok (.putfield 20, 3) := by decide +kernel
theorem dX11_turnOne_10 : decode cX11_turnOne 10 = .ok (.aload_n 0, 1) := by decide +kernel
theorem dX11_turnOne_11 : decode cX11_turnOne 11 = .ok (.iload_n 2, 1) := by decide +kernel
theorem dX11_turnOne_12 : decode cX11_turnOne 12 = .ok (.iload_n 1, 1) := by decide +kernel
theorem dX11_turnOne_13 : decode cX11_turnOne 13 = .ok (.iconst 0, 1) := by decide +kernel
theorem dX11_turnOne_14 : decode cX11_turnOne 14 = .ok (.iconst 1, 1) := by decide +kernel
theorem dX11_turnOne_15 : decode cX11_turnOne 15 = .ok (.invokevirtual 128, 3) := by decide +kernel
theorem dX11_turnOne_18 : decode cX11_turnOne 18 = .ok (.istore_n 3, 1) := by decide +kernel
theorem dX11_turnOne_19 : decode cX11_turnOne 19 = .ok (.aload_n 0, 1) := by decide +kernel
theorem dX11_turnOne_20 : decode cX11_turnOne 20 = .ok (.aload_n 0, 1) := by decide +kernel
theorem dX11_turnOne_21 : decode cX11_turnOne 21 = .ok (.getfield 20, 3) := by decide +kernel
theorem dX11_turnOne_24 : decode cX11_turnOne 24 = .ok (.putfield 16, 3) := by decide +kernel
theorem dX11_turnOne_27 : decode cX11_turnOne 27 = .ok (.iload_n 3, 1) := by decide +kernel
theorem dX11_turnOne_28 : decode cX11_turnOne 28 = .ok (.ifCond .ge 11, 3) := by decide +kernel
theorem dX11_turnOne_31 : decode cX11_turnOne 31 = .ok (.aload_n 0, 1) := by decide +kernel
theorem dX11_turnOne_32 : decode cX11_turnOne 32 = .ok (.iload_n 3, 1) := by decide +kernel
theorem dX11_turnOne_33 : decode cX11_turnOne 33 = .ok (.invokevirtual 132, 3) := by decide +kernel
theorem dX11_turnOne_36 : decode cX11_turnOne 36 = .ok (.goto 8, 3) := by decide +kernel
theorem dX11_turnOne_39 : decode cX11_turnOne 39 = .ok (.aload_n 0, 1) := by decide +kernel
theorem dX11_turnOne_40 : decode cX11_turnOne 40 = .ok (.iload_n 3, 1) := by decide +kernel
theorem dX11_turnOne_41 : decode cX11_turnOne 41 = .ok (.invokevirtual 74, 3) := by decide +kernel
theorem dX11_turnOne_44 : decode cX11_turnOne 44 = .ok (.ireturn, 1) := by decide +kernel
theorem dX11_turn_0 : decode cX11_turn 0 = .ok (.aload_n 0, 1) := by decide +kernel
theorem dX11_turn_1 : decode cX11_turn 1 = .ok (.iload_n 1, 1) := by decide +kernel
theorem dX11_turn_2 : decode cX11_turn 2 = .ok (.invokevirtual 125, 3) := by decide +kernel
theorem dX11_turn_5 : decode cX11_turn 5 = .ok (.ifCond .eq 20, 3) := by decide +kernel
theorem dX11_turn_8 : decode cX11_turn 8 = .ok (.aload_n 0, 1) := by decide +kernel
theorem dX11_turn_9 : decode cX11_turn 9 = .ok (.iload_n 2, 1) := by decide +kernel
theorem dX11_turn_10 : decode cX11_turn 10 = .ok (.invokevirtual 87, 3) := by decide +kernel
theorem dX11_turn_13 : decode cX11_turn 13 = .ok (.ifCond .eq 12, 3) := by decide +kernel
theorem dX11_turn_16 : decode cX11_turn 16 = .ok (.aload_n 0, 1) := by decide +kernel
theorem dX11_turn_17 : decode cX11_turn 17 = .ok (.iload_n 1, 1) := by decide +kernel
theorem dX11_turn_18 : decode cX11_turn 18 = .ok (.iload_n 2, 1) := by decide +kernel
theorem dX11_turn_19 : decode cX11_turn 19 = .ok (.invokevirtual 135, 3) := by decide +kernel
theorem dX11_turn_22 : decode cX11_turn 22 = .ok (.goto 5, 3) := by decide +kernel
theorem dX11_turn_25 : decode cX11_turn 25 = .ok (.bipush (-2), 2) := by decide +kernel
theorem dX11_turn_27 : decode cX11_turn 27 = .ok (.ireturn, 1) := by decide +kernel
theorem dX11_opens_0 : decode cX11_opens 0 = .ok (.aload_n 0, 1) := by decide +kernel
theorem dX11_opens_1 : decode cX11_opens 1 = .ok (.iload_n 1, 1) := by decide +kernel
theorem dX11_opens_2 : decode cX11_opens 2 = .ok (.invokevirtual 125, 3) := by decide +kernel
theorem dX11_opens_5 : decode cX11_opens 5 = .ok (.ifCond .eq 29, 3) := by decide +kernel
theorem dX11_opens_8 : decode cX11_opens 8 = .ok (.aload_n 0, 1) := by decide +kernel
theorem dX11_opens_9 : decode cX11_opens 9 = .ok (.iload_n 2, 1) := by decide +kernel
theorem dX11_opens_10 : decode cX11_opens 10 = .ok (.invokevirtual 138, 3) := by decide +kernel
theorem dX11_opens_13 : decode cX11_opens 13 = .ok (.ifCond .eq 21, 3) := by decide +kernel
theorem dX11_opens_16 : decode cX11_opens 16 = .ok (.aload_n 0, 1) := by decide +kernel
theorem dX11_opens_17 : decode cX11_opens 17 = .ok (.iload_n 1, 1) := by decide +kernel
theorem dX11_opens_18 : decode cX11_opens 18 = .ok (.aload_n 0, 1) := by decide +kernel
theorem dX11_opens_19 : decode cX11_opens 19 = .ok (.getfield 7, 3) := by decide +kernel
theorem dX11_opens_22 : decode cX11_opens 22 = .ok (.sipush 4464, 3) := by decide +kernel
theorem dX11_opens_25 : decode cX11_opens 25 = .ok (.iload_n 2, 1) := by decide +kernel
theorem dX11_opens_26 : decode cX11_opens 26 = .ok (.iadd, 1) := by decide +kernel
theorem dX11_opens_27 : decode cX11_opens 27 = .ok (.iaload, 1) := by decide +kernel
theorem dX11_opens_28 : decode cX11_opens 28 = .ok (.invokevirtual 135, 3) := by decide +kernel
theorem dX11_opens_31 : decode cX11_opens 31 = .ok (.goto 5, 3) := by decide +kernel
theorem dX11_opens_34 : decode cX11_opens 34 = .ok (.bipush (-2), 2) := by decide +kernel
theorem dX11_opens_36 : decode cX11_opens 36 = .ok (.ireturn, 1) := by decide +kernel
theorem dX11_turnAll_0 : decode cX11_turnAll 0 = .ok (.iload_n 1, 1) := by decide +kernel
theorem dX11_turnAll_1 : decode cX11_turnAll 1 = .ok (.i2l, 1) := by decide +kernel
theorem dX11_turnAll_2 : decode cX11_turnAll 2 = .ok (.lconst 0, 1) := by decide +kernel
theorem dX11_turnAll_3 : decode cX11_turnAll 3 = .ok (.aload_n 0, 1) := by decide +kernel
theorem dX11_turnAll_4 : decode cX11_turnAll 4 = .ok (.getfield 7, 3) := by decide +kernel
theorem dX11_turnAll_7 : decode cX11_turnAll 7 = .ok (.sipush 8524, 3) := by decide +kernel
theorem dX11_turnAll_10 : decode cX11_turnAll 10 = .ok (.iaload, 1) := by decide +kernel
theorem dX11_turnAll_11 : decode cX11_turnAll 11 = .ok (.iconst 1, 1) := by decide +kernel
theorem dX11_turnAll_12 : decode cX11_turnAll 12 = .ok (.isub, 1) := by decide +kernel
theorem dX11_turnAll_13 : decode cX11_turnAll 13 = .ok (.i2l, 1) := by decide +kernel
theorem dX11_turnAll_14 : decode cX11_turnAll 14 = .ok (.invokestatic 67, 3) := by decide +kernel
theorem dX11_turnAll_17 : decode cX11_turnAll 17 = .ok (.ifCond .eq 11, 3) := by decide +kernel
theorem dX11_turnAll_20 : decode cX11_turnAll 20 = .ok (.aload_n 0, 1) := by decide +kernel
theorem dX11_turnAll_21 : decode cX11_turnAll 21 = .ok (.iload_n 2, 1) := by decide +kernel
theorem dX11_turnAll_22 : decode cX11_turnAll 22 = .ok (.invokevirtual 125, 3) := by decide +kernel
theorem dX11_turnAll_25 : decode cX11_turnAll 25 = .ok (.ifCond .ne 6, 3) := by decide +kernel
theorem dX11_turnAll_28 : decode cX11_turnAll 28 = .ok (.bipush (-2), 2) := by decide +kernel
theorem dX11_turnAll_30 : decode cX11_turnAll 30 = .ok (.ireturn, 1) := by decide +kernel
theorem dX11_turnAll_31 : decode cX11_turnAll 31 = .ok (.aload_n 0, 1) := by decide +kernel
theorem dX11_turnAll_32 : decode cX11_turnAll 32 = .ok (.iconst 0, 1) := by decide +kernel
theorem dX11_turnAll_33 : decode cX11_turnAll 33 = .ok (.putfield 103, 3) := by decide +kernel
theorem dX11_turnAll_36 : decode cX11_turnAll 36 = .ok (.aload_n 0, 1) := by decide +kernel
theorem dX11_turnAll_37 : decode cX11_turnAll 37 = .ok (.iconst (-1), 1) := by decide +kernel
theorem dX11_turnAll_38 : decode cX11_turnAll 38 = .ok (.putfield 16, 3) := by decide +kernel
theorem dX11_turnAll_41 : decode cX11_turnAll 41 = .ok (.iconst 0, 1) := by decide +kernel
theorem dX11_turnAll_42 : decode cX11_turnAll 42 = .ok (.istore_n 3, 1) := by decide +kernel
theorem dX11_turnAll_43 : decode cX11_turnAll 43 = .ok (.iconst 0, 1) := by decide +kernel
theorem dX11_turnAll_44 : decode cX11_turnAll 44 = .ok (.istore 4, 2) := by decide +kernel
theorem dX11_turnAll_46 : decode cX11_turnAll 46 = .ok (.iload 4, 2) := by decide +kernel
theorem dX11_turnAll_48 : decode cX11_turnAll 48 = .ok (.aload_n 0, 1) := by decide +kernel
theorem dX11_turnAll_49 : decode cX11_turnAll 49 = .ok (.getfield 7, 3) := by decide +kernel
theorem dX11_turnAll_52 : decode cX11_turnAll 52 = .ok (.sipush 4212, 3) := by decide +kernel
theorem dX11_turnAll_55 : decode cX11_turnAll 55 = .ok (.iload_n 1, 1) := by decide +kernel
theorem dX11_turnAll_56 : decode cX11_turnAll 56 = .ok (.iadd, 1) := by decide +kernel
theorem dX11_turnAll_57 : decode cX11_turnAll 57 = .ok (.iaload, 1) := by decide +kernel
theorem dX11_turnAll_58 : decode cX11_turnAll 58 = .ok (.if_icmp .ge 73, 3) := by decide +kernel
theorem dX11_turnAll_61 : decode cX11_turnAll 61 = .ok (.aload_n 0, 1) := by decide +kernel
theorem dX11_turnAll_62 : decode cX11_turnAll 62 = .ok (.iconst (-1), 1) := by decide +kernel
theorem dX11_turnAll_63 : decode cX11_turnAll 63 = .ok (.putfield 20, 3) := by decide +kernel
theorem dX11_turnAll_66 : decode cX11_turnAll 66 = .ok (.aload_n 0, 1) := by decide +kernel
theorem dX11_turnAll_67 : decode cX11_turnAll 67 = .ok (.aload_n 0, 1) := by decide +kernel
theorem dX11_turnAll_68 : decode cX11_turnAll 68 = .ok (.getfield 7, 3) := by decide +kernel
theorem dX11_turnAll_71 : decode cX11_turnAll 71 = .ok (.sipush 4224, 3) := by decide +kernel
theorem dX11_turnAll_74 : decode cX11_turnAll 74 = .ok (.bipush 20, 2) := by decide +kernel
theorem dX11_turnAll_76 : decode cX11_turnAll 76 = .ok (.iload_n 1, 1) := by decide +kernel
theorem dX11_turnAll_77 : decode cX11_turnAll 77 = .ok (.imul, 1) := by decide +kernel
theorem dX11_turnAll_78 : decode cX11_turnAll 78 = .ok (.iadd, 1) := by decide +kernel
theorem dX11_turnAll_79 : decode cX11_turnAll 79 = .ok (.iload 4, 2) := by decide +kernel
theorem dX11_turnAll_81 : decode cX11_turnAll 81 = .ok (.iadd, 1) := by decide +kernel
theorem dX11_turnAll_82 : decode cX11_turnAll 82 = .ok (.iaload, 1) := by decide +kernel
theorem dX11_turnAll_83 : decode cX11_turnAll 83 = .ok (.iload_n 2, 1) := by decide +kernel
theorem dX11_turnAll_84 : decode cX11_turnAll 84 = .ok (.iconst 0, 1) := by decide +kernel
theorem dX11_turnAll_85 : decode cX11_turnAll 85 = .ok (.iconst 1, 1) := by decide +kernel
theorem dX11_turnAll_86 : decode cX11_turnAll 86 = .ok (.invokevirtual 128, 3) := by decide +kernel
theorem dX11_turnAll_89 : decode cX11_turnAll 89 = .ok (.istore 5, 2) := by decide +kernel
theorem dX11_turnAll_91 : decode cX11_turnAll 91 = .ok (.aload_n 0, 1) := by decide +kernel
theorem dX11_turnAll_92 : decode cX11_turnAll 92 = .ok (.aload_n 0, 1) := by decide +kernel
theorem dX11_turnAll_93 : decode cX11_turnAll 93 = .ok (.getfield 20, 3) := by decide +kernel
theorem dX11_turnAll_96 : decode cX11_turnAll 96 = .ok (.putfield 16, 3) := by decide +kernel
theorem dX11_turnAll_99 : decode cX11_turnAll 99 = .ok (.iload 5, 2) := by decide +kernel
theorem dX11_turnAll_101 : decode cX11_turnAll 101 = .ok (.ifCond .ge 10, 3) := by decide +kernel
theorem dX11_turnAll_104 : decode cX11_turnAll 104 = .ok (.aload_n 0, 1) := by decide +kernel
theorem dX11_turnAll_105 : decode cX11_turnAll 105 = .ok (.iload 5, 2) := by decide +kernel
theorem dX11_turnAll_107 : decode cX11_turnAll 107 = .ok (.invokevirtual 132, 3) := by decide +kernel
theorem dX11_turnAll_110 : decode cX11_turnAll 110 = .ok (.ireturn, 1) := by decide +kernel
theorem dX11_turnAll_111 : decode cX11_turnAll 111 = .ok (.iload 5, 2) := by decide +kernel
theorem dX11_turnAll_113 : decode cX11_turnAll 113 = .ok (.ifCond .ne 9, 3) := by decide +kernel
theorem dX11_turnAll_116 : decode cX11_turnAll 116 = .ok (.aload_n 0, 1) := by decide +kernel
theorem dX11_turnAll_117 : decode cX11_turnAll 117 = .ok (.iload_n 3, 1) := by decide +kernel
theorem dX11_turnAll_118 : decode cX11_turnAll 118 = .ok (.invokevirtual 74, 3) := by decide +kernel
theorem dX11_turnAll_121 : decode cX11_turnAll 121 = .ok (.ireturn, 1) := by decide +kernel
theorem dX11_turnAll_122 : decode cX11_turnAll 122 = .ok (.iinc 3 1, 3) := by decide +kernel
theorem dX11_turnAll_125 : decode cX11_turnAll 125 = .ok (.iinc 4 1, 3) := by decide +kernel
theorem dX11_turnAll_128 : decode cX11_turnAll 128 = .ok (.goto (-82), 3) := by decide +kernel
theorem dX11_turnAll_131 : decode cX11_turnAll 131 = .ok (.aload_n 0, 1) := by decide +kernel
theorem dX11_turnAll_132 : decode cX11_turnAll 132 = .ok (.iload_n 3, 1) := by decide +kernel
theorem dX11_turnAll_133 : decode cX11_turnAll 133 = .ok (.invokevirtual 74, 3) := by decide +kernel
theorem dX11_turnAll_136 : decode cX11_turnAll 136 = .ok (.ireturn, 1) := by decide +kernel
theorem dX11_at_0 : decode cX11_at 0 = .ok (.aload_n 0, 1) := by decide +kernel
theorem dX11_at_1 : decode cX11_at 1 = .ok (.getfield 16, 3) := by decide +kernel
theorem dX11_at_4 : decode cX11_at 4 = .ok (.ireturn, 1) := by decide +kernel
theorem dX11_would_0 : decode cX11_would 0 = .ok (.aload_n 0, 1) := by decide +kernel
theorem dX11_would_1 : decode cX11_would 1 = .ok (.aload_n 0, 1) := by decide +kernel
theorem dX11_would_2 : decode cX11_would 2 = .ok (.getfield 7, 3) := by decide +kernel
theorem dX11_would_5 : decode cX11_would 5 = .ok (.sipush 4464, 3) := by decide +kernel
theorem dX11_would_8 : decode cX11_would 8 = .ok (.iload_n 2, 1) := by decide +kernel
theorem dX11_would_9 : decode cX11_would 9 = .ok (.iadd, 1) := by decide +kernel
theorem dX11_would_10 : decode cX11_would 10 = .ok (.iaload, 1) := by decide +kernel
theorem dX11_would_11 : decode cX11_would 11 = .ok (.iload_n 1, 1) := by decide +kernel
theorem dX11_would_12 : decode cX11_would 12 = .ok (.iconst 0, 1) := by decide +kernel
theorem dX11_would_13 : decode cX11_would 13 = .ok (.iconst 0, 1) := by decide +kernel
theorem dX11_would_14 : decode cX11_would 14 = .ok (.invokevirtual 128, 3) := by decide +kernel
theorem dX11_would_17 : decode cX11_would 17 = .ok (.iconst 1, 1) := by decide +kernel
theorem dX11_would_18 : decode cX11_would 18 = .ok (.if_icmp .ne 7, 3) := by decide +kernel
theorem dX11_would_21 : decode cX11_would 21 = .ok (.iconst 1, 1) := by decide +kernel
theorem dX11_would_22 : decode cX11_would 22 = .ok (.goto 4, 3) := by decide +kernel
theorem dX11_would_25 : decode cX11_would 25 = .ok (.iconst 0, 1) := by decide +kernel
theorem dX11_would_26 : decode cX11_would 26 = .ok (.ireturn, 1) := by decide +kernel
theorem dX11_cabinet_0 : decode cX11_cabinet 0 = .ok (.iload_n 1, 1) := by decide +kernel
theorem dX11_cabinet_1 : decode cX11_cabinet 1 = .ok (.i2l, 1) := by decide +kernel
theorem dX11_cabinet_2 : decode cX11_cabinet 2 = .ok (.lconst 0, 1) := by decide +kernel
theorem dX11_cabinet_3 : decode cX11_cabinet 3 = .ok (.ldc2_w 141, 3) := by decide +kernel
theorem dX11_cabinet_6 : decode cX11_cabinet 6 = .ok (.invokestatic 67, 3) := by decide +kernel
theorem dX11_cabinet_9 : decode cX11_cabinet 9 = .ok (.ifCond .eq 9, 3) := by decide +kernel
theorem dX11_cabinet_12 : decode cX11_cabinet 12 = .ok (.iload_n 2, 1) := by decide +kernel
theorem dX11_cabinet_13 : decode cX11_cabinet 13 = .ok (.bipush 20, 2) := by decide +kernel
theorem dX11_cabinet_15 : decode cX11_cabinet 15 = .ok (.if_icmp .le 6, 3) := by decide +kernel
theorem dX11_cabinet_18 : decode cX11_cabinet 18 = .ok (.bipush (-2), 2) := by decide +kernel
theorem dX11_cabinet_20 : decode cX11_cabinet 20 = .ok (.ireturn, 1) := by decide +kernel
theorem dX11_cabinet_21 : decode cX11_cabinet 21 = .ok (.aload_n 0, 1) := by decide +kernel
theorem dX11_cabinet_22 : decode cX11_cabinet 22 = .ok (.getfield 7, 3) := by decide +kernel
theorem dX11_cabinet_25 : decode cX11_cabinet 25 = .ok (.sipush 8524, 3) := by decide +kernel
theorem dX11_cabinet_28 : decode cX11_cabinet 28 = .ok (.iaload, 1) := by decide +kernel
theorem dX11_cabinet_29 : decode cX11_cabinet 29 = .ok (.bipush 12, 2) := by decide +kernel
theorem dX11_cabinet_31 : decode cX11_cabinet 31 = .ok (.if_icmp .ne 6, 3) := by decide +kernel
theorem dX11_cabinet_34 : decode cX11_cabinet 34 = .ok (.bipush (-4), 2) := by decide +kernel
theorem dX11_cabinet_36 : decode cX11_cabinet 36 = .ok (.ireturn, 1) := by decide +kernel
theorem dX11_cabinet_37 : decode cX11_cabinet 37 = .ok (.iload_n 2, 1) := by decide +kernel
theorem dX11_cabinet_38 : decode cX11_cabinet 38 = .ok (.ifCond .ge 9, 3) := by decide +kernel
theorem dX11_cabinet_41 : decode cX11_cabinet 41 = .ok (.aload_n 0, 1) := by decide +kernel
theorem dX11_cabinet_42 : decode cX11_cabinet 42 = .ok (.iconst 5, 1) := by decide +kernel
theorem dX11_cabinet_43 : decode cX11_cabinet 43 = .ok (.invokevirtual 80, 3) := by decide +kernel
theorem dX11_cabinet_46 : decode cX11_cabinet 46 = .ok (.ireturn, 1) := by decide +kernel
theorem dX11_cabinet_47 : decode cX11_cabinet 47 = .ok (.aload_n 0, 1) := by decide +kernel
theorem dX11_cabinet_48 : decode cX11_cabinet 48 = .ok (.invokevirtual 71, 3) := by decide +kernel
theorem dX11_cabinet_51 : decode cX11_cabinet 51 = .ok (.aload_n 0, 1) := by decide +kernel
theorem dX11_cabinet_52 : decode cX11_cabinet 52 = .ok (.getfield 7, 3) := by decide +kernel
theorem dX11_cabinet_55 : decode cX11_cabinet 55 = .ok (.sipush 8524, 3) := by decide +kernel
theorem dX11_cabinet_58 : decode cX11_cabinet 58 = .ok (.iaload, 1) := by decide +kernel
theorem dX11_cabinet_59 : decode cX11_cabinet 59 = .ok (.istore_n 3, 1) := by decide +kernel
theorem dX11_cabinet_60 : decode cX11_cabinet 60 = .ok (.aload_n 0, 1) := by decide +kernel
theorem dX11_cabinet_61 : decode cX11_cabinet 61 = .ok (.getfield 7, 3) := by decide +kernel
theorem dX11_cabinet_64 : decode cX11_cabinet 64 = .ok (.sipush 8524, 3) := by decide +kernel
theorem dX11_cabinet_67 : decode cX11_cabinet 67 = .ok (.iload_n 3, 1) := by decide +kernel
theorem dX11_cabinet_68 : decode cX11_cabinet 68 = .ok (.iconst 1, 1) := by decide +kernel
theorem dX11_cabinet_69 : decode cX11_cabinet 69 = .ok (.iadd, 1) := by decide +kernel
theorem dX11_cabinet_70 : decode cX11_cabinet 70 = .ok (.iastore, 1) := by decide +kernel
theorem dX11_cabinet_71 : decode cX11_cabinet 71 = .ok (.aload_n 0, 1) := by decide +kernel
theorem dX11_cabinet_72 : decode cX11_cabinet 72 = .ok (.getfield 7, 3) := by decide +kernel
theorem dX11_cabinet_75 : decode cX11_cabinet 75 = .ok (.sipush 4200, 3) := by decide +kernel
theorem dX11_cabinet_78 : decode cX11_cabinet 78 = .ok (.iload_n 3, 1) := by decide +kernel
theorem dX11_cabinet_79 : decode cX11_cabinet 79 = .ok (.iadd, 1) := by decide +kernel
theorem dX11_cabinet_80 : decode cX11_cabinet 80 = .ok (.iload_n 1, 1) := by decide +kernel
theorem dX11_cabinet_81 : decode cX11_cabinet 81 = .ok (.iastore, 1) := by decide +kernel
theorem dX11_cabinet_82 : decode cX11_cabinet 82 = .ok (.aload_n 0, 1) := by decide +kernel
theorem dX11_cabinet_83 : decode cX11_cabinet 83 = .ok (.getfield 7, 3) := by decide +kernel
theorem dX11_cabinet_86 : decode cX11_cabinet 86 = .ok (.sipush 4212, 3) := by decide +kernel
theorem dX11_cabinet_89 : decode cX11_cabinet 89 = .ok (.iload_n 3, 1) := by decide +kernel
theorem dX11_cabinet_90 : decode cX11_cabinet 90 = .ok (.iadd, 1) := by decide +kernel
theorem dX11_cabinet_91 : decode cX11_cabinet 91 = .ok (.iload_n 2, 1) := by decide +kernel
theorem dX11_cabinet_92 : decode cX11_cabinet 92 = .ok (.iastore, 1) := by decide +kernel
theorem dX11_cabinet_93 : decode cX11_cabinet 93 = .ok (.iconst 0, 1) := by decide +kernel
theorem dX11_cabinet_94 : decode cX11_cabinet 94 = .ok (.istore 4, 2) := by decide +kernel
theorem dX11_cabinet_96 : decode cX11_cabinet 96 = .ok (.iload 4, 2) := by decide +kernel
theorem dX11_cabinet_98 : decode cX11_cabinet 98 = .ok (.bipush 20, 2) := by decide +kernel
theorem dX11_cabinet_100 : decode cX11_cabinet 100 = .ok (.if_icmp .ge 26, 3) := by decide +kernel
theorem dX11_cabinet_103 : decode cX11_cabinet 103 = .ok (.aload_n 0, 1) := by decide +kernel
theorem dX11_cabinet_104 : decode cX11_cabinet 104 = .ok (.getfield 7, 3) := by decide +kernel
theorem dX11_cabinet_107 : decode cX11_cabinet 107 = .ok (.sipush 4224, 3) := by decide +kernel
theorem dX11_cabinet_110 : decode cX11_cabinet 110 = .ok (.bipush 20, 2) := by decide +kernel
theorem dX11_cabinet_112 : decode cX11_cabinet 112 = .ok (.iload_n 3, 1) := by decide +kernel
theorem dX11_cabinet_113 : decode cX11_cabinet 113 = .ok (.imul, 1) := by decide +kernel
theorem dX11_cabinet_114 : decode cX11_cabinet 114 = .ok (.iadd, 1) := by decide +kernel
theorem dX11_cabinet_115 : decode cX11_cabinet 115 = .ok (.iload 4, 2) := by decide +kernel
theorem dX11_cabinet_117 : decode cX11_cabinet 117 = .ok (.iadd, 1) := by decide +kernel
theorem dX11_cabinet_118 : decode cX11_cabinet 118 = .ok (.iconst (-1), 1) := by decide +kernel
theorem dX11_cabinet_119 : decode cX11_cabinet 119 = .ok (.iastore, 1) := by decide +kernel
theorem dX11_cabinet_120 : decode cX11_cabinet 120 = .ok (.iinc 4 1, 3) := by decide +kernel
theorem dX11_cabinet_123 : decode cX11_cabinet 123 = .ok (.goto (-27), 3) := by decide +kernel
theorem dX11_cabinet_126 : decode cX11_cabinet 126 = .ok (.aload_n 0, 1) := by decide +kernel
theorem dX11_cabinet_127 : decode cX11_cabinet 127 = .ok (.iload_n 3, 1) := by decide +kernel
theorem dX11_cabinet_128 : decode cX11_cabinet 128 = .ok (.invokevirtual 74, 3) := by decide +kernel
theorem dX11_cabinet_131 : decode cX11_cabinet 131 = .ok (.ireturn, 1) := by decide +kernel
theorem dX11_is_0 : decode cX11_is 0 = .ok (.iload_n 0, 1) := by decide +kernel
theorem dX11_is_1 : decode cX11_is 1 = .ok (.iload_n 1, 1) := by decide +kernel
theorem dX11_is_2 : decode cX11_is 2 = .ok (.if_icmp .eq 22, 3) := by decide +kernel
theorem dX11_is_5 : decode cX11_is 5 = .ok (.iload_n 1, 1) := by decide +kernel
theorem dX11_is_6 : decode cX11_is 6 = .ok (.ifCond .ne 8, 3) := by decide +kernel
theorem dX11_is_9 : decode cX11_is 9 = .ok (.iload_n 0, 1) := by decide +kernel
theorem dX11_is_10 : decode cX11_is 10 = .ok (.iconst 4, 1) := by decide +kernel
theorem dX11_is_11 : decode cX11_is 11 = .ok (.if_icmp .ne 13, 3) := by decide +kernel
theorem dX11_is_14 : decode cX11_is 14 = .ok (.iload_n 1, 1) := by decide +kernel
theorem dX11_is_15 : decode cX11_is 15 = .ok (.iconst 1, 1) := by decide +kernel
theorem dX11_is_16 : decode cX11_is 16 = .ok (.if_icmp .ne 12, 3) := by decide +kernel
theorem dX11_is_19 : decode cX11_is 19 = .ok (.iload_n 0, 1) := by decide +kernel
theorem dX11_is_20 : decode cX11_is 20 = .ok (.iconst 2, 1) := by decide +kernel
theorem dX11_is_21 : decode cX11_is 21 = .ok (.if_icmp .ne 7, 3) := by decide +kernel
theorem dX11_is_24 : decode cX11_is 24 = .ok (.iconst 1, 1) := by decide +kernel
theorem dX11_is_25 : decode cX11_is 25 = .ok (.goto 4, 3) := by decide +kernel
theorem dX11_is_28 : decode cX11_is 28 = .ok (.iconst 0, 1) := by decide +kernel
theorem dX11_is_29 : decode cX11_is 29 = .ok (.ireturn, 1) := by decide +kernel
theorem dX11_put_0 : decode cX11_put 0 = .ok (.iload_n 1, 1) := by decide +kernel
theorem dX11_put_1 : decode cX11_put 1 = .ok (.i2l, 1) := by decide +kernel
theorem dX11_put_2 : decode cX11_put 2 = .ok (.lconst 0, 1) := by decide +kernel
theorem dX11_put_3 : decode cX11_put 3 = .ok (.aload_n 0, 1) := by decide +kernel
theorem dX11_put_4 : decode cX11_put 4 = .ok (.getfield 7, 3) := by decide +kernel
theorem dX11_put_7 : decode cX11_put 7 = .ok (.sipush 8524, 3) := by decide +kernel
theorem dX11_put_10 : decode cX11_put 10 = .ok (.iaload, 1) := by decide +kernel
theorem dX11_put_11 : decode cX11_put 11 = .ok (.iconst 1, 1) := by decide +kernel
theorem dX11_put_12 : decode cX11_put 12 = .ok (.isub, 1) := by decide +kernel
theorem dX11_put_13 : decode cX11_put 13 = .ok (.i2l, 1) := by decide +kernel
theorem dX11_put_14 : decode cX11_put 14 = .ok (.invokestatic 67, 3) := by decide +kernel
theorem dX11_put_17 : decode cX11_put 17 = .ok (.ifCond .eq 16, 3) := by decide +kernel
theorem dX11_put_20 : decode cX11_put 20 = .ok (.iload_n 3, 1) := by decide +kernel
theorem dX11_put_21 : decode cX11_put 21 = .ok (.iconst (-1), 1) := by decide +kernel
theorem dX11_put_22 : decode cX11_put 22 = .ok (.if_icmp .eq 14, 3) := by decide +kernel
theorem dX11_put_25 : decode cX11_put 25 = .ok (.aload_n 0, 1) := by decide +kernel
theorem dX11_put_26 : decode cX11_put 26 = .ok (.iload_n 3, 1) := by decide +kernel
theorem dX11_put_27 : decode cX11_put 27 = .ok (.invokevirtual 87, 3) := by decide +kernel
theorem dX11_put_30 : decode cX11_put 30 = .ok (.ifCond .ne 6, 3) := by decide +kernel
theorem dX11_put_33 : decode cX11_put 33 = .ok (.bipush (-2), 2) := by decide +kernel
theorem dX11_put_35 : decode cX11_put 35 = .ok (.ireturn, 1) := by decide +kernel
theorem dX11_put_36 : decode cX11_put 36 = .ok (.iload_n 2, 1) := by decide +kernel
theorem dX11_put_37 : decode cX11_put 37 = .ok (.i2l, 1) := by decide +kernel
theorem dX11_put_38 : decode cX11_put 38 = .ok (.lconst 0, 1) := by decide +kernel
theorem dX11_put_39 : decode cX11_put 39 = .ok (.aload_n 0, 1) := by decide +kernel
theorem dX11_put_40 : decode cX11_put 40 = .ok (.getfield 7, 3) := by decide +kernel
theorem dX11_put_43 : decode cX11_put 43 = .ok (.sipush 4212, 3) := by decide +kernel
theorem dX11_put_46 : decode cX11_put 46 = .ok (.iload_n 1, 1) := by decide +kernel
theorem dX11_put_47 : decode cX11_put 47 = .ok (.iadd, 1) := by decide +kernel
theorem dX11_put_48 : decode cX11_put 48 = .ok (.iaload, 1) := by decide +kernel
theorem dX11_put_49 : decode cX11_put 49 = .ok (.iconst 1, 1) := by decide +kernel
theorem dX11_put_50 : decode cX11_put 50 = .ok (.isub, 1) := by decide +kernel
theorem dX11_put_51 : decode cX11_put 51 = .ok (.i2l, 1) := by decide +kernel
theorem dX11_put_52 : decode cX11_put 52 = .ok (.invokestatic 67, 3) := by decide +kernel
theorem dX11_put_55 : decode cX11_put 55 = .ok (.ifCond .ne 9, 3) := by decide +kernel
theorem dX11_put_58 : decode cX11_put 58 = .ok (.aload_n 0, 1) := by decide +kernel
theorem dX11_put_59 : decode cX11_put 59 = .ok (.iconst 2, 1) := by decide +kernel
theorem dX11_put_60 : decode cX11_put 60 = .ok (.invokevirtual 80, 3) := by decide +kernel
theorem dX11_put_63 : decode cX11_put 63 = .ok (.ireturn, 1) := by decide +kernel
theorem dX11_put_64 : decode cX11_put 64 = .ok (.iload_n 3, 1) := by decide +kernel
theorem dX11_put_65 : decode cX11_put 65 = .ok (.iconst (-1), 1) := by decide +kernel
theorem dX11_put_66 : decode cX11_put 66 = .ok (.if_icmp .eq 33, 3) := by decide +kernel
theorem dX11_put_69 : decode cX11_put 69 = .ok (.aload_n 0, 1) := by decide +kernel
theorem dX11_put_70 : decode cX11_put 70 = .ok (.getfield 7, 3) := by decide +kernel
theorem dX11_put_73 : decode cX11_put 73 = .ok (.iconst 0, 1) := by decide +kernel
theorem dX11_put_74 : decode cX11_put 74 = .ok (.iload_n 3, 1) := by decide +kernel
theorem dX11_put_75 : decode cX11_put 75 = .ok (.iadd, 1) := by decide +kernel
theorem dX11_put_76 : decode cX11_put 76 = .ok (.iaload, 1) := by decide +kernel
theorem dX11_put_77 : decode cX11_put 77 = .ok (.aload_n 0, 1) := by decide +kernel
theorem dX11_put_78 : decode cX11_put 78 = .ok (.getfield 7, 3) := by decide +kernel
theorem dX11_put_81 : decode cX11_put 81 = .ok (.sipush 4200, 3) := by decide +kernel
theorem dX11_put_84 : decode cX11_put 84 = .ok (.iload_n 1, 1) := by decide +kernel
theorem dX11_put_85 : decode cX11_put 85 = .ok (.iadd, 1) := by decide +kernel
theorem dX11_put_86 : decode cX11_put 86 = .ok (.iaload, 1) := by decide +kernel
theorem dX11_put_87 : decode cX11_put 87 = .ok (.invokestatic 143, 3) := by decide +kernel
theorem dX11_put_90 : decode cX11_put 90 = .ok (.ifCond .ne 9, 3) := by decide +kernel
theorem dX11_put_93 : decode cX11_put 93 = .ok (.aload_n 0, 1) := by decide +kernel
theorem dX11_put_94 : decode cX11_put 94 = .ok (.iconst 4, 1) := by decide +kernel
theorem dX11_put_95 : decode cX11_put 95 = .ok (.invokevirtual 80, 3) := by decide +kernel
theorem dX11_put_98 : decode cX11_put 98 = .ok (.ireturn, 1) := by decide +kernel
theorem dX11_put_99 : decode cX11_put 99 = .ok (.aload_n 0, 1) := by decide +kernel
theorem dX11_put_100 : decode cX11_put 100 = .ok (.invokevirtual 71, 3) := by decide +kernel
theorem dX11_put_103 : decode cX11_put 103 = .ok (.aload_n 0, 1) := by decide +kernel
theorem dX11_put_104 : decode cX11_put 104 = .ok (.getfield 7, 3) := by decide +kernel
theorem dX11_put_107 : decode cX11_put 107 = .ok (.sipush 4224, 3) := by decide +kernel
theorem dX11_put_110 : decode cX11_put 110 = .ok (.bipush 20, 2) := by decide +kernel
theorem dX11_put_112 : decode cX11_put 112 = .ok (.iload_n 1, 1) := by decide +kernel
theorem dX11_put_113 : decode cX11_put 113 = .ok (.imul, 1) := by decide +kernel
theorem dX11_put_114 : decode cX11_put 114 = .ok (.iadd, 1) := by decide +kernel
theorem dX11_put_115 : decode cX11_put 115 = .ok (.iload_n 2, 1) := by decide +kernel
theorem dX11_put_116 : decode cX11_put 116 = .ok (.iadd, 1) := by decide +kernel
theorem dX11_put_117 : decode cX11_put 117 = .ok (.iaload, 1) := by decide +kernel
theorem dX11_put_118 : decode cX11_put 118 = .ok (.istore 4, 2) := by decide +kernel
theorem dX11_put_120 : decode cX11_put 120 = .ok (.aload_n 0, 1) := by decide +kernel
theorem dX11_put_121 : decode cX11_put 121 = .ok (.getfield 7, 3) := by decide +kernel
theorem dX11_put_124 : decode cX11_put 124 = .ok (.sipush 4224, 3) := by decide +kernel
theorem dX11_put_127 : decode cX11_put 127 = .ok (.bipush 20, 2) := by decide +kernel
theorem dX11_put_129 : decode cX11_put 129 = .ok (.iload_n 1, 1) := by decide +kernel
theorem dX11_put_130 : decode cX11_put 130 = .ok (.imul, 1) := by decide +kernel
theorem dX11_put_131 : decode cX11_put 131 = .ok (.iadd, 1) := by decide +kernel
theorem dX11_put_132 : decode cX11_put 132 = .ok (.iload_n 2, 1) := by decide +kernel
theorem dX11_put_133 : decode cX11_put 133 = .ok (.iadd, 1) := by decide +kernel
theorem dX11_put_134 : decode cX11_put 134 = .ok (.iload_n 3, 1) := by decide +kernel
theorem dX11_put_135 : decode cX11_put 135 = .ok (.iastore, 1) := by decide +kernel
theorem dX11_put_136 : decode cX11_put 136 = .ok (.aload_n 0, 1) := by decide +kernel
theorem dX11_put_137 : decode cX11_put 137 = .ok (.iload 4, 2) := by decide +kernel
theorem dX11_put_139 : decode cX11_put 139 = .ok (.invokevirtual 74, 3) := by decide +kernel
theorem dX11_put_142 : decode cX11_put 142 = .ok (.ireturn, 1) := by decide +kernel
theorem dX11_inside_0 : decode cX11_inside 0 = .ok (.iload_n 1, 1) := by decide +kernel
theorem dX11_inside_1 : decode cX11_inside 1 = .ok (.i2l, 1) := by decide +kernel
theorem dX11_inside_2 : decode cX11_inside 2 = .ok (.lconst 0, 1) := by decide +kernel
theorem dX11_inside_3 : decode cX11_inside 3 = .ok (.aload_n 0, 1) := by decide +kernel
theorem dX11_inside_4 : decode cX11_inside 4 = .ok (.getfield 7, 3) := by decide +kernel
theorem dX11_inside_7 : decode cX11_inside 7 = .ok (.sipush 8524, 3) := by decide +kernel
theorem dX11_inside_10 : decode cX11_inside 10 = .ok (.iaload, 1) := by decide +kernel
theorem dX11_inside_11 : decode cX11_inside 11 = .ok (.iconst 1, 1) := by decide +kernel
theorem dX11_inside_12 : decode cX11_inside 12 = .ok (.isub, 1) := by decide +kernel
theorem dX11_inside_13 : decode cX11_inside 13 = .ok (.i2l, 1) := by decide +kernel
theorem dX11_inside_14 : decode cX11_inside 14 = .ok (.invokestatic 67, 3) := by decide +kernel
theorem dX11_inside_17 : decode cX11_inside 17 = .ok (.ifCond .ne 6, 3) := by decide +kernel
theorem dX11_inside_20 : decode cX11_inside 20 = .ok (.bipush (-2), 2) := by decide +kernel
theorem dX11_inside_22 : decode cX11_inside 22 = .ok (.ireturn, 1) := by decide +kernel
theorem dX11_inside_23 : decode cX11_inside 23 = .ok (.iload_n 2, 1) := by decide +kernel
theorem dX11_inside_24 : decode cX11_inside 24 = .ok (.i2l, 1) := by decide +kernel
theorem dX11_inside_25 : decode cX11_inside 25 = .ok (.lconst 0, 1) := by decide +kernel
theorem dX11_inside_26 : decode cX11_inside 26 = .ok (.aload_n 0, 1) := by decide +kernel
theorem dX11_inside_27 : decode cX11_inside 27 = .ok (.getfield 7, 3) := by decide +kernel
theorem dX11_inside_30 : decode cX11_inside 30 = .ok (.sipush 4212, 3) := by decide +kernel
theorem dX11_inside_33 : decode cX11_inside 33 = .ok (.iload_n 1, 1) := by decide +kernel
theorem dX11_inside_34 : decode cX11_inside 34 = .ok (.iadd, 1) := by decide +kernel
theorem dX11_inside_35 : decode cX11_inside 35 = .ok (.iaload, 1) := by decide +kernel
theorem dX11_inside_36 : decode cX11_inside 36 = .ok (.iconst 1, 1) := by decide +kernel
theorem dX11_inside_37 : decode cX11_inside 37 = .ok (.isub, 1) := by decide +kernel
theorem dX11_inside_38 : decode cX11_inside 38 = .ok (.i2l, 1) := by decide +kernel
theorem dX11_inside_39 : decode cX11_inside 39 = .ok (.invokestatic 67, 3) := by decide +kernel
theorem dX11_inside_42 : decode cX11_inside 42 = .ok (.ifCond .eq 25, 3) := by decide +kernel
theorem dX11_inside_45 : decode cX11_inside 45 = .ok (.aload_n 0, 1) := by decide +kernel
theorem dX11_inside_46 : decode cX11_inside 46 = .ok (.aload_n 0, 1) := by decide +kernel
theorem dX11_inside_47 : decode cX11_inside 47 = .ok (.getfield 7, 3) := by decide +kernel
theorem dX11_inside_50 : decode cX11_inside 50 = .ok (.sipush 4224, 3) := by decide +kernel
theorem dX11_inside_53 : decode cX11_inside 53 = .ok (.bipush 20, 2) := by decide +kernel
theorem dX11_inside_55 : decode cX11_inside 55 = .ok (.iload_n 1, 1) := by decide +kernel
theorem dX11_inside_56 : decode cX11_inside 56 = .ok (.imul, 1) := by decide +kernel
theorem dX11_inside_57 : decode cX11_inside 57 = .ok (.iadd, 1) := by decide +kernel
theorem dX11_inside_58 : decode cX11_inside 58 = .ok (.iload_n 2, 1) := by decide +kernel
theorem dX11_inside_59 : decode cX11_inside 59 = .ok (.iadd, 1) := by decide +kernel
theorem dX11_inside_60 : decode cX11_inside 60 = .ok (.iaload, 1) := by decide +kernel
theorem dX11_inside_61 : decode cX11_inside 61 = .ok (.invokevirtual 74, 3) := by decide +kernel
theorem dX11_inside_64 : decode cX11_inside 64 = .ok (.goto 8, 3) := by decide +kernel
theorem dX11_inside_67 : decode cX11_inside 67 = .ok (.aload_n 0, 1) := by decide +kernel
theorem dX11_inside_68 : decode cX11_inside 68 = .ok (.iconst 2, 1) := by decide +kernel
theorem dX11_inside_69 : decode cX11_inside 69 = .ok (.invokevirtual 80, 3) := by decide +kernel
theorem dX11_inside_72 : decode cX11_inside 72 = .ok (.ireturn, 1) := by decide +kernel
theorem dX11_door_0 : decode cX11_door 0 = .ok (.aload_n 0, 1) := by decide +kernel
theorem dX11_door_1 : decode cX11_door 1 = .ok (.getfield 7, 3) := by decide +kernel
theorem dX11_door_4 : decode cX11_door 4 = .ok (.sipush 8525, 3) := by decide +kernel
theorem dX11_door_7 : decode cX11_door 7 = .ok (.iaload, 1) := by decide +kernel
theorem dX11_door_8 : decode cX11_door 8 = .ok (.istore_n 1, 1) := by decide +kernel
theorem dX11_door_9 : decode cX11_door 9 = .ok (.iload_n 1, 1) := by decide +kernel
theorem dX11_door_10 : decode cX11_door 10 = .ok (.bipush 40, 2) := by decide +kernel
theorem dX11_door_12 : decode cX11_door 12 = .ok (.if_icmp .ne 6, 3) := by decide +kernel
theorem dX11_door_15 : decode cX11_door 15 = .ok (.bipush (-4), 2) := by decide +kernel
theorem dX11_door_17 : decode cX11_door 17 = .ok (.ireturn, 1) := by decide +kernel
theorem dX11_door_18 : decode cX11_door 18 = .ok (.aload_n 0, 1) := by decide +kernel
theorem dX11_door_19 : decode cX11_door 19 = .ok (.invokevirtual 71, 3) := by decide +kernel
theorem dX11_door_22 : decode cX11_door 22 = .ok (.aload_n 0, 1) := by decide +kernel
theorem dX11_door_23 : decode cX11_door 23 = .ok (.getfield 7, 3) := by decide +kernel
theorem dX11_door_26 : decode cX11_door 26 = .ok (.sipush 8525, 3) := by decide +kernel
theorem dX11_door_29 : decode cX11_door 29 = .ok (.iload_n 1, 1) := by decide +kernel
theorem dX11_door_30 : decode cX11_door 30 = .ok (.iconst 1, 1) := by decide +kernel
theorem dX11_door_31 : decode cX11_door 31 = .ok (.iadd, 1) := by decide +kernel
theorem dX11_door_32 : decode cX11_door 32 = .ok (.iastore, 1) := by decide +kernel
theorem dX11_door_33 : decode cX11_door 33 = .ok (.aload_n 0, 1) := by decide +kernel
theorem dX11_door_34 : decode cX11_door 34 = .ok (.getfield 7, 3) := by decide +kernel
theorem dX11_door_37 : decode cX11_door 37 = .ok (.sipush 4464, 3) := by decide +kernel
theorem dX11_door_40 : decode cX11_door 40 = .ok (.iload_n 1, 1) := by decide +kernel
theorem dX11_door_41 : decode cX11_door 41 = .ok (.iadd, 1) := by decide +kernel
theorem dX11_door_42 : decode cX11_door 42 = .ok (.iconst (-1), 1) := by decide +kernel
theorem dX11_door_43 : decode cX11_door 43 = .ok (.iastore, 1) := by decide +kernel
theorem dX11_door_44 : decode cX11_door 44 = .ok (.iconst 0, 1) := by decide +kernel
theorem dX11_door_45 : decode cX11_door 45 = .ok (.istore_n 2, 1) := by decide +kernel
theorem dX11_door_46 : decode cX11_door 46 = .ok (.iload_n 2, 1) := by decide +kernel
theorem dX11_door_47 : decode cX11_door 47 = .ok (.bipush 100, 2) := by decide +kernel
theorem dX11_door_49 : decode cX11_door 49 = .ok (.if_icmp .ge 25, 3) := by decide +kernel
theorem dX11_door_52 : decode cX11_door 52 = .ok (.aload_n 0, 1) := by decide +kernel
theorem dX11_door_53 : decode cX11_door 53 = .ok (.getfield 7, 3) := by decide +kernel
theorem dX11_door_56 : decode cX11_door 56 = .ok (.sipush 4504, 3) := by decide +kernel
theorem dX11_door_59 : decode cX11_door 59 = .ok (.bipush 40, 2) := by decide +kernel
theorem dX11_door_61 : decode cX11_door 61 = .ok (.iload_n 2, 1) := by decide +kernel
theorem dX11_door_62 : decode cX11_door 62 = .ok (.imul, 1) := by decide +kernel
theorem dX11_door_63 : decode cX11_door 63 = .ok (.iadd, 1) := by decide +kernel
theorem dX11_door_64 : decode cX11_door 64 = .ok (.iload_n 1, 1) := by decide +kernel
theorem dX11_door_65 : decode cX11_door 65 = .ok (.iadd, 1) := by decide +kernel
theorem dX11_door_66 : decode cX11_door 66 = .ok (.iconst 0, 1) := by decide +kernel
theorem dX11_door_67 : decode cX11_door 67 = .ok (.iastore, 1) := by decide +kernel
theorem dX11_door_68 : decode cX11_door 68 = .ok (.iinc 2 1, 3) := by decide +kernel
theorem dX11_door_71 : decode cX11_door 71 = .ok (.goto (-25), 3) := by decide +kernel
theorem dX11_door_74 : decode cX11_door 74 = .ok (.iload_n 1, 1) := by decide +kernel
theorem dX11_door_75 : decode cX11_door 75 = .ok (.ireturn, 1) := by decide +kernel
theorem dX11_fit_0 : decode cX11_fit 0 = .ok (.aload_n 0, 1) := by decide +kernel
theorem dX11_fit_1 : decode cX11_fit 1 = .ok (.iload_n 1, 1) := by decide +kernel
theorem dX11_fit_2 : decode cX11_fit 2 = .ok (.invokevirtual 138, 3) := by decide +kernel
theorem dX11_fit_5 : decode cX11_fit 5 = .ok (.ifCond .eq 16, 3) := by decide +kernel
theorem dX11_fit_8 : decode cX11_fit 8 = .ok (.iload_n 2, 1) := by decide +kernel
theorem dX11_fit_9 : decode cX11_fit 9 = .ok (.iconst (-1), 1) := by decide +kernel
theorem dX11_fit_10 : decode cX11_fit 10 = .ok (.if_icmp .eq 14, 3) := by decide +kernel
theorem dX11_fit_13 : decode cX11_fit 13 = .ok (.aload_n 0, 1) := by decide +kernel
theorem dX11_fit_14 : decode cX11_fit 14 = .ok (.iload_n 2, 1) := by decide +kernel
theorem dX11_fit_15 : decode cX11_fit 15 = .ok (.invokevirtual 87, 3) := by decide +kernel
theorem dX11_fit_18 : decode cX11_fit 18 = .ok (.ifCond .ne 6, 3) := by decide +kernel
theorem dX11_fit_21 : decode cX11_fit 21 = .ok (.bipush (-2), 2) := by decide +kernel
theorem dX11_fit_23 : decode cX11_fit 23 = .ok (.ireturn, 1) := by decide +kernel
theorem dX11_fit_24 : decode cX11_fit 24 = .ok (.aload_n 0, 1) := by decide +kernel
theorem dX11_fit_25 : decode cX11_fit 25 = .ok (.invokevirtual 71, 3) := by decide +kernel
theorem dX11_fit_28 : decode cX11_fit 28 = .ok (.aload_n 0, 1) := by decide +kernel
theorem dX11_fit_29 : decode cX11_fit 29 = .ok (.getfield 7, 3) := by decide +kernel
theorem dX11_fit_32 : decode cX11_fit 32 = .ok (.sipush 4464, 3) := by decide +kernel
theorem dX11_fit_35 : decode cX11_fit 35 = .ok (.iload_n 1, 1) := by decide +kernel
theorem dX11_fit_36 : decode cX11_fit 36 = .ok (.iadd, 1) := by decide +kernel
theorem dX11_fit_37 : decode cX11_fit 37 = .ok (.iaload, 1) := by decide +kernel
theorem dX11_fit_38 : decode cX11_fit 38 = .ok (.istore_n 3, 1) := by decide +kernel
theorem dX11_fit_39 : decode cX11_fit 39 = .ok (.aload_n 0, 1) := by decide +kernel
theorem dX11_fit_40 : decode cX11_fit 40 = .ok (.getfield 7, 3) := by decide +kernel
theorem dX11_fit_43 : decode cX11_fit 43 = .ok (.sipush 4464, 3) := by decide +kernel

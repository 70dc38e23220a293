theorem dX0_init_0 : decode cX0_init 0 = .ok (.aload_n 0, 1) := by decide +kernel
theorem dX0_init_1 : decode cX0_init 1 = .ok (.invokespecial 3, 3) := by decide +kernel
theorem dX0_init_4 : decode cX0_init 4 = .ok (.aload_n 0, 1) := by decide +kernel
theorem dX0_init_5 : decode cX0_init 5 = .ok (.bipush 12, 2) := by decide +kernel
theorem dX0_init_7 : decode cX0_init 7 = .ok (.newarray .int, 2) := by decide +kernel
theorem dX0_init_9 : decode cX0_init 9 = .ok (.putfield 9, 3) := by decide +kernel
theorem dX0_init_12 : decode cX0_init 12 = .ok (.aload_n 0, 1) := by decide +kernel
theorem dX0_init_13 : decode cX0_init 13 = .ok (.bipush 12, 2) := by decide +kernel
theorem dX0_init_15 : decode cX0_init 15 = .ok (.newarray .int, 2) := by decide +kernel
theorem dX0_init_17 : decode cX0_init 17 = .ok (.putfield 15, 3) := by decide +kernel
theorem dX0_init_20 : decode cX0_init 20 = .ok (.aload_n 0, 1) := by decide +kernel
theorem dX0_init_21 : decode cX0_init 21 = .ok (.sipush 240, 3) := by decide +kernel
theorem dX0_init_24 : decode cX0_init 24 = .ok (.newarray .int, 2) := by decide +kernel
theorem dX0_init_26 : decode cX0_init 26 = .ok (.putfield 18, 3) := by decide +kernel
theorem dX0_init_29 : decode cX0_init 29 = .ok (.aload_n 0, 1) := by decide +kernel
theorem dX0_init_30 : decode cX0_init 30 = .ok (.iconst 0, 1) := by decide +kernel
theorem dX0_init_31 : decode cX0_init 31 = .ok (.putfield 21, 3) := by decide +kernel
theorem dX0_init_34 : decode cX0_init 34 = .ok (.return_, 1) := by decide +kernel
theorem dX0_has_0 : decode cX0_has 0 = .ok (.iload_n 1, 1) := by decide +kernel
theorem dX0_has_1 : decode cX0_has 1 = .ok (.ifCond .lt 15, 3) := by decide +kernel
theorem dX0_has_4 : decode cX0_has 4 = .ok (.iload_n 1, 1) := by decide +kernel
theorem dX0_has_5 : decode cX0_has 5 = .ok (.aload_n 0, 1) := by decide +kernel
theorem dX0_has_6 : decode cX0_has 6 = .ok (.getfield 21, 3) := by decide +kernel
theorem dX0_has_9 : decode cX0_has 9 = .ok (.if_icmp .ge 7, 3) := by decide +kernel
theorem dX0_has_12 : decode cX0_has 12 = .ok (.iconst 1, 1) := by decide +kernel
theorem dX0_has_13 : decode cX0_has 13 = .ok (.goto 4, 3) := by decide +kernel
theorem dX0_has_16 : decode cX0_has 16 = .ok (.iconst 0, 1) := by decide +kernel
theorem dX0_has_17 : decode cX0_has 17 = .ok (.ireturn, 1) := by decide +kernel
theorem dX0_hasPlace_0 : decode cX0_hasPlace 0 = .ok (.aload_n 0, 1) := by decide +kernel
theorem dX0_hasPlace_1 : decode cX0_hasPlace 1 = .ok (.iload_n 1, 1) := by decide +kernel
theorem dX0_hasPlace_2 : decode cX0_hasPlace 2 = .ok (.invokevirtual 25, 3) := by decide +kernel
theorem dX0_hasPlace_5 : decode cX0_hasPlace 5 = .ok (.ifCond .eq 21, 3) := by decide +kernel
theorem dX0_hasPlace_8 : decode cX0_hasPlace 8 = .ok (.iload_n 2, 1) := by decide +kernel
theorem dX0_hasPlace_9 : decode cX0_hasPlace 9 = .ok (.ifCond .lt 17, 3) := by decide +kernel
theorem dX0_hasPlace_12 : decode cX0_hasPlace 12 = .ok (.iload_n 2, 1) := by decide +kernel
theorem dX0_hasPlace_13 : decode cX0_hasPlace 13 = .ok (.aload_n 0, 1) := by decide +kernel
theorem dX0_hasPlace_14 : decode cX0_hasPlace 14 = .ok (.getfield 15, 3) := by decide +kernel
theorem dX0_hasPlace_17 : decode cX0_hasPlace 17 = .ok (.iload_n 1, 1) := by decide +kernel
theorem dX0_hasPlace_18 : decode cX0_hasPlace 18 = .ok (.iaload, 1) := by decide +kernel
theorem dX0_hasPlace_19 : decode cX0_hasPlace 19 = .ok (.if_icmp .ge 7, 3) := by decide +kernel
theorem dX0_hasPlace_22 : decode cX0_hasPlace 22 = .ok (.iconst 1, 1) := by decide +kernel
theorem dX0_hasPlace_23 : decode cX0_hasPlace 23 = .ok (.goto 4, 3) := by decide +kernel
theorem dX0_hasPlace_26 : decode cX0_hasPlace 26 = .ok (.iconst 0, 1) := by decide +kernel
theorem dX0_hasPlace_27 : decode cX0_hasPlace 27 = .ok (.ireturn, 1) := by decide +kernel
theorem dX0_cylinderAt_0 : decode cX0_cylinderAt 0 = .ok (.aload_n 0, 1) := by decide +kernel
theorem dX0_cylinderAt_1 : decode cX0_cylinderAt 1 = .ok (.iload_n 1, 1) := by decide +kernel
theorem dX0_cylinderAt_2 : decode cX0_cylinderAt 2 = .ok (.iload_n 2, 1) := by decide +kernel
theorem dX0_cylinderAt_3 : decode cX0_cylinderAt 3 = .ok (.invokevirtual 29, 3) := by decide +kernel
theorem dX0_cylinderAt_6 : decode cX0_cylinderAt 6 = .ok (.ifCond .eq 17, 3) := by decide +kernel
theorem dX0_cylinderAt_9 : decode cX0_cylinderAt 9 = .ok (.aload_n 0, 1) := by decide +kernel
theorem dX0_cylinderAt_10 : decode cX0_cylinderAt 10 = .ok (.getfield 18, 3) := by decide +kernel
theorem dX0_cylinderAt_13 : decode cX0_cylinderAt 13 = .ok (.iload_n 1, 1) := by decide +kernel
theorem dX0_cylinderAt_14 : decode cX0_cylinderAt 14 = .ok (.bipush 20, 2) := by decide +kernel
theorem dX0_cylinderAt_16 : decode cX0_cylinderAt 16 = .ok (.imul, 1) := by decide +kernel
theorem dX0_cylinderAt_17 : decode cX0_cylinderAt 17 = .ok (.iload_n 2, 1) := by decide +kernel
theorem dX0_cylinderAt_18 : decode cX0_cylinderAt 18 = .ok (.iadd, 1) := by decide +kernel
theorem dX0_cylinderAt_19 : decode cX0_cylinderAt 19 = .ok (.iaload, 1) := by decide +kernel
theorem dX0_cylinderAt_20 : decode cX0_cylinderAt 20 = .ok (.goto 4, 3) := by decide +kernel
theorem dX0_cylinderAt_23 : decode cX0_cylinderAt 23 = .ok (.iconst (-1), 1) := by decide +kernel
theorem dX0_cylinderAt_24 : decode cX0_cylinderAt 24 = .ok (.ireturn, 1) := by decide +kernel
theorem dX0_exchange_0 : decode cX0_exchange 0 = .ok (.aload_n 0, 1) := by decide +kernel
theorem dX0_exchange_1 : decode cX0_exchange 1 = .ok (.iload_n 1, 1) := by decide +kernel
theorem dX0_exchange_2 : decode cX0_exchange 2 = .ok (.iload_n 2, 1) := by decide +kernel
theorem dX0_exchange_3 : decode cX0_exchange 3 = .ok (.invokevirtual 33, 3) := by decide +kernel
theorem dX0_exchange_6 : decode cX0_exchange 6 = .ok (.istore 4, 2) := by decide +kernel
theorem dX0_exchange_8 : decode cX0_exchange 8 = .ok (.aload_n 0, 1) := by decide +kernel
theorem dX0_exchange_9 : decode cX0_exchange 9 = .ok (.iload_n 1, 1) := by decide +kernel
theorem dX0_exchange_10 : decode cX0_exchange 10 = .ok (.iload_n 2, 1) := by decide +kernel
theorem dX0_exchange_11 : decode cX0_exchange 11 = .ok (.invokevirtual 29, 3) := by decide +kernel
theorem dX0_exchange_14 : decode cX0_exchange 14 = .ok (.ifCond .eq 15, 3) := by decide +kernel
theorem dX0_exchange_17 : decode cX0_exchange 17 = .ok (.aload_n 0, 1) := by decide +kernel
theorem dX0_exchange_18 : decode cX0_exchange 18 = .ok (.getfield 18, 3) := by decide +kernel
theorem dX0_exchange_21 : decode cX0_exchange 21 = .ok (.iload_n 1, 1) := by decide +kernel
theorem dX0_exchange_22 : decode cX0_exchange 22 = .ok (.bipush 20, 2) := by decide +kernel
theorem dX0_exchange_24 : decode cX0_exchange 24 = .ok (.imul, 1) := by decide +kernel
theorem dX0_exchange_25 : decode cX0_exchange 25 = .ok (.iload_n 2, 1) := by decide +kernel
theorem dX0_exchange_26 : decode cX0_exchange 26 = .ok (.iadd, 1) := by decide +kernel
theorem dX0_exchange_27 : decode cX0_exchange 27 = .ok (.iload_n 3, 1) := by decide +kernel
theorem dX0_exchange_28 : decode cX0_exchange 28 = .ok (.iastore, 1) := by decide +kernel
theorem dX0_exchange_29 : decode cX0_exchange 29 = .ok (.iload 4, 2) := by decide +kernel
theorem dX0_exchange_31 : decode cX0_exchange 31 = .ok (.ireturn, 1) := by decide +kernel
theorem dX0_add_0 : decode cX0_add 0 = .ok (.aload_n 0, 1) := by decide +kernel
theorem dX0_add_1 : decode cX0_add 1 = .ok (.getfield 21, 3) := by decide +kernel
theorem dX0_add_4 : decode cX0_add 4 = .ok (.istore_n 3, 1) := by decide +kernel
theorem dX0_add_5 : decode cX0_add 5 = .ok (.aload_n 0, 1) := by decide +kernel
theorem dX0_add_6 : decode cX0_add 6 = .ok (.dup, 1) := by decide +kernel
theorem dX0_add_7 : decode cX0_add 7 = .ok (.getfield 21, 3) := by decide +kernel
theorem dX0_add_10 : decode cX0_add 10 = .ok (.iconst 1, 1) := by decide +kernel
theorem dX0_add_11 : decode cX0_add 11 = .ok (.iadd, 1) := by decide +kernel
theorem dX0_add_12 : decode cX0_add 12 = .ok (.putfield 21, 3) := by decide +kernel
theorem dX0_add_15 : decode cX0_add 15 = .ok (.aload_n 0, 1) := by decide +kernel
theorem dX0_add_16 : decode cX0_add 16 = .ok (.getfield 9, 3) := by decide +kernel
theorem dX0_add_19 : decode cX0_add 19 = .ok (.iload_n 3, 1) := by decide +kernel
theorem dX0_add_20 : decode cX0_add 20 = .ok (.iload_n 1, 1) := by decide +kernel
theorem dX0_add_21 : decode cX0_add 21 = .ok (.iastore, 1) := by decide +kernel
theorem dX0_add_22 : decode cX0_add 22 = .ok (.aload_n 0, 1) := by decide +kernel
theorem dX0_add_23 : decode cX0_add 23 = .ok (.getfield 15, 3) := by decide +kernel
theorem dX0_add_26 : decode cX0_add 26 = .ok (.iload_n 3, 1) := by decide +kernel
theorem dX0_add_27 : decode cX0_add 27 = .ok (.iload_n 2, 1) := by decide +kernel
theorem dX0_add_28 : decode cX0_add 28 = .ok (.iastore, 1) := by decide +kernel
theorem dX0_add_29 : decode cX0_add 29 = .ok (.iconst 0, 1) := by decide +kernel
theorem dX0_add_30 : decode cX0_add 30 = .ok (.istore 4, 2) := by decide +kernel
theorem dX0_add_32 : decode cX0_add 32 = .ok (.iload 4, 2) := by decide +kernel
theorem dX0_add_34 : decode cX0_add 34 = .ok (.iload_n 2, 1) := by decide +kernel
theorem dX0_add_35 : decode cX0_add 35 = .ok (.if_icmp .ge 18, 3) := by decide +kernel
theorem dX0_add_38 : decode cX0_add 38 = .ok (.aload_n 0, 1) := by decide +kernel
theorem dX0_add_39 : decode cX0_add 39 = .ok (.iload_n 3, 1) := by decide +kernel
theorem dX0_add_40 : decode cX0_add 40 = .ok (.iload 4, 2) := by decide +kernel
theorem dX0_add_42 : decode cX0_add 42 = .ok (.iconst (-1), 1) := by decide +kernel
theorem dX0_add_43 : decode cX0_add 43 = .ok (.invokevirtual 37, 3) := by decide +kernel
theorem dX0_add_46 : decode cX0_add 46 = .ok (.pop, 1) := by decide +kernel
theorem dX0_add_47 : decode cX0_add 47 = .ok (.iinc 4 1, 3) := by decide +kernel
theorem dX0_add_50 : decode cX0_add 50 = .ok (.goto (-18), 3) := by decide +kernel
theorem dX0_add_53 : decode cX0_add 53 = .ok (.iload_n 3, 1) := by decide +kernel
theorem dX0_add_54 : decode cX0_add 54 = .ok (.ireturn, 1) := by decide +kernel
theorem dX0_become_0 : decode cX0_become 0 = .ok (.aload_n 0, 1) := by decide +kernel
theorem dX0_become_1 : decode cX0_become 1 = .ok (.aload_n 1, 1) := by decide +kernel
theorem dX0_become_2 : decode cX0_become 2 = .ok (.getfield 21, 3) := by decide +kernel
theorem dX0_become_5 : decode cX0_become 5 = .ok (.putfield 21, 3) := by decide +kernel
theorem dX0_become_8 : decode cX0_become 8 = .ok (.aload_n 1, 1) := by decide +kernel
theorem dX0_become_9 : decode cX0_become 9 = .ok (.getfield 9, 3) := by decide +kernel
theorem dX0_become_12 : decode cX0_become 12 = .ok (.iconst 0, 1) := by decide +kernel
theorem dX0_become_13 : decode cX0_become 13 = .ok (.aload_n 0, 1) := by decide +kernel
theorem dX0_become_14 : decode cX0_become 14 = .ok (.getfield 9, 3) := by decide +kernel
theorem dX0_become_17 : decode cX0_become 17 = .ok (.iconst 0, 1) := by decide +kernel
theorem dX0_become_18 : decode cX0_become 18 = .ok (.aload_n 0, 1) := by decide +kernel
theorem dX0_become_19 : decode cX0_become 19 = .ok (.getfield 21, 3) := by decide +kernel
theorem dX0_become_22 : decode cX0_become 22 = .ok (.invokestatic 41, 3) := by decide +kernel
theorem dX0_become_25 : decode cX0_become 25 = .ok (.aload_n 1, 1) := by decide +kernel
theorem dX0_become_26 : decode cX0_become 26 = .ok (.getfield 15, 3) := by decide +kernel
theorem dX0_become_29 : decode cX0_become 29 = .ok (.iconst 0, 1) := by decide +kernel
theorem dX0_become_30 : decode cX0_become 30 = .ok (.aload_n 0, 1) := by decide +kernel
theorem dX0_become_31 : decode cX0_become 31 = .ok (.getfield 15, 3) := by decide +kernel
theorem dX0_become_34 : decode cX0_become 34 = .ok (.iconst 0, 1) := by decide +kernel
theorem dX0_become_35 : decode cX0_become 35 = .ok (.aload_n 0, 1) := by decide +kernel
theorem dX0_become_36 : decode cX0_become 36 = .ok (.getfield 21, 3) := by decide +kernel
theorem dX0_become_39 : decode cX0_become 39 = .ok (.invokestatic 41, 3) := by decide +kernel
theorem dX0_become_42 : decode cX0_become 42 = .ok (.aload_n 1, 1) := by decide +kernel
theorem dX0_become_43 : decode cX0_become 43 = .ok (.getfield 18, 3) := by decide +kernel
theorem dX0_become_46 : decode cX0_become 46 = .ok (.iconst 0, 1) := by decide +kernel
theorem dX0_become_47 : decode cX0_become 47 = .ok (.aload_n 0, 1) := by decide +kernel
theorem dX0_become_48 : decode cX0_become 48 = .ok (.getfield 18, 3) := by decide +kernel
theorem dX0_become_51 : decode cX0_become 51 = .ok (.iconst 0, 1) := by decide +kernel
theorem dX0_become_52 : decode cX0_become 52 = .ok (.aload_n 0, 1) := by decide +kernel
theorem dX0_become_53 : decode cX0_become 53 = .ok (.getfield 21, 3) := by decide +kernel
theorem dX0_become_56 : decode cX0_become 56 = .ok (.bipush 20, 2) := by decide +kernel
theorem dX0_become_58 : decode cX0_become 58 = .ok (.imul, 1) := by decide +kernel
theorem dX0_become_59 : decode cX0_become 59 = .ok (.invokestatic 41, 3) := by decide +kernel
theorem dX0_become_62 : decode cX0_become 62 = .ok (.return_, 1) := by decide +kernel
theorem dX1_init_0 : decode cX1_init 0 = .ok (.aload_n 0, 1) := by decide +kernel
theorem dX1_init_1 : decode cX1_init 1 = .ok (.invokespecial 3, 3) := by decide +kernel
theorem dX1_init_4 : decode cX1_init 4 = .ok (.aload_n 0, 1) := by decide +kernel
theorem dX1_init_5 : decode cX1_init 5 = .ok (.bipush 14, 2) := by decide +kernel
theorem dX1_init_7 : decode cX1_init 7 = .ok (.newarray .int, 2) := by decide +kernel
theorem dX1_init_9 : decode cX1_init 9 = .ok (.putfield 9, 3) := by decide +kernel
theorem dX1_init_12 : decode cX1_init 12 = .ok (.aload_n 0, 1) := by decide +kernel
theorem dX1_init_13 : decode cX1_init 13 = .ok (.bipush 15, 2) := by decide +kernel
theorem dX1_init_15 : decode cX1_init 15 = .ok (.newarray .int, 2) := by decide +kernel
theorem dX1_init_17 : decode cX1_init 17 = .ok (.putfield 15, 3) := by decide +kernel
theorem dX1_init_20 : decode cX1_init 20 = .ok (.return_, 1) := by decide +kernel
theorem dX1_begin_0 : decode cX1_begin 0 = .ok (.aload_n 0, 1) := by decide +kernel
theorem dX1_begin_1 : decode cX1_begin 1 = .ok (.iconst 0, 1) := by decide +kernel
theorem dX1_begin_2 : decode cX1_begin 2 = .ok (.putfield 18, 3) := by decide +kernel
theorem dX1_begin_5 : decode cX1_begin 5 = .ok (.return_, 1) := by decide +kernel
theorem dX1_addKey_0 : decode cX1_addKey 0 = .ok (.aload_n 0, 1) := by decide +kernel
theorem dX1_addKey_1 : decode cX1_addKey 1 = .ok (.getfield 18, 3) := by decide +kernel
theorem dX1_addKey_4 : decode cX1_addKey 4 = .ok (.bipush 14, 2) := by decide +kernel
theorem dX1_addKey_6 : decode cX1_addKey 6 = .ok (.if_icmp .ge 45, 3) := by decide +kernel
theorem dX1_addKey_9 : decode cX1_addKey 9 = .ok (.aload_n 0, 1) := by decide +kernel
theorem dX1_addKey_10 : decode cX1_addKey 10 = .ok (.getfield 9, 3) := by decide +kernel
theorem dX1_addKey_13 : decode cX1_addKey 13 = .ok (.aload_n 0, 1) := by decide +kernel
theorem dX1_addKey_14 : decode cX1_addKey 14 = .ok (.getfield 18, 3) := by decide +kernel
theorem dX1_addKey_17 : decode cX1_addKey 17 = .ok (.iload_n 1, 1) := by decide +kernel
theorem dX1_addKey_18 : decode cX1_addKey 18 = .ok (.iastore, 1) := by decide +kernel
theorem dX1_addKey_19 : decode cX1_addKey 19 = .ok (.aload_n 0, 1) := by decide +kernel
theorem dX1_addKey_20 : decode cX1_addKey 20 = .ok (.getfield 15, 3) := by decide +kernel
theorem dX1_addKey_23 : decode cX1_addKey 23 = .ok (.aload_n 0, 1) := by decide +kernel
theorem dX1_addKey_24 : decode cX1_addKey 24 = .ok (.getfield 18, 3) := by decide +kernel
theorem dX1_addKey_27 : decode cX1_addKey 27 = .ok (.iconst 1, 1) := by decide +kernel
theorem dX1_addKey_28 : decode cX1_addKey 28 = .ok (.iadd, 1) := by decide +kernel
theorem dX1_addKey_29 : decode cX1_addKey 29 = .ok (.aload_n 0, 1) := by decide +kernel
theorem dX1_addKey_30 : decode cX1_addKey 30 = .ok (.getfield 15, 3) := by decide +kernel
theorem dX1_addKey_33 : decode cX1_addKey 33 = .ok (.aload_n 0, 1) := by decide +kernel
theorem dX1_addKey_34 : decode cX1_addKey 34 = .ok (.getfield 18, 3) := by decide +kernel
theorem dX1_addKey_37 : decode cX1_addKey 37 = .ok (.iaload, 1) := by decide +kernel
theorem dX1_addKey_38 : decode cX1_addKey 38 = .ok (.iload_n 1, 1) := by decide +kernel
theorem dX1_addKey_39 : decode cX1_addKey 39 = .ok (.ior, 1) := by decide +kernel
theorem dX1_addKey_40 : decode cX1_addKey 40 = .ok (.iastore, 1) := by decide +kernel
theorem dX1_addKey_41 : decode cX1_addKey 41 = .ok (.aload_n 0, 1) := by decide +kernel
theorem dX1_addKey_42 : decode cX1_addKey 42 = .ok (.dup, 1) := by decide +kernel
theorem dX1_addKey_43 : decode cX1_addKey 43 = .ok (.getfield 18, 3) := by decide +kernel
theorem dX1_addKey_46 : decode cX1_addKey 46 = .ok (.iconst 1, 1) := by decide +kernel
theorem dX1_addKey_47 : decode cX1_addKey 47 = .ok (.iadd, 1) := by decide +kernel
theorem dX1_addKey_48 : decode cX1_addKey 48 = .ok (.putfield 18, 3) := by decide +kernel
theorem dX1_addKey_51 : decode cX1_addKey 51 = .ok (.return_, 1) := by decide +kernel
theorem dX1_fewest_0 : decode cX1_fewest 0 = .ok (.aload_n 0, 1) := by decide +kernel
theorem dX1_fewest_1 : decode cX1_fewest 1 = .ok (.iload_n 1, 1) := by decide +kernel
theorem dX1_fewest_2 : decode cX1_fewest 2 = .ok (.aload_n 0, 1) := by decide +kernel
theorem dX1_fewest_3 : decode cX1_fewest 3 = .ok (.getfield 15, 3) := by decide +kernel
theorem dX1_fewest_6 : decode cX1_fewest 6 = .ok (.aload_n 0, 1) := by decide +kernel
theorem dX1_fewest_7 : decode cX1_fewest 7 = .ok (.getfield 18, 3) := by decide +kernel
theorem dX1_fewest_10 : decode cX1_fewest 10 = .ok (.iaload, 1) := by decide +kernel
theorem dX1_fewest_11 : decode cX1_fewest 11 = .ok (.iand, 1) := by decide +kernel
theorem dX1_fewest_12 : decode cX1_fewest 12 = .ok (.putfield 22, 3) := by decide +kernel
theorem dX1_fewest_15 : decode cX1_fewest 15 = .ok (.aload_n 0, 1) := by decide +kernel
theorem dX1_fewest_16 : decode cX1_fewest 16 = .ok (.iconst 0, 1) := by decide +kernel
theorem dX1_fewest_17 : decode cX1_fewest 17 = .ok (.putfield 25, 3) := by decide +kernel
theorem dX1_fewest_20 : decode cX1_fewest 20 = .ok (.aload_n 0, 1) := by decide +kernel
theorem dX1_fewest_21 : decode cX1_fewest 21 = .ok (.bipush 15, 2) := by decide +kernel
theorem dX1_fewest_23 : decode cX1_fewest 23 = .ok (.putfield 28, 3) := by decide +kernel
theorem dX1_fewest_26 : decode cX1_fewest 26 = .ok (.aload_n 0, 1) := by decide +kernel
theorem dX1_fewest_27 : decode cX1_fewest 27 = .ok (.aload_n 0, 1) := by decide +kernel
theorem dX1_fewest_28 : decode cX1_fewest 28 = .ok (.getfield 18, 3) := by decide +kernel
theorem dX1_fewest_31 : decode cX1_fewest 31 = .ok (.iconst 0, 1) := by decide +kernel
theorem dX1_fewest_32 : decode cX1_fewest 32 = .ok (.iconst 0, 1) := by decide +kernel
theorem dX1_fewest_33 : decode cX1_fewest 33 = .ok (.invokevirtual 31, 3) := by decide +kernel
theorem dX1_fewest_36 : decode cX1_fewest 36 = .ok (.aload_n 0, 1) := by decide +kernel
theorem dX1_fewest_37 : decode cX1_fewest 37 = .ok (.getfield 25, 3) := by decide +kernel
theorem dX1_fewest_40 : decode cX1_fewest 40 = .ok (.ireturn, 1) := by decide +kernel
theorem dX1_choose_0 : decode cX1_choose 0 = .ok (.iload_n 2, 1) := by decide +kernel
theorem dX1_choose_1 : decode cX1_choose 1 = .ok (.invokestatic 35, 3) := by decide +kernel
theorem dX1_choose_4 : decode cX1_choose 4 = .ok (.aload_n 0, 1) := by decide +kernel
theorem dX1_choose_5 : decode cX1_choose 5 = .ok (.getfield 28, 3) := by decide +kernel
theorem dX1_choose_8 : decode cX1_choose 8 = .ok (.if_icmp .lt 4, 3) := by decide +kernel
theorem dX1_choose_11 : decode cX1_choose 11 = .ok (.return_, 1) := by decide +kernel
theorem dX1_choose_12 : decode cX1_choose 12 = .ok (.aload_n 0, 1) := by decide +kernel
theorem dX1_choose_13 : decode cX1_choose 13 = .ok (.getfield 22, 3) := by decide +kernel
theorem dX1_choose_16 : decode cX1_choose 16 = .ok (.iload_n 3, 1) := by decide +kernel
theorem dX1_choose_17 : decode cX1_choose 17 = .ok (.iconst (-1), 1) := by decide +kernel
theorem dX1_choose_18 : decode cX1_choose 18 = .ok (.ixor, 1) := by decide +kernel
theorem dX1_choose_19 : decode cX1_choose 19 = .ok (.iand, 1) := by decide +kernel
theorem dX1_choose_20 : decode cX1_choose 20 = .ok (.ifCond .ne 17, 3) := by decide +kernel
theorem dX1_choose_23 : decode cX1_choose 23 = .ok (.aload_n 0, 1) := by decide +kernel
theorem dX1_choose_24 : decode cX1_choose 24 = .ok (.iload_n 2, 1) := by decide +kernel
theorem dX1_choose_25 : decode cX1_choose 25 = .ok (.putfield 25, 3) := by decide +kernel
theorem dX1_choose_28 : decode cX1_choose 28 = .ok (.aload_n 0, 1) := by decide +kernel
theorem dX1_choose_29 : decode cX1_choose 29 = .ok (.iload_n 2, 1) := by decide +kernel
theorem dX1_choose_30 : decode cX1_choose 30 = .ok (.invokestatic 35, 3) := by decide +kernel
theorem dX1_choose_33 : decode cX1_choose 33 = .ok (.putfield 28, 3) := by decide +kernel
theorem dX1_choose_36 : decode cX1_choose 36 = .ok (.return_, 1) := by decide +kernel
theorem dX1_choose_37 : decode cX1_choose 37 = .ok (.aload_n 0, 1) := by decide +kernel
theorem dX1_choose_38 : decode cX1_choose 38 = .ok (.getfield 22, 3) := by decide +kernel
theorem dX1_choose_41 : decode cX1_choose 41 = .ok (.iload_n 3, 1) := by decide +kernel
theorem dX1_choose_42 : decode cX1_choose 42 = .ok (.aload_n 0, 1) := by decide +kernel
theorem dX1_choose_43 : decode cX1_choose 43 = .ok (.getfield 15, 3) := by decide +kernel
theorem dX1_choose_46 : decode cX1_choose 46 = .ok (.iload_n 1, 1) := by decide +kernel
theorem dX1_choose_47 : decode cX1_choose 47 = .ok (.iaload, 1) := by decide +kernel
theorem dX1_choose_48 : decode cX1_choose 48 = .ok (.ior, 1) := by decide +kernel
theorem dX1_choose_49 : decode cX1_choose 49 = .ok (.iconst (-1), 1) := by decide +kernel
theorem dX1_choose_50 : decode cX1_choose 50 = .ok (.ixor, 1) := by decide +kernel
theorem dX1_choose_51 : decode cX1_choose 51 = .ok (.iand, 1) := by decide +kernel
theorem dX1_choose_52 : decode cX1_choose 52 = .ok (.ifCond .eq 7, 3) := by decide +kernel
theorem dX1_choose_55 : decode cX1_choose 55 = .ok (.iconst 1, 1) := by decide +kernel
theorem dX1_choose_56 : decode cX1_choose 56 = .ok (.goto 4, 3) := by decide +kernel
theorem dX1_choose_59 : decode cX1_choose 59 = .ok (.iconst 0, 1) := by decide +kernel
theorem dX1_choose_60 : decode cX1_choose 60 = .ok (.istore 4, 2) := by decide +kernel
theorem dX1_choose_62 : decode cX1_choose 62 = .ok (.iload 4, 2) := by decide +kernel
theorem dX1_choose_64 : decode cX1_choose 64 = .ok (.ifCond .ne 7, 3) := by decide +kernel
theorem dX1_choose_67 : decode cX1_choose 67 = .ok (.iload_n 1, 1) := by decide +kernel
theorem dX1_choose_68 : decode cX1_choose 68 = .ok (.ifCond .gt 4, 3) := by decide +kernel
theorem dX1_choose_71 : decode cX1_choose 71 = .ok (.return_, 1) := by decide +kernel
theorem dX1_choose_72 : decode cX1_choose 72 = .ok (.iload_n 1, 1) := by decide +kernel
theorem dX1_choose_73 : decode cX1_choose 73 = .ok (.iconst 1, 1) := by decide +kernel
theorem dX1_choose_74 : decode cX1_choose 74 = .ok (.isub, 1) := by decide +kernel
theorem dX1_choose_75 : decode cX1_choose 75 = .ok (.istore 5, 2) := by decide +kernel
theorem dX1_choose_77 : decode cX1_choose 77 = .ok (.aload_n 0, 1) := by decide +kernel
theorem dX1_choose_78 : decode cX1_choose 78 = .ok (.iload 5, 2) := by decide +kernel
theorem dX1_choose_80 : decode cX1_choose 80 = .ok (.iload_n 2, 1) := by decide +kernel
theorem dX1_choose_81 : decode cX1_choose 81 = .ok (.iload_n 3, 1) := by decide +kernel
theorem dX1_choose_82 : decode cX1_choose 82 = .ok (.invokevirtual 31, 3) := by decide +kernel
theorem dX1_choose_85 : decode cX1_choose 85 = .ok (.aload_n 0, 1) := by decide +kernel
theorem dX1_choose_86 : decode cX1_choose 86 = .ok (.iload 5, 2) := by decide +kernel
theorem dX1_choose_88 : decode cX1_choose 88 = .ok (.iload_n 2, 1) := by decide +kernel
theorem dX1_choose_89 : decode cX1_choose 89 = .ok (.iconst 1, 1) := by decide +kernel
theorem dX1_choose_90 : decode cX1_choose 90 = .ok (.iload 5, 2) := by decide +kernel
theorem dX1_choose_92 : decode cX1_choose 92 = .ok (.ishl, 1) := by decide +kernel
theorem dX1_choose_93 : decode cX1_choose 93 = .ok (.ior, 1) := by decide +kernel
theorem dX1_choose_94 : decode cX1_choose 94 = .ok (.iload_n 3, 1) := by decide +kernel
theorem dX1_choose_95 : decode cX1_choose 95 = .ok (.aload_n 0, 1) := by decide +kernel
theorem dX1_choose_96 : decode cX1_choose 96 = .ok (.getfield 9, 3) := by decide +kernel
theorem dX1_choose_99 : decode cX1_choose 99 = .ok (.iload 5, 2) := by decide +kernel
theorem dX1_choose_101 : decode cX1_choose 101 = .ok (.iaload, 1) := by decide +kernel
theorem dX1_choose_102 : decode cX1_choose 102 = .ok (.ior, 1) := by decide +kernel
theorem dX1_choose_103 : decode cX1_choose 103 = .ok (.invokevirtual 31, 3) := by decide +kernel
theorem dX1_choose_106 : decode cX1_choose 106 = .ok (.return_, 1) := by decide +kernel
theorem dX2_init_0 : decode cX2_init 0 = .ok (.aload_n 0, 1) := by decide +kernel
theorem dX2_init_1 : decode cX2_init 1 = .ok (.invokespecial 3, 3) := by decide +kernel
theorem dX2_init_4 : decode cX2_init 4 = .ok (.aload_n 0, 1) := by decide +kernel
theorem dX2_init_5 : decode cX2_init 5 = .ok (.bipush 18, 2) := by decide +kernel
theorem dX2_init_7 : decode cX2_init 7 = .ok (.newarray .int, 2) := by decide +kernel
theorem dX2_init_9 : decode cX2_init 9 = .ok (.putfield 9, 3) := by decide +kernel
theorem dX2_init_12 : decode cX2_init 12 = .ok (.aload_n 0, 1) := by decide +kernel
theorem dX2_init_13 : decode cX2_init 13 = .ok (.bipush 10, 2) := by decide +kernel
theorem dX2_init_15 : decode cX2_init 15 = .ok (.newarray .long, 2) := by decide +kernel
theorem dX2_init_17 : decode cX2_init 17 = .ok (.putfield 15, 3) := by decide +kernel
theorem dX2_init_20 : decode cX2_init 20 = .ok (.aload_n 0, 1) := by decide +kernel
theorem dX2_init_21 : decode cX2_init 21 = .ok (.bipush 10, 2) := by decide +kernel
theorem dX2_init_23 : decode cX2_init 23 = .ok (.newarray .long, 2) := by decide +kernel
theorem dX2_init_25 : decode cX2_init 25 = .ok (.putfield 19, 3) := by decide +kernel
theorem dX2_init_28 : decode cX2_init 28 = .ok (.return_, 1) := by decide +kernel
theorem dX2_rowsThatOpen_0 : decode cX2_rowsThatOpen 0 = .ok (.iload_n 2, 1) := by decide +kernel
theorem dX2_rowsThatOpen_1 : decode cX2_rowsThatOpen 1 = .ok (.istore 5, 2) := by decide +kernel
theorem dX2_rowsThatOpen_3 : decode cX2_rowsThatOpen 3 = .ok (.iload_n 2, 1) := by decide +kernel
theorem dX2_rowsThatOpen_4 : decode cX2_rowsThatOpen 4 = .ok (.istore 6, 2) := by decide +kernel
theorem dX2_rowsThatOpen_6 : decode cX2_rowsThatOpen 6 = .ok (.aload_n 1, 1) := by decide +kernel
theorem dX2_rowsThatOpen_7 : decode cX2_rowsThatOpen 7 = .ok (.iload_n 2, 1) := by decide +kernel
theorem dX2_rowsThatOpen_8 : decode cX2_rowsThatOpen 8 = .ok (.invokevirtual 22, 3) := by decide +kernel
theorem dX2_rowsThatOpen_11 : decode cX2_rowsThatOpen 11 = .ok (.ifCond .eq 19, 3) := by decide +kernel
theorem dX2_rowsThatOpen_14 : decode cX2_rowsThatOpen 14 = .ok (.aload_n 1, 1) := by decide +kernel
theorem dX2_rowsThatOpen_15 : decode cX2_rowsThatOpen 15 = .ok (.getfield 28, 3) := by decide +kernel
theorem dX2_rowsThatOpen_18 : decode cX2_rowsThatOpen 18 = .ok (.iload_n 2, 1) := by decide +kernel
theorem dX2_rowsThatOpen_19 : decode cX2_rowsThatOpen 19 = .ok (.iaload, 1) := by decide +kernel
theorem dX2_rowsThatOpen_20 : decode cX2_rowsThatOpen 20 = .ok (.istore 5, 2) := by decide +kernel
theorem dX2_rowsThatOpen_22 : decode cX2_rowsThatOpen 22 = .ok (.aload_n 1, 1) := by decide +kernel
theorem dX2_rowsThatOpen_23 : decode cX2_rowsThatOpen 23 = .ok (.getfield 31, 3) := by decide +kernel
theorem dX2_rowsThatOpen_26 : decode cX2_rowsThatOpen 26 = .ok (.iload_n 2, 1) := by decide +kernel
theorem dX2_rowsThatOpen_27 : decode cX2_rowsThatOpen 27 = .ok (.iaload, 1) := by decide +kernel
theorem dX2_rowsThatOpen_28 : decode cX2_rowsThatOpen 28 = .ok (.istore 6, 2) := by decide +kernel
theorem dX2_rowsThatOpen_30 : decode cX2_rowsThatOpen 30 = .ok (.aload_n 1, 1) := by decide +kernel
theorem dX2_rowsThatOpen_31 : decode cX2_rowsThatOpen 31 = .ok (.iload 5, 2) := by decide +kernel
theorem dX2_rowsThatOpen_33 : decode cX2_rowsThatOpen 33 = .ok (.invokestatic 34, 3) := by decide +kernel
theorem dX2_rowsThatOpen_36 : decode cX2_rowsThatOpen 36 = .ok (.ifCond .ne 12, 3) := by decide +kernel
theorem dX2_rowsThatOpen_39 : decode cX2_rowsThatOpen 39 = .ok (.aload_n 1, 1) := by decide +kernel
theorem dX2_rowsThatOpen_40 : decode cX2_rowsThatOpen 40 = .ok (.iload 6, 2) := by decide +kernel
theorem dX2_rowsThatOpen_42 : decode cX2_rowsThatOpen 42 = .ok (.invokestatic 34, 3) := by decide +kernel
theorem dX2_rowsThatOpen_45 : decode cX2_rowsThatOpen 45 = .ok (.ifCond .eq 7, 3) := by decide +kernel
theorem dX2_rowsThatOpen_48 : decode cX2_rowsThatOpen 48 = .ok (.ldc2_w 38, 3) := by decide +kernel
theorem dX2_rowsThatOpen_51 : decode cX2_rowsThatOpen 51 = .ok (.lreturn, 1) := by decide +kernel
theorem dX2_rowsThatOpen_52 : decode cX2_rowsThatOpen 52 = .ok (.iconst 0, 1) := by decide +kernel
theorem dX2_rowsThatOpen_53 : decode cX2_rowsThatOpen 53 = .ok (.istore 7, 2) := by decide +kernel
theorem dX2_rowsThatOpen_55 : decode cX2_rowsThatOpen 55 = .ok (.iload 7, 2) := by decide +kernel
theorem dX2_rowsThatOpen_57 : decode cX2_rowsThatOpen 57 = .ok (.iload_n 3, 1) := by decide +kernel
theorem dX2_rowsThatOpen_58 : decode cX2_rowsThatOpen 58 = .ok (.if_icmp .ge 19, 3) := by decide +kernel
theorem dX2_rowsThatOpen_61 : decode cX2_rowsThatOpen 61 = .ok (.aload_n 0, 1) := by decide +kernel
theorem dX2_rowsThatOpen_62 : decode cX2_rowsThatOpen 62 = .ok (.getfield 9, 3) := by decide +kernel
theorem dX2_rowsThatOpen_65 : decode cX2_rowsThatOpen 65 = .ok (.iload 7, 2) := by decide +kernel
theorem dX2_rowsThatOpen_67 : decode cX2_rowsThatOpen 67 = .ok (.sipush 1023, 3) := by decide +kernel
theorem dX2_rowsThatOpen_70 : decode cX2_rowsThatOpen 70 = .ok (.iastore, 1) := by decide +kernel
theorem dX2_rowsThatOpen_71 : decode cX2_rowsThatOpen 71 = .ok (.iinc 7 1, 3) := by decide +kernel
theorem dX2_rowsThatOpen_74 : decode cX2_rowsThatOpen 74 = .ok (.goto (-19), 3) := by decide +kernel
theorem dX2_rowsThatOpen_77 : decode cX2_rowsThatOpen 77 = .ok (.aload_n 0, 1) := by decide +kernel
theorem dX2_rowsThatOpen_78 : decode cX2_rowsThatOpen 78 = .ok (.aload_n 1, 1) := by decide +kernel
theorem dX2_rowsThatOpen_79 : decode cX2_rowsThatOpen 79 = .ok (.iload 5, 2) := by decide +kernel
theorem dX2_rowsThatOpen_81 : decode cX2_rowsThatOpen 81 = .ok (.iload_n 3, 1) := by decide +kernel
theorem dX2_rowsThatOpen_82 : decode cX2_rowsThatOpen 82 = .ok (.invokevirtual 40, 3) := by decide +kernel
theorem dX2_rowsThatOpen_85 : decode cX2_rowsThatOpen 85 = .ok (.ifCond .eq 14, 3) := by decide +kernel
theorem dX2_rowsThatOpen_88 : decode cX2_rowsThatOpen 88 = .ok (.aload_n 0, 1) := by decide +kernel
theorem dX2_rowsThatOpen_89 : decode cX2_rowsThatOpen 89 = .ok (.aload_n 1, 1) := by decide +kernel
theorem dX2_rowsThatOpen_90 : decode cX2_rowsThatOpen 90 = .ok (.iload 6, 2) := by decide +kernel
theorem dX2_rowsThatOpen_92 : decode cX2_rowsThatOpen 92 = .ok (.iload_n 3, 1) := by decide +kernel
theorem dX2_rowsThatOpen_93 : decode cX2_rowsThatOpen 93 = .ok (.invokevirtual 40, 3) := by decide +kernel
theorem dX2_rowsThatOpen_96 : decode cX2_rowsThatOpen 96 = .ok (.ifCond .ne 5, 3) := by decide +kernel
theorem dX2_rowsThatOpen_99 : decode cX2_rowsThatOpen 99 = .ok (.lconst 0, 1) := by decide +kernel
theorem dX2_rowsThatOpen_100 : decode cX2_rowsThatOpen 100 = .ok (.lreturn, 1) := by decide +kernel
theorem dX2_rowsThatOpen_101 : decode cX2_rowsThatOpen 101 = .ok (.aload_n 0, 1) := by decide +kernel
theorem dX2_rowsThatOpen_102 : decode cX2_rowsThatOpen 102 = .ok (.iload_n 3, 1) := by decide +kernel
theorem dX2_rowsThatOpen_103 : decode cX2_rowsThatOpen 103 = .ok (.iload 4, 2) := by decide +kernel
theorem dX2_rowsThatOpen_105 : decode cX2_rowsThatOpen 105 = .ok (.invokevirtual 44, 3) := by decide +kernel
theorem dX2_rowsThatOpen_108 : decode cX2_rowsThatOpen 108 = .ok (.lreturn, 1) := by decide +kernel
theorem dX2_isMissing_0 : decode cX2_isMissing 0 = .ok (.iload_n 1, 1) := by decide +kernel
theorem dX2_isMissing_1 : decode cX2_isMissing 1 = .ok (.iconst (-1), 1) := by decide +kernel
theorem dX2_isMissing_2 : decode cX2_isMissing 2 = .ok (.if_icmp .eq 11, 3) := by decide +kernel
theorem dX2_isMissing_5 : decode cX2_isMissing 5 = .ok (.aload_n 0, 1) := by decide +kernel
theorem dX2_isMissing_6 : decode cX2_isMissing 6 = .ok (.iload_n 1, 1) := by decide +kernel
theorem dX2_isMissing_7 : decode cX2_isMissing 7 = .ok (.invokevirtual 48, 3) := by decide +kernel
theorem dX2_isMissing_10 : decode cX2_isMissing 10 = .ok (.ifCond .eq 7, 3) := by decide +kernel
theorem dX2_isMissing_13 : decode cX2_isMissing 13 = .ok (.iconst 1, 1) := by decide +kernel
theorem dX2_isMissing_14 : decode cX2_isMissing 14 = .ok (.goto 4, 3) := by decide +kernel
theorem dX2_isMissing_17 : decode cX2_isMissing 17 = .ok (.iconst 0, 1) := by decide +kernel
theorem dX2_isMissing_18 : decode cX2_isMissing 18 = .ok (.ireturn, 1) := by decide +kernel
theorem dX2_narrow_0 : decode cX2_narrow 0 = .ok (.aload_n 1, 1) := by decide +kernel
theorem dX2_narrow_1 : decode cX2_narrow 1 = .ok (.iload_n 2, 1) := by decide +kernel
theorem dX2_narrow_2 : decode cX2_narrow 2 = .ok (.invokevirtual 51, 3) := by decide +kernel
theorem dX2_narrow_5 : decode cX2_narrow 5 = .ok (.ifCond .eq 5, 3) := by decide +kernel
theorem dX2_narrow_8 : decode cX2_narrow 8 = .ok (.iconst 0, 1) := by decide +kernel
theorem dX2_narrow_9 : decode cX2_narrow 9 = .ok (.ireturn, 1) := by decide +kernel
theorem dX2_narrow_10 : decode cX2_narrow 10 = .ok (.iconst 0, 1) := by decide +kernel
theorem dX2_narrow_11 : decode cX2_narrow 11 = .ok (.istore 4, 2) := by decide +kernel
theorem dX2_narrow_13 : decode cX2_narrow 13 = .ok (.iload 4, 2) := by decide +kernel
theorem dX2_narrow_15 : decode cX2_narrow 15 = .ok (.aload_n 1, 1) := by decide +kernel
theorem dX2_narrow_16 : decode cX2_narrow 16 = .ok (.getfield 54, 3) := by decide +kernel
theorem dX2_narrow_19 : decode cX2_narrow 19 = .ok (.iload_n 2, 1) := by decide +kernel
theorem dX2_narrow_20 : decode cX2_narrow 20 = .ok (.iaload, 1) := by decide +kernel
theorem dX2_narrow_21 : decode cX2_narrow 21 = .ok (.if_icmp .ge 46, 3) := by decide +kernel
theorem dX2_narrow_24 : decode cX2_narrow 24 = .ok (.aload_n 1, 1) := by decide +kernel
theorem dX2_narrow_25 : decode cX2_narrow 25 = .ok (.iload_n 2, 1) := by decide +kernel
theorem dX2_narrow_26 : decode cX2_narrow 26 = .ok (.iload 4, 2) := by decide +kernel
theorem dX2_narrow_28 : decode cX2_narrow 28 = .ok (.invokevirtual 56, 3) := by decide +kernel
theorem dX2_narrow_31 : decode cX2_narrow 31 = .ok (.istore 5, 2) := by decide +kernel
theorem dX2_narrow_33 : decode cX2_narrow 33 = .ok (.iload 5, 2) := by decide +kernel
theorem dX2_narrow_35 : decode cX2_narrow 35 = .ok (.ifCond .ne 6, 3) := by decide +kernel
theorem dX2_narrow_38 : decode cX2_narrow 38 = .ok (.goto 23, 3) := by decide +kernel
theorem dX2_narrow_41 : decode cX2_narrow 41 = .ok (.iload 4, 2) := by decide +kernel
theorem dX2_narrow_43 : decode cX2_narrow 43 = .ok (.iload_n 3, 1) := by decide +kernel
theorem dX2_narrow_44 : decode cX2_narrow 44 = .ok (.if_icmp .lt 5, 3) := by decide +kernel
theorem dX2_narrow_47 : decode cX2_narrow 47 = .ok (.iconst 0, 1) := by decide +kernel
theorem dX2_narrow_48 : decode cX2_narrow 48 = .ok (.ireturn, 1) := by decide +kernel
theorem dX2_narrow_49 : decode cX2_narrow 49 = .ok (.aload_n 0, 1) := by decide +kernel
theorem dX2_narrow_50 : decode cX2_narrow 50 = .ok (.getfield 9, 3) := by decide +kernel
theorem dX2_narrow_53 : decode cX2_narrow 53 = .ok (.iload 4, 2) := by decide +kernel
theorem dX2_narrow_55 : decode cX2_narrow 55 = .ok (.dup2, 1) := by decide +kernel
theorem dX2_narrow_56 : decode cX2_narrow 56 = .ok (.iaload, 1) := by decide +kernel
theorem dX2_narrow_57 : decode cX2_narrow 57 = .ok (.iload 5, 2) := by decide +kernel
theorem dX2_narrow_59 : decode cX2_narrow 59 = .ok (.iand, 1) := by decide +kernel
theorem dX2_narrow_60 : decode cX2_narrow 60 = .ok (.iastore, 1) := by decide +kernel
theorem dX2_narrow_61 : decode cX2_narrow 61 = .ok (.iinc 4 1, 3) := by decide +kernel
theorem dX2_narrow_64 : decode cX2_narrow 64 = .ok (.goto (-51), 3) := by decide +kernel
theorem dX2_narrow_67 : decode cX2_narrow 67 = .ok (.iconst 1, 1) := by decide +kernel
theorem dX2_narrow_68 : decode cX2_narrow 68 = .ok (.ireturn, 1) := by decide +kernel
theorem dX2_countUp_0 : decode cX2_countUp 0 = .ok (.iload_n 1, 1) := by decide +kernel
theorem dX2_countUp_1 : decode cX2_countUp 1 = .ok (.ifCond .ne 5, 3) := by decide +kernel
theorem dX2_countUp_4 : decode cX2_countUp 4 = .ok (.lconst 1, 1) := by decide +kernel
theorem dX2_countUp_5 : decode cX2_countUp 5 = .ok (.lreturn, 1) := by decide +kernel
theorem dX2_countUp_6 : decode cX2_countUp 6 = .ok (.iconst 0, 1) := by decide +kernel
theorem dX2_countUp_7 : decode cX2_countUp 7 = .ok (.istore_n 3, 1) := by decide +kernel
theorem dX2_countUp_8 : decode cX2_countUp 8 = .ok (.iload_n 3, 1) := by decide +kernel
theorem dX2_countUp_9 : decode cX2_countUp 9 = .ok (.bipush 9, 2) := by decide +kernel
theorem dX2_countUp_11 : decode cX2_countUp 11 = .ok (.if_icmp .gt 26, 3) := by decide +kernel
theorem dX2_countUp_14 : decode cX2_countUp 14 = .ok (.aload_n 0, 1) := by decide +kernel
theorem dX2_countUp_15 : decode cX2_countUp 15 = .ok (.getfield 15, 3) := by decide +kernel
theorem dX2_countUp_18 : decode cX2_countUp 18 = .ok (.iload_n 3, 1) := by decide +kernel
theorem dX2_countUp_19 : decode cX2_countUp 19 = .ok (.aload_n 0, 1) := by decide +kernel
theorem dX2_countUp_20 : decode cX2_countUp 20 = .ok (.getfield 9, 3) := by decide +kernel
theorem dX2_countUp_23 : decode cX2_countUp 23 = .ok (.iconst 0, 1) := by decide +kernel
theorem dX2_countUp_24 : decode cX2_countUp 24 = .ok (.iaload, 1) := by decide +kernel
theorem dX2_countUp_25 : decode cX2_countUp 25 = .ok (.iload_n 3, 1) := by decide +kernel
theorem dX2_countUp_26 : decode cX2_countUp 26 = .ok (.ishr, 1) := by decide +kernel
theorem dX2_countUp_27 : decode cX2_countUp 27 = .ok (.iconst 1, 1) := by decide +kernel
theorem dX2_countUp_28 : decode cX2_countUp 28 = .ok (.iand, 1) := by decide +kernel
theorem dX2_countUp_29 : decode cX2_countUp 29 = .ok (.i2l, 1) := by decide +kernel
theorem dX2_countUp_30 : decode cX2_countUp 30 = .ok (.lastore, 1) := by decide +kernel
theorem dX2_countUp_31 : decode cX2_countUp 31 = .ok (.iinc 3 1, 3) := by decide +kernel
theorem dX2_countUp_34 : decode cX2_countUp 34 = .ok (.goto (-26), 3) := by decide +kernel
theorem dX2_countUp_37 : decode cX2_countUp 37 = .ok (.iconst 1, 1) := by decide +kernel
theorem dX2_countUp_38 : decode cX2_countUp 38 = .ok (.istore_n 3, 1) := by decide +kernel
theorem dX2_countUp_39 : decode cX2_countUp 39 = .ok (.iload_n 3, 1) := by decide +kernel
theorem dX2_countUp_40 : decode cX2_countUp 40 = .ok (.iload_n 1, 1) := by decide +kernel
theorem dX2_countUp_41 : decode cX2_countUp 41 = .ok (.if_icmp .ge 20, 3) := by decide +kernel
theorem dX2_countUp_44 : decode cX2_countUp 44 = .ok (.aload_n 0, 1) := by decide +kernel
theorem dX2_countUp_45 : decode cX2_countUp 45 = .ok (.aload_n 0, 1) := by decide +kernel
theorem dX2_countUp_46 : decode cX2_countUp 46 = .ok (.getfield 9, 3) := by decide +kernel
theorem dX2_countUp_49 : decode cX2_countUp 49 = .ok (.iload_n 3, 1) := by decide +kernel
theorem dX2_countUp_50 : decode cX2_countUp 50 = .ok (.iaload, 1) := by decide +kernel
theorem dX2_countUp_51 : decode cX2_countUp 51 = .ok (.iload_n 2, 1) := by decide +kernel
theorem dX2_countUp_52 : decode cX2_countUp 52 = .ok (.invokevirtual 60, 3) := by decide +kernel
theorem dX2_countUp_55 : decode cX2_countUp 55 = .ok (.iinc 3 1, 3) := by decide +kernel
theorem dX2_countUp_58 : decode cX2_countUp 58 = .ok (.goto (-19), 3) := by decide +kernel
theorem dX2_countUp_61 : decode cX2_countUp 61 = .ok (.lconst 0, 1) := by decide +kernel
theorem dX2_countUp_62 : decode cX2_countUp 62 = .ok (.lstore_n 3, 1) := by decide +kernel
theorem dX2_countUp_63 : decode cX2_countUp 63 = .ok (.iconst 0, 1) := by decide +kernel
theorem dX2_countUp_64 : decode cX2_countUp 64 = .ok (.istore 5, 2) := by decide +kernel
theorem dX2_countUp_66 : decode cX2_countUp 66 = .ok (.iload 5, 2) := by decide +kernel
theorem dX2_countUp_68 : decode cX2_countUp 68 = .ok (.bipush 9, 2) := by decide +kernel
theorem dX2_countUp_70 : decode cX2_countUp 70 = .ok (.if_icmp .gt 19, 3) := by decide +kernel
theorem dX2_countUp_73 : decode cX2_countUp 73 = .ok (.lload_n 3, 1) := by decide +kernel
theorem dX2_countUp_74 : decode cX2_countUp 74 = .ok (.aload_n 0, 1) := by decide +kernel
theorem dX2_countUp_75 : decode cX2_countUp 75 = .ok (.getfield 15, 3) := by decide +kernel
theorem dX2_countUp_78 : decode cX2_countUp 78 = .ok (.iload 5, 2) := by decide +kernel
theorem dX2_countUp_80 : decode cX2_countUp 80 = .ok (.laload, 1) := by decide +kernel
theorem dX2_countUp_81 : decode cX2_countUp 81 = .ok (.ladd, 1) := by decide +kernel
theorem dX2_countUp_82 : decode cX2_countUp 82 = .ok (.lstore_n 3, 1) := by decide +kernel
theorem dX2_countUp_83 : decode cX2_countUp 83 = .ok (.iinc 5 1, 3) := by decide +kernel
theorem dX2_countUp_86 : decode cX2_countUp 86 = .ok (.goto (-20), 3) := by decide +kernel
theorem dX2_countUp_89 : decode cX2_countUp 89 = .ok (.lload_n 3, 1) := by decide +kernel
theorem dX2_countUp_90 : decode cX2_countUp 90 = .ok (.lreturn, 1) := by decide +kernel
theorem dX2_lengthen_0 : decode cX2_lengthen 0 = .ok (.iconst 0, 1) := by decide +kernel
theorem dX2_lengthen_1 : decode cX2_lengthen 1 = .ok (.istore_n 3, 1) := by decide +kernel
theorem dX2_lengthen_2 : decode cX2_lengthen 2 = .ok (.iload_n 3, 1) := by decide +kernel
theorem dX2_lengthen_3 : decode cX2_lengthen 3 = .ok (.bipush 9, 2) := by decide +kernel
theorem dX2_lengthen_5 : decode cX2_lengthen 5 = .ok (.if_icmp .gt 33, 3) := by decide +kernel
theorem dX2_lengthen_8 : decode cX2_lengthen 8 = .ok (.aload_n 0, 1) := by decide +kernel
theorem dX2_lengthen_9 : decode cX2_lengthen 9 = .ok (.getfield 19, 3) := by decide +kernel
theorem dX2_lengthen_12 : decode cX2_lengthen 12 = .ok (.iload_n 3, 1) := by decide +kernel
theorem dX2_lengthen_13 : decode cX2_lengthen 13 = .ok (.iload_n 1, 1) := by decide +kernel
theorem dX2_lengthen_14 : decode cX2_lengthen 14 = .ok (.iconst 1, 1) := by decide +kernel
theorem dX2_lengthen_15 : decode cX2_lengthen 15 = .ok (.iload_n 3, 1) := by decide +kernel
theorem dX2_lengthen_16 : decode cX2_lengthen 16 = .ok (.ishl, 1) := by decide +kernel
theorem dX2_lengthen_17 : decode cX2_lengthen 17 = .ok (.iand, 1) := by decide +kernel
theorem dX2_lengthen_18 : decode cX2_lengthen 18 = .ok (.ifCond .ne 7, 3) := by decide +kernel
theorem dX2_lengthen_21 : decode cX2_lengthen 21 = .ok (.lconst 0, 1) := by decide +kernel
theorem dX2_lengthen_22 : decode cX2_lengthen 22 = .ok (.goto 9, 3) := by decide +kernel
theorem dX2_lengthen_25 : decode cX2_lengthen 25 = .ok (.aload_n 0, 1) := by decide +kernel
theorem dX2_lengthen_26 : decode cX2_lengthen 26 = .ok (.iload_n 3, 1) := by decide +kernel
theorem dX2_lengthen_27 : decode cX2_lengthen 27 = .ok (.iload_n 2, 1) := by decide +kernel
theorem dX2_lengthen_28 : decode cX2_lengthen 28 = .ok (.invokevirtual 64, 3) := by decide +kernel
theorem dX2_lengthen_31 : decode cX2_lengthen 31 = .ok (.lastore, 1) := by decide +kernel
theorem dX2_lengthen_32 : decode cX2_lengthen 32 = .ok (.iinc 3 1, 3) := by decide +kernel
theorem dX2_lengthen_35 : decode cX2_lengthen 35 = .ok (.goto (-33), 3) := by decide +kernel
theorem dX2_lengthen_38 : decode cX2_lengthen 38 = .ok (.aload_n 0, 1) := by decide +kernel
theorem dX2_lengthen_39 : decode cX2_lengthen 39 = .ok (.getfield 15, 3) := by decide +kernel
theorem dX2_lengthen_42 : decode cX2_lengthen 42 = .ok (.astore_n 3, 1) := by decide +kernel
theorem dX2_lengthen_43 : decode cX2_lengthen 43 = .ok (.aload_n 0, 1) := by decide +kernel
theorem dX2_lengthen_44 : decode cX2_lengthen 44 = .ok (.aload_n 0, 1) := by decide +kernel
theorem dX2_lengthen_45 : decode cX2_lengthen 45 = .ok (.getfield 19, 3) := by decide +kernel
theorem dX2_lengthen_48 : decode cX2_lengthen 48 = .ok (.putfield 15, 3) := by decide +kernel
theorem dX2_lengthen_51 : decode cX2_lengthen 51 = .ok (.aload_n 0, 1) := by decide +kernel
theorem dX2_lengthen_52 : decode cX2_lengthen 52 = .ok (.aload_n 3, 1) := by decide +kernel
theorem dX2_lengthen_53 : decode cX2_lengthen 53 = .ok (.putfield 19, 3) := by decide +kernel
theorem dX2_lengthen_56 : decode cX2_lengthen 56 = .ok (.return_, 1) := by decide +kernel
theorem dX2_rowsNear_0 : decode cX2_rowsNear 0 = .ok (.bipush 9, 2) := by decide +kernel
theorem dX2_rowsNear_2 : decode cX2_rowsNear 2 = .ok (.iload_n 1, 1) := by decide +kernel
theorem dX2_rowsNear_3 : decode cX2_rowsNear 3 = .ok (.iload_n 2, 1) := by decide +kernel
theorem dX2_rowsNear_4 : decode cX2_rowsNear 4 = .ok (.iadd, 1) := by decide +kernel
theorem dX2_rowsNear_5 : decode cX2_rowsNear 5 = .ok (.invokestatic 67, 3) := by decide +kernel
theorem dX2_rowsNear_8 : decode cX2_rowsNear 8 = .ok (.istore_n 3, 1) := by decide +kernel
theorem dX2_rowsNear_9 : decode cX2_rowsNear 9 = .ok (.lconst 0, 1) := by decide +kernel
theorem dX2_rowsNear_10 : decode cX2_rowsNear 10 = .ok (.lstore 4, 2) := by decide +kernel
theorem dX2_rowsNear_12 : decode cX2_rowsNear 12 = .ok (.iconst 0, 1) := by decide +kernel
theorem dX2_rowsNear_13 : decode cX2_rowsNear 13 = .ok (.iload_n 1, 1) := by decide +kernel
theorem dX2_rowsNear_14 : decode cX2_rowsNear 14 = .ok (.iload_n 2, 1) := by decide +kernel
theorem dX2_rowsNear_15 : decode cX2_rowsNear 15 = .ok (.isub, 1) := by decide +kernel
theorem dX2_rowsNear_16 : decode cX2_rowsNear 16 = .ok (.invokestatic 72, 3) := by decide +kernel
theorem dX2_rowsNear_19 : decode cX2_rowsNear 19 = .ok (.istore 6, 2) := by decide +kernel
theorem dX2_rowsNear_21 : decode cX2_rowsNear 21 = .ok (.iload 6, 2) := by decide +kernel
theorem dX2_rowsNear_23 : decode cX2_rowsNear 23 = .ok (.iload_n 3, 1) := by decide +kernel
theorem dX2_rowsNear_24 : decode cX2_rowsNear 24 = .ok (.if_icmp .gt 21, 3) := by decide +kernel
theorem dX2_rowsNear_27 : decode cX2_rowsNear 27 = .ok (.lload 4, 2) := by decide +kernel
theorem dX2_rowsNear_29 : decode cX2_rowsNear 29 = .ok (.aload_n 0, 1) := by decide +kernel
theorem dX2_rowsNear_30 : decode cX2_rowsNear 30 = .ok (.getfield 15, 3) := by decide +kernel
theorem dX2_rowsNear_33 : decode cX2_rowsNear 33 = .ok (.iload 6, 2) := by decide +kernel
theorem dX2_rowsNear_35 : decode cX2_rowsNear 35 = .ok (.laload, 1) := by decide +kernel
theorem dX2_rowsNear_36 : decode cX2_rowsNear 36 = .ok (.ladd, 1) := by decide +kernel
theorem dX2_rowsNear_37 : decode cX2_rowsNear 37 = .ok (.lstore 4, 2) := by decide +kernel
theorem dX2_rowsNear_39 : decode cX2_rowsNear 39 = .ok (.iinc 6 1, 3) := by decide +kernel
theorem dX2_rowsNear_42 : decode cX2_rowsNear 42 = .ok (.goto (-21), 3) := by decide +kernel
theorem dX2_rowsNear_45 : decode cX2_rowsNear 45 = .ok (.lload 4, 2) := by decide +kernel
theorem dX2_rowsNear_47 : decode cX2_rowsNear 47 = .ok (.lreturn, 1) := by decide +kernel
theorem dX3_init_0 : decode cX3_init 0 = .ok (.aload_n 0, 1) := by decide +kernel
theorem dX3_init_1 : decode cX3_init 1 = .ok (.invokespecial 3, 3) := by decide +kernel
theorem dX3_init_4 : decode cX3_init 4 = .ok (.aload_n 0, 1) := by decide +kernel
theorem dX3_init_5 : decode cX3_init 5 = .ok (.iconst 0, 1) := by decide +kernel
theorem dX3_init_6 : decode cX3_init 6 = .ok (.putfield 9, 3) := by decide +kernel
theorem dX3_init_9 : decode cX3_init 9 = .ok (.aload_n 0, 1) := by decide +kernel
theorem dX3_init_10 : decode cX3_init 10 = .ok (.bipush 6, 2) := by decide +kernel
theorem dX3_init_12 : decode cX3_init 12 = .ok (.newarray .int, 2) := by decide +kernel
theorem dX3_init_14 : decode cX3_init 14 = .ok (.putfield 15, 3) := by decide +kernel
theorem dX3_init_17 : decode cX3_init 17 = .ok (.aload_n 0, 1) := by decide +kernel
theorem dX3_init_18 : decode cX3_init 18 = .ok (.bipush 6, 2) := by decide +kernel
theorem dX3_init_20 : decode cX3_init 20 = .ok (.newarray .int, 2) := by decide +kernel
theorem dX3_init_22 : decode cX3_init 22 = .ok (.putfield 19, 3) := by decide +kernel
theorem dX3_init_25 : decode cX3_init 25 = .ok (.aload_n 0, 1) := by decide +kernel
theorem dX3_init_26 : decode cX3_init 26 = .ok (.bipush 6, 2) := by decide +kernel
theorem dX3_init_28 : decode cX3_init 28 = .ok (.newarray .int, 2) := by decide +kernel
theorem dX3_init_30 : decode cX3_init 30 = .ok (.putfield 22, 3) := by decide +kernel
theorem dX3_init_33 : decode cX3_init 33 = .ok (.aload_n 0, 1) := by decide +kernel
theorem dX3_init_34 : decode cX3_init 34 = .ok (.bipush 6, 2) := by decide +kernel
theorem dX3_init_36 : decode cX3_init 36 = .ok (.newarray .int, 2) := by decide +kernel
theorem dX3_init_38 : decode cX3_init 38 = .ok (.putfield 25, 3) := by decide +kernel
theorem dX3_init_41 : decode cX3_init 41 = .ok (.aload_n 0, 1) := by decide +kernel
theorem dX3_init_42 : decode cX3_init 42 = .ok (.bipush 30, 2) := by decide +kernel
theorem dX3_init_44 : decode cX3_init 44 = .ok (.newarray .int, 2) := by decide +kernel
theorem dX3_init_46 : decode cX3_init 46 = .ok (.putfield 28, 3) := by decide +kernel
theorem dX3_init_49 : decode cX3_init 49 = .ok (.aload_n 0, 1) := by decide +kernel
theorem dX3_init_50 : decode cX3_init 50 = .ok (.bipush 30, 2) := by decide +kernel
theorem dX3_init_52 : decode cX3_init 52 = .ok (.newarray .int, 2) := by decide +kernel
theorem dX3_init_54 : decode cX3_init 54 = .ok (.putfield 31, 3) := by decide +kernel
theorem dX3_init_57 : decode cX3_init 57 = .ok (.aload_n 0, 1) := by decide +kernel
theorem dX3_init_58 : decode cX3_init 58 = .ok (.bipush 6, 2) := by decide +kernel
theorem dX3_init_60 : decode cX3_init 60 = .ok (.bipush 30, 2) := by decide +kernel
theorem dX3_init_62 : decode cX3_init 62 = .ok (.multianewarray 34 2, 4) := by decide +kernel
theorem dX3_init_66 : decode cX3_init 66 = .ok (.putfield 36, 3) := by decide +kernel
theorem dX3_init_69 : decode cX3_init 69 = .ok (.return_, 1) := by decide +kernel
theorem dX3_begin_0 : decode cX3_begin 0 = .ok (.aload_n 0, 1) := by decide +kernel
theorem dX3_begin_1 : decode cX3_begin 1 = .ok (.iload_n 1, 1) := by decide +kernel
theorem dX3_begin_2 : decode cX3_begin 2 = .ok (.putfield 39, 3) := by decide +kernel
theorem dX3_begin_5 : decode cX3_begin 5 = .ok (.aload_n 0, 1) := by decide +kernel
theorem dX3_begin_6 : decode cX3_begin 6 = .ok (.iload_n 2, 1) := by decide +kernel
theorem dX3_begin_7 : decode cX3_begin 7 = .ok (.putfield 42, 3) := by decide +kernel
theorem dX3_begin_10 : decode cX3_begin 10 = .ok (.aload_n 0, 1) := by decide +kernel
theorem dX3_begin_11 : decode cX3_begin 11 = .ok (.iload_n 3, 1) := by decide +kernel
theorem dX3_begin_12 : decode cX3_begin 12 = .ok (.putfield 45, 3) := by decide +kernel
theorem dX3_begin_15 : decode cX3_begin 15 = .ok (.aload_n 0, 1) := by decide +kernel
theorem dX3_begin_16 : decode cX3_begin 16 = .ok (.iload 4, 2) := by decide +kernel
theorem dX3_begin_18 : decode cX3_begin 18 = .ok (.putfield 48, 3) := by decide +kernel
theorem dX3_begin_21 : decode cX3_begin 21 = .ok (.return_, 1) := by decide +kernel
theorem dX3_readDoors_0 : decode cX3_readDoors 0 = .ok (.aload_n 0, 1) := by decide +kernel
theorem dX3_readDoors_1 : decode cX3_readDoors 1 = .ok (.iconst 0, 1) := by decide +kernel
theorem dX3_readDoors_2 : decode cX3_readDoors 2 = .ok (.putfield 51, 3) := by decide +kernel
theorem dX3_readDoors_5 : decode cX3_readDoors 5 = .ok (.iconst 0, 1) := by decide +kernel
theorem dX3_readDoors_6 : decode cX3_readDoors 6 = .ok (.istore_n 2, 1) := by decide +kernel
theorem dX3_readDoors_7 : decode cX3_readDoors 7 = .ok (.iload_n 2, 1) := by decide +kernel
theorem dX3_readDoors_8 : decode cX3_readDoors 8 = .ok (.aload_n 0, 1) := by decide +kernel
theorem dX3_readDoors_9 : decode cX3_readDoors 9 = .ok (.getfield 42, 3) := by decide +kernel
theorem dX3_readDoors_12 : decode cX3_readDoors 12 = .ok (.if_icmp .ge 92, 3) := by decide +kernel
theorem dX3_readDoors_15 : decode cX3_readDoors 15 = .ok (.aload_n 1, 1) := by decide +kernel
theorem dX3_readDoors_16 : decode cX3_readDoors 16 = .ok (.getfield 54, 3) := by decide +kernel
theorem dX3_readDoors_19 : decode cX3_readDoors 19 = .ok (.iload_n 2, 1) := by decide +kernel
theorem dX3_readDoors_20 : decode cX3_readDoors 20 = .ok (.iaload, 1) := by decide +kernel
theorem dX3_readDoors_21 : decode cX3_readDoors 21 = .ok (.istore_n 3, 1) := by decide +kernel
theorem dX3_readDoors_22 : decode cX3_readDoors 22 = .ok (.aload_n 0, 1) := by decide +kernel
theorem dX3_readDoors_23 : decode cX3_readDoors 23 = .ok (.getfield 25, 3) := by decide +kernel
theorem dX3_readDoors_26 : decode cX3_readDoors 26 = .ok (.iload_n 2, 1) := by decide +kernel
theorem dX3_readDoors_27 : decode cX3_readDoors 27 = .ok (.aload_n 1, 1) := by decide +kernel
theorem dX3_readDoors_28 : decode cX3_readDoors 28 = .ok (.getfield 59, 3) := by decide +kernel
theorem dX3_readDoors_31 : decode cX3_readDoors 31 = .ok (.iload_n 3, 1) := by decide +kernel
theorem dX3_readDoors_32 : decode cX3_readDoors 32 = .ok (.invokevirtual 63, 3) := by decide +kernel
theorem dX3_readDoors_35 : decode cX3_readDoors 35 = .ok (.iastore, 1) := by decide +kernel
theorem dX3_readDoors_36 : decode cX3_readDoors 36 = .ok (.aload_n 1, 1) := by decide +kernel
theorem dX3_readDoors_37 : decode cX3_readDoors 37 = .ok (.getfield 59, 3) := by decide +kernel
theorem dX3_readDoors_40 : decode cX3_readDoors 40 = .ok (.iload_n 3, 1) := by decide +kernel
theorem dX3_readDoors_41 : decode cX3_readDoors 41 = .ok (.invokevirtual 68, 3) := by decide +kernel
theorem dX3_readDoors_44 : decode cX3_readDoors 44 = .ok (.ifCond .eq 15, 3) := by decide +kernel
theorem dX3_readDoors_47 : decode cX3_readDoors 47 = .ok (.aload_n 0, 1) := by decide +kernel
theorem dX3_readDoors_48 : decode cX3_readDoors 48 = .ok (.dup, 1) := by decide +kernel
theorem dX3_readDoors_49 : decode cX3_readDoors 49 = .ok (.getfield 51, 3) := by decide +kernel
theorem dX3_readDoors_52 : decode cX3_readDoors 52 = .ok (.iconst 1, 1) := by decide +kernel
theorem dX3_readDoors_53 : decode cX3_readDoors 53 = .ok (.iload_n 2, 1) := by decide +kernel
theorem dX3_readDoors_54 : decode cX3_readDoors 54 = .ok (.ishl, 1) := by decide +kernel
theorem dX3_readDoors_55 : decode cX3_readDoors 55 = .ok (.ior, 1) := by decide +kernel
theorem dX3_readDoors_56 : decode cX3_readDoors 56 = .ok (.putfield 51, 3) := by decide +kernel
theorem dX3_readDoors_59 : decode cX3_readDoors 59 = .ok (.iconst 0, 1) := by decide +kernel
theorem dX3_readDoors_60 : decode cX3_readDoors 60 = .ok (.istore 4, 2) := by decide +kernel
theorem dX3_readDoors_62 : decode cX3_readDoors 62 = .ok (.iload 4, 2) := by decide +kernel
theorem dX3_readDoors_64 : decode cX3_readDoors 64 = .ok (.aload_n 0, 1) := by decide +kernel
theorem dX3_readDoors_65 : decode cX3_readDoors 65 = .ok (.getfield 45, 3) := by decide +kernel
theorem dX3_readDoors_68 : decode cX3_readDoors 68 = .ok (.if_icmp .ge 30, 3) := by decide +kernel
theorem dX3_readDoors_71 : decode cX3_readDoors 71 = .ok (.aload_n 0, 1) := by decide +kernel
theorem dX3_readDoors_72 : decode cX3_readDoors 72 = .ok (.getfield 28, 3) := by decide +kernel
theorem dX3_readDoors_75 : decode cX3_readDoors 75 = .ok (.iload_n 2, 1) := by decide +kernel
theorem dX3_readDoors_76 : decode cX3_readDoors 76 = .ok (.iconst 5, 1) := by decide +kernel
theorem dX3_readDoors_77 : decode cX3_readDoors 77 = .ok (.imul, 1) := by decide +kernel
theorem dX3_readDoors_78 : decode cX3_readDoors 78 = .ok (.iload 4, 2) := by decide +kernel
theorem dX3_readDoors_80 : decode cX3_readDoors 80 = .ok (.iadd, 1) := by decide +kernel
theorem dX3_readDoors_81 : decode cX3_readDoors 81 = .ok (.aload_n 1, 1) := by decide +kernel
theorem dX3_readDoors_82 : decode cX3_readDoors 82 = .ok (.getfield 59, 3) := by decide +kernel
theorem dX3_readDoors_85 : decode cX3_readDoors 85 = .ok (.iload_n 3, 1) := by decide +kernel
theorem dX3_readDoors_86 : decode cX3_readDoors 86 = .ok (.iload 4, 2) := by decide +kernel
theorem dX3_readDoors_88 : decode cX3_readDoors 88 = .ok (.invokevirtual 72, 3) := by decide +kernel
theorem dX3_readDoors_91 : decode cX3_readDoors 91 = .ok (.iastore, 1) := by decide +kernel
theorem dX3_readDoors_92 : decode cX3_readDoors 92 = .ok (.iinc 4 1, 3) := by decide +kernel
theorem dX3_readDoors_95 : decode cX3_readDoors 95 = .ok (.goto (-33), 3) := by decide +kernel
theorem dX3_readDoors_98 : decode cX3_readDoors 98 = .ok (.iinc 2 1, 3) := by decide +kernel
theorem dX3_readDoors_101 : decode cX3_readDoors 101 = .ok (.goto (-94), 3) := by decide +kernel
theorem dX3_readDoors_104 : decode cX3_readDoors 104 = .ok (.return_, 1) := by decide +kernel
theorem dX3_readKeys_0 : decode cX3_readKeys 0 = .ok (.lconst 1, 1) := by decide +kernel
theorem dX3_readKeys_1 : decode cX3_readKeys 1 = .ok (.aload_n 0, 1) := by decide +kernel
theorem dX3_readKeys_2 : decode cX3_readKeys 2 = .ok (.getfield 42, 3) := by decide +kernel
theorem dX3_readKeys_5 : decode cX3_readKeys 5 = .ok (.lshl, 1) := by decide +kernel
theorem dX3_readKeys_6 : decode cX3_readKeys 6 = .ok (.lconst 1, 1) := by decide +kernel
theorem dX3_readKeys_7 : decode cX3_readKeys 7 = .ok (.lsub, 1) := by decide +kernel
theorem dX3_readKeys_8 : decode cX3_readKeys 8 = .ok (.lstore_n 3, 1) := by decide +kernel
theorem dX3_readKeys_9 : decode cX3_readKeys 9 = .ok (.aload_n 0, 1) := by decide +kernel
theorem dX3_readKeys_10 : decode cX3_readKeys 10 = .ok (.iconst (-1), 1) := by decide +kernel
theorem dX3_readKeys_11 : decode cX3_readKeys 11 = .ok (.putfield 76, 3) := by decide +kernel
theorem dX3_readKeys_14 : decode cX3_readKeys 14 = .ok (.aload_n 0, 1) := by decide +kernel
theorem dX3_readKeys_15 : decode cX3_readKeys 15 = .ok (.iconst 0, 1) := by decide +kernel
theorem dX3_readKeys_16 : decode cX3_readKeys 16 = .ok (.putfield 79, 3) := by decide +kernel
theorem dX3_readKeys_19 : decode cX3_readKeys 19 = .ok (.aload_n 0, 1) := by decide +kernel
theorem dX3_readKeys_20 : decode cX3_readKeys 20 = .ok (.iconst 0, 1) := by decide +kernel
theorem dX3_readKeys_21 : decode cX3_readKeys 21 = .ok (.putfield 82, 3) := by decide +kernel
theorem dX3_readKeys_24 : decode cX3_readKeys 24 = .ok (.iconst 0, 1) := by decide +kernel
theorem dX3_readKeys_25 : decode cX3_readKeys 25 = .ok (.istore 5, 2) := by decide +kernel
theorem dX3_readKeys_27 : decode cX3_readKeys 27 = .ok (.iload 5, 2) := by decide +kernel
theorem dX3_readKeys_29 : decode cX3_readKeys 29 = .ok (.aload_n 0, 1) := by decide +kernel
theorem dX3_readKeys_30 : decode cX3_readKeys 30 = .ok (.getfield 39, 3) := by decide +kernel
theorem dX3_readKeys_33 : decode cX3_readKeys 33 = .ok (.if_icmp .ge 89, 3) := by decide +kernel
theorem dX3_readKeys_36 : decode cX3_readKeys 36 = .ok (.iload 5, 2) := by decide +kernel
theorem dX3_readKeys_38 : decode cX3_readKeys 38 = .ok (.iload_n 2, 1) := by decide +kernel
theorem dX3_readKeys_39 : decode cX3_readKeys 39 = .ok (.if_icmp .ne 6, 3) := by decide +kernel
theorem dX3_readKeys_42 : decode cX3_readKeys 42 = .ok (.goto 74, 3) := by decide +kernel
theorem dX3_readKeys_45 : decode cX3_readKeys 45 = .ok (.aload_n 0, 1) := by decide +kernel
theorem dX3_readKeys_46 : decode cX3_readKeys 46 = .ok (.getfield 19, 3) := by decide +kernel
theorem dX3_readKeys_49 : decode cX3_readKeys 49 = .ok (.iload 5, 2) := by decide +kernel
theorem dX3_readKeys_51 : decode cX3_readKeys 51 = .ok (.aload_n 1, 1) := by decide +kernel
theorem dX3_readKeys_52 : decode cX3_readKeys 52 = .ok (.getfield 85, 3) := by decide +kernel
theorem dX3_readKeys_55 : decode cX3_readKeys 55 = .ok (.iload 5, 2) := by decide +kernel
theorem dX3_readKeys_57 : decode cX3_readKeys 57 = .ok (.laload, 1) := by decide +kernel
theorem dX3_readKeys_58 : decode cX3_readKeys 58 = .ok (.lload_n 3, 1) := by decide +kernel
theorem dX3_readKeys_59 : decode cX3_readKeys 59 = .ok (.land, 1) := by decide +kernel
theorem dX3_readKeys_60 : decode cX3_readKeys 60 = .ok (.l2i, 1) := by decide +kernel
theorem dX3_readKeys_61 : decode cX3_readKeys 61 = .ok (.iastore, 1) := by decide +kernel
theorem dX3_readKeys_62 : decode cX3_readKeys 62 = .ok (.aload_n 0, 1) := by decide +kernel
theorem dX3_readKeys_63 : decode cX3_readKeys 63 = .ok (.getfield 22, 3) := by decide +kernel
theorem dX3_readKeys_66 : decode cX3_readKeys 66 = .ok (.iload 5, 2) := by decide +kernel
theorem dX3_readKeys_68 : decode cX3_readKeys 68 = .ok (.aload_n 1, 1) := by decide +kernel
theorem dX3_readKeys_69 : decode cX3_readKeys 69 = .ok (.getfield 91, 3) := by decide +kernel
theorem dX3_readKeys_72 : decode cX3_readKeys 72 = .ok (.iload 5, 2) := by decide +kernel
theorem dX3_readKeys_74 : decode cX3_readKeys 74 = .ok (.laload, 1) := by decide +kernel
theorem dX3_readKeys_75 : decode cX3_readKeys 75 = .ok (.lload_n 3, 1) := by decide +kernel
theorem dX3_readKeys_76 : decode cX3_readKeys 76 = .ok (.land, 1) := by decide +kernel
theorem dX3_readKeys_77 : decode cX3_readKeys 77 = .ok (.l2i, 1) := by decide +kernel
theorem dX3_readKeys_78 : decode cX3_readKeys 78 = .ok (.iastore, 1) := by decide +kernel
theorem dX3_readKeys_79 : decode cX3_readKeys 79 = .ok (.aload_n 0, 1) := by decide +kernel
theorem dX3_readKeys_80 : decode cX3_readKeys 80 = .ok (.dup, 1) := by decide +kernel
theorem dX3_readKeys_81 : decode cX3_readKeys 81 = .ok (.getfield 82, 3) := by decide +kernel
theorem dX3_readKeys_84 : decode cX3_readKeys 84 = .ok (.aload_n 0, 1) := by decide +kernel
theorem dX3_readKeys_85 : decode cX3_readKeys 85 = .ok (.getfield 19, 3) := by decide +kernel
theorem dX3_readKeys_88 : decode cX3_readKeys 88 = .ok (.iload 5, 2) := by decide +kernel
theorem dX3_readKeys_90 : decode cX3_readKeys 90 = .ok (.iaload, 1) := by decide +kernel
theorem dX3_readKeys_91 : decode cX3_readKeys 91 = .ok (.ior, 1) := by decide +kernel
theorem dX3_readKeys_92 : decode cX3_readKeys 92 = .ok (.putfield 82, 3) := by decide +kernel
theorem dX3_readKeys_95 : decode cX3_readKeys 95 = .ok (.aload_n 0, 1) := by decide +kernel
theorem dX3_readKeys_96 : decode cX3_readKeys 96 = .ok (.getfield 15, 3) := by decide +kernel
theorem dX3_readKeys_99 : decode cX3_readKeys 99 = .ok (.aload_n 0, 1) := by decide +kernel
theorem dX3_readKeys_100 : decode cX3_readKeys 100 = .ok (.getfield 79, 3) := by decide +kernel
theorem dX3_readKeys_103 : decode cX3_readKeys 103 = .ok (.iload 5, 2) := by decide +kernel
theorem dX3_readKeys_105 : decode cX3_readKeys 105 = .ok (.iastore, 1) := by decide +kernel
theorem dX3_readKeys_106 : decode cX3_readKeys 106 = .ok (.aload_n 0, 1) := by decide +kernel
theorem dX3_readKeys_107 : decode cX3_readKeys 107 = .ok (.dup, 1) := by decide +kernel
theorem dX3_readKeys_108 : decode cX3_readKeys 108 = .ok (.getfield 79, 3) := by decide +kernel
theorem dX3_readKeys_111 : decode cX3_readKeys 111 = .ok (.iconst 1, 1) := by decide +kernel
theorem dX3_readKeys_112 : decode cX3_readKeys 112 = .ok (.iadd, 1) := by decide +kernel
theorem dX3_readKeys_113 : decode cX3_readKeys 113 = .ok (.putfield 79, 3) := by decide +kernel
theorem dX3_readKeys_116 : decode cX3_readKeys 116 = .ok (.iinc 5 1, 3) := by decide +kernel
theorem dX3_readKeys_119 : decode cX3_readKeys 119 = .ok (.goto (-92), 3) := by decide +kernel
theorem dX3_readKeys_122 : decode cX3_readKeys 122 = .ok (.return_, 1) := by decide +kernel
theorem dX3_passOver_0 : decode cX3_passOver 0 = .ok (.aload_n 0, 1) := by decide +kernel
theorem dX3_passOver_1 : decode cX3_passOver 1 = .ok (.iload_n 2, 1) := by decide +kernel
theorem dX3_passOver_2 : decode cX3_passOver 2 = .ok (.putfield 76, 3) := by decide +kernel
theorem dX3_passOver_5 : decode cX3_passOver 5 = .ok (.aload_n 0, 1) := by decide +kernel
theorem dX3_passOver_6 : decode cX3_passOver 6 = .ok (.getfield 22, 3) := by decide +kernel
theorem dX3_passOver_9 : decode cX3_passOver 9 = .ok (.iload_n 2, 1) := by decide +kernel
theorem dX3_passOver_10 : decode cX3_passOver 10 = .ok (.iload_n 3, 1) := by decide +kernel
theorem dX3_passOver_11 : decode cX3_passOver 11 = .ok (.iastore, 1) := by decide +kernel
theorem dX3_passOver_12 : decode cX3_passOver 12 = .ok (.iconst 0, 1) := by decide +kernel
theorem dX3_passOver_13 : decode cX3_passOver 13 = .ok (.istore 4, 2) := by decide +kernel
theorem dX3_passOver_15 : decode cX3_passOver 15 = .ok (.iload 4, 2) := by decide +kernel
theorem dX3_passOver_17 : decode cX3_passOver 17 = .ok (.aload_n 0, 1) := by decide +kernel
theorem dX3_passOver_18 : decode cX3_passOver 18 = .ok (.getfield 45, 3) := by decide +kernel
theorem dX3_passOver_21 : decode cX3_passOver 21 = .ok (.if_icmp .ge 27, 3) := by decide +kernel
theorem dX3_passOver_24 : decode cX3_passOver 24 = .ok (.aload_n 0, 1) := by decide +kernel
theorem dX3_passOver_25 : decode cX3_passOver 25 = .ok (.getfield 31, 3) := by decide +kernel
theorem dX3_passOver_28 : decode cX3_passOver 28 = .ok (.iload_n 2, 1) := by decide +kernel
theorem dX3_passOver_29 : decode cX3_passOver 29 = .ok (.iconst 5, 1) := by decide +kernel
theorem dX3_passOver_30 : decode cX3_passOver 30 = .ok (.imul, 1) := by decide +kernel
theorem dX3_passOver_31 : decode cX3_passOver 31 = .ok (.iload 4, 2) := by decide +kernel
theorem dX3_passOver_33 : decode cX3_passOver 33 = .ok (.iadd, 1) := by decide +kernel
theorem dX3_passOver_34 : decode cX3_passOver 34 = .ok (.aload_n 1, 1) := by decide +kernel
theorem dX3_passOver_35 : decode cX3_passOver 35 = .ok (.iload_n 2, 1) := by decide +kernel
theorem dX3_passOver_36 : decode cX3_passOver 36 = .ok (.iload 4, 2) := by decide +kernel
theorem dX3_passOver_38 : decode cX3_passOver 38 = .ok (.invokevirtual 94, 3) := by decide +kernel
theorem dX3_passOver_41 : decode cX3_passOver 41 = .ok (.iastore, 1) := by decide +kernel
theorem dX3_passOver_42 : decode cX3_passOver 42 = .ok (.iinc 4 1, 3) := by decide +kernel
theorem dX3_passOver_45 : decode cX3_passOver 45 = .ok (.goto (-30), 3) := by decide +kernel
theorem dX3_passOver_48 : decode cX3_passOver 48 = .ok (.return_, 1) := by decide +kernel
theorem dX3_search_0 : decode cX3_search 0 = .ok (.aload_n 0, 1) := by decide +kernel
theorem dX3_search_1 : decode cX3_search 1 = .ok (.iconst 0, 1) := by decide +kernel
theorem dX3_search_2 : decode cX3_search 2 = .ok (.putfield 9, 3) := by decide +kernel
theorem dX3_search_5 : decode cX3_search 5 = .ok (.aload_n 0, 1) := by decide +kernel
theorem dX3_search_6 : decode cX3_search 6 = .ok (.getfield 79, 3) := by decide +kernel
theorem dX3_search_9 : decode cX3_search 9 = .ok (.ifCond .ne 16, 3) := by decide +kernel
theorem dX3_search_12 : decode cX3_search 12 = .ok (.aload_n 0, 1) := by decide +kernel
theorem dX3_search_13 : decode cX3_search 13 = .ok (.invokevirtual 97, 3) := by decide +kernel
theorem dX3_search_16 : decode cX3_search 16 = .ok (.ifCond .eq 7, 3) := by decide +kernel
theorem dX3_search_19 : decode cX3_search 19 = .ok (.iconst 1, 1) := by decide +kernel
theorem dX3_search_20 : decode cX3_search 20 = .ok (.goto 4, 3) := by decide +kernel
theorem dX3_search_23 : decode cX3_search 23 = .ok (.iconst 0, 1) := by decide +kernel
theorem dX3_search_24 : decode cX3_search 24 = .ok (.ireturn, 1) := by decide +kernel
theorem dX3_search_25 : decode cX3_search 25 = .ok (.aload_n 0, 1) := by decide +kernel
theorem dX3_search_26 : decode cX3_search 26 = .ok (.iconst 0, 1) := by decide +kernel
theorem dX3_search_27 : decode cX3_search 27 = .ok (.iconst 0, 1) := by decide +kernel
theorem dX3_search_28 : decode cX3_search 28 = .ok (.invokevirtual 101, 3) := by decide +kernel
theorem dX3_search_31 : decode cX3_search 31 = .ok (.ireturn, 1) := by decide +kernel
theorem dX3_tryCuts_0 : decode cX3_tryCuts 0 = .ok (.iload_n 1, 1) := by decide +kernel
theorem dX3_tryCuts_1 : decode cX3_tryCuts 1 = .ok (.aload_n 0, 1) := by decide +kernel
theorem dX3_tryCuts_2 : decode cX3_tryCuts 2 = .ok (.getfield 79, 3) := by decide +kernel
theorem dX3_tryCuts_5 : decode cX3_tryCuts 5 = .ok (.if_icmp .ge 11, 3) := by decide +kernel
theorem dX3_tryCuts_8 : decode cX3_tryCuts 8 = .ok (.iload_n 2, 1) := by decide +kernel
theorem dX3_tryCuts_9 : decode cX3_tryCuts 9 = .ok (.aload_n 0, 1) := by decide +kernel
theorem dX3_tryCuts_10 : decode cX3_tryCuts 10 = .ok (.getfield 45, 3) := by decide +kernel
theorem dX3_tryCuts_13 : decode cX3_tryCuts 13 = .ok (.if_icmp .lt 5, 3) := by decide +kernel
theorem dX3_tryCuts_16 : decode cX3_tryCuts 16 = .ok (.iconst 0, 1) := by decide +kernel
theorem dX3_tryCuts_17 : decode cX3_tryCuts 17 = .ok (.ireturn, 1) := by decide +kernel
theorem dX3_tryCuts_18 : decode cX3_tryCuts 18 = .ok (.iconst 0, 1) := by decide +kernel
theorem dX3_tryCuts_19 : decode cX3_tryCuts 19 = .ok (.istore_n 3, 1) := by decide +kernel
theorem dX3_tryCuts_20 : decode cX3_tryCuts 20 = .ok (.iload_n 3, 1) := by decide +kernel
theorem dX3_tryCuts_21 : decode cX3_tryCuts 21 = .ok (.bipush 9, 2) := by decide +kernel
theorem dX3_tryCuts_23 : decode cX3_tryCuts 23 = .ok (.if_icmp .gt 62, 3) := by decide +kernel
theorem dX3_tryCuts_26 : decode cX3_tryCuts 26 = .ok (.aload_n 0, 1) := by decide +kernel
theorem dX3_tryCuts_27 : decode cX3_tryCuts 27 = .ok (.getfield 9, 3) := by decide +kernel
theorem dX3_tryCuts_30 : decode cX3_tryCuts 30 = .ok (.sipush 4000, 3) := by decide +kernel
theorem dX3_tryCuts_33 : decode cX3_tryCuts 33 = .ok (.if_icmp .lt 6, 3) := by decide +kernel
theorem dX3_tryCuts_36 : decode cX3_tryCuts 36 = .ok (.bipush (-5), 2) := by decide +kernel
theorem dX3_tryCuts_38 : decode cX3_tryCuts 38 = .ok (.ireturn, 1) := by decide +kernel
theorem dX3_tryCuts_39 : decode cX3_tryCuts 39 = .ok (.aload_n 0, 1) := by decide +kernel
theorem dX3_tryCuts_40 : decode cX3_tryCuts 40 = .ok (.dup, 1) := by decide +kernel
theorem dX3_tryCuts_41 : decode cX3_tryCuts 41 = .ok (.getfield 9, 3) := by decide +kernel
theorem dX3_tryCuts_44 : decode cX3_tryCuts 44 = .ok (.iconst 1, 1) := by decide +kernel
theorem dX3_tryCuts_45 : decode cX3_tryCuts 45 = .ok (.iadd, 1) := by decide +kernel
theorem dX3_tryCuts_46 : decode cX3_tryCuts 46 = .ok (.putfield 9, 3) := by decide +kernel
theorem dX3_tryCuts_49 : decode cX3_tryCuts 49 = .ok (.aload_n 0, 1) := by decide +kernel
theorem dX3_tryCuts_50 : decode cX3_tryCuts 50 = .ok (.iload_n 1, 1) := by decide +kernel
theorem dX3_tryCuts_51 : decode cX3_tryCuts 51 = .ok (.iload_n 2, 1) := by decide +kernel
theorem dX3_tryCuts_52 : decode cX3_tryCuts 52 = .ok (.iload_n 3, 1) := by decide +kernel
theorem dX3_tryCuts_53 : decode cX3_tryCuts 53 = .ok (.invokevirtual 104, 3) := by decide +kernel
theorem dX3_tryCuts_56 : decode cX3_tryCuts 56 = .ok (.ifCond .eq 12, 3) := by decide +kernel
theorem dX3_tryCuts_59 : decode cX3_tryCuts 59 = .ok (.aload_n 0, 1) := by decide +kernel
theorem dX3_tryCuts_60 : decode cX3_tryCuts 60 = .ok (.iload_n 1, 1) := by decide +kernel
theorem dX3_tryCuts_61 : decode cX3_tryCuts 61 = .ok (.iload_n 2, 1) := by decide +kernel
theorem dX3_tryCuts_62 : decode cX3_tryCuts 62 = .ok (.invokevirtual 108, 3) := by decide +kernel
theorem dX3_tryCuts_65 : decode cX3_tryCuts 65 = .ok (.goto 4, 3) := by decide +kernel
theorem dX3_tryCuts_68 : decode cX3_tryCuts 68 = .ok (.iconst 0, 1) := by decide +kernel
theorem dX3_tryCuts_69 : decode cX3_tryCuts 69 = .ok (.istore 4, 2) := by decide +kernel
theorem dX3_tryCuts_71 : decode cX3_tryCuts 71 = .ok (.iload 4, 2) := by decide +kernel
theorem dX3_tryCuts_73 : decode cX3_tryCuts 73 = .ok (.ifCond .eq 6, 3) := by decide +kernel
theorem dX3_tryCuts_76 : decode cX3_tryCuts 76 = .ok (.iload 4, 2) := by decide +kernel
theorem dX3_tryCuts_78 : decode cX3_tryCuts 78 = .ok (.ireturn, 1) := by decide +kernel
theorem dX3_tryCuts_79 : decode cX3_tryCuts 79 = .ok (.iinc 3 1, 3) := by decide +kernel
theorem dX3_tryCuts_82 : decode cX3_tryCuts 82 = .ok (.goto (-62), 3) := by decide +kernel
theorem dX3_tryCuts_85 : decode cX3_tryCuts 85 = .ok (.iconst 0, 1) := by decide +kernel
theorem dX3_tryCuts_86 : decode cX3_tryCuts 86 = .ok (.ireturn, 1) := by decide +kernel
theorem dX3_goOn_0 : decode cX3_goOn 0 = .ok (.iload_n 2, 1) := by decide +kernel
theorem dX3_goOn_1 : decode cX3_goOn 1 = .ok (.iconst 1, 1) := by decide +kernel
theorem dX3_goOn_2 : decode cX3_goOn 2 = .ok (.iadd, 1) := by decide +kernel
theorem dX3_goOn_3 : decode cX3_goOn 3 = .ok (.aload_n 0, 1) := by decide +kernel
theorem dX3_goOn_4 : decode cX3_goOn 4 = .ok (.getfield 45, 3) := by decide +kernel
theorem dX3_goOn_7 : decode cX3_goOn 7 = .ok (.if_icmp .ge 12, 3) := by decide +kernel
theorem dX3_goOn_10 : decode cX3_goOn 10 = .ok (.aload_n 0, 1) := by decide +kernel
theorem dX3_goOn_11 : decode cX3_goOn 11 = .ok (.iload_n 1, 1) := by decide +kernel
theorem dX3_goOn_12 : decode cX3_goOn 12 = .ok (.iload_n 2, 1) := by decide +kernel
theorem dX3_goOn_13 : decode cX3_goOn 13 = .ok (.iconst 1, 1) := by decide +kernel
theorem dX3_goOn_14 : decode cX3_goOn 14 = .ok (.iadd, 1) := by decide +kernel
theorem dX3_goOn_15 : decode cX3_goOn 15 = .ok (.invokevirtual 101, 3) := by decide +kernel
theorem dX3_goOn_18 : decode cX3_goOn 18 = .ok (.ireturn, 1) := by decide +kernel
theorem dX3_goOn_19 : decode cX3_goOn 19 = .ok (.iload_n 1, 1) := by decide +kernel
theorem dX3_goOn_20 : decode cX3_goOn 20 = .ok (.iconst 1, 1) := by decide +kernel
theorem dX3_goOn_21 : decode cX3_goOn 21 = .ok (.iadd, 1) := by decide +kernel
theorem dX3_goOn_22 : decode cX3_goOn 22 = .ok (.aload_n 0, 1) := by decide +kernel
theorem dX3_goOn_23 : decode cX3_goOn 23 = .ok (.getfield 79, 3) := by decide +kernel
theorem dX3_goOn_26 : decode cX3_goOn 26 = .ok (.if_icmp .ge 12, 3) := by decide +kernel
theorem dX3_goOn_29 : decode cX3_goOn 29 = .ok (.aload_n 0, 1) := by decide +kernel
theorem dX3_goOn_30 : decode cX3_goOn 30 = .ok (.iload_n 1, 1) := by decide +kernel
theorem dX3_goOn_31 : decode cX3_goOn 31 = .ok (.iconst 1, 1) := by decide +kernel
theorem dX3_goOn_32 : decode cX3_goOn 32 = .ok (.iadd, 1) := by decide +kernel
theorem dX3_goOn_33 : decode cX3_goOn 33 = .ok (.iconst 0, 1) := by decide +kernel
theorem dX3_goOn_34 : decode cX3_goOn 34 = .ok (.invokevirtual 101, 3) := by decide +kernel
theorem dX3_goOn_37 : decode cX3_goOn 37 = .ok (.ireturn, 1) := by decide +kernel
theorem dX3_goOn_38 : decode cX3_goOn 38 = .ok (.aload_n 0, 1) := by decide +kernel
theorem dX3_goOn_39 : decode cX3_goOn 39 = .ok (.invokevirtual 97, 3) := by decide +kernel
theorem dX3_goOn_42 : decode cX3_goOn 42 = .ok (.ifCond .eq 7, 3) := by decide +kernel
theorem dX3_goOn_45 : decode cX3_goOn 45 = .ok (.iconst 1, 1) := by decide +kernel
theorem dX3_goOn_46 : decode cX3_goOn 46 = .ok (.goto 4, 3) := by decide +kernel
theorem dX3_goOn_49 : decode cX3_goOn 49 = .ok (.iconst 0, 1) := by decide +kernel
theorem dX3_goOn_50 : decode cX3_goOn 50 = .ok (.ireturn, 1) := by decide +kernel
theorem dX3_stands_0 : decode cX3_stands 0 = .ok (.aload_n 0, 1) := by decide +kernel
theorem dX3_stands_1 : decode cX3_stands 1 = .ok (.getfield 15, 3) := by decide +kernel
theorem dX3_stands_4 : decode cX3_stands 4 = .ok (.iload_n 1, 1) := by decide +kernel
theorem dX3_stands_5 : decode cX3_stands 5 = .ok (.iaload, 1) := by decide +kernel
theorem dX3_stands_6 : decode cX3_stands 6 = .ok (.iconst 5, 1) := by decide +kernel
theorem dX3_stands_7 : decode cX3_stands 7 = .ok (.imul, 1) := by decide +kernel
theorem dX3_stands_8 : decode cX3_stands 8 = .ok (.iload_n 2, 1) := by decide +kernel
theorem dX3_stands_9 : decode cX3_stands 9 = .ok (.iadd, 1) := by decide +kernel
theorem dX3_stands_10 : decode cX3_stands 10 = .ok (.istore 4, 2) := by decide +kernel
theorem dX3_stands_12 : decode cX3_stands 12 = .ok (.aload_n 0, 1) := by decide +kernel
theorem dX3_stands_13 : decode cX3_stands 13 = .ok (.getfield 31, 3) := by decide +kernel
theorem dX3_stands_16 : decode cX3_stands 16 = .ok (.iload 4, 2) := by decide +kernel
theorem dX3_stands_18 : decode cX3_stands 18 = .ok (.iload_n 3, 1) := by decide +kernel
theorem dX3_stands_19 : decode cX3_stands 19 = .ok (.iastore, 1) := by decide +kernel
theorem dX3_stands_20 : decode cX3_stands 20 = .ok (.iload_n 2, 1) := by decide +kernel
theorem dX3_stands_21 : decode cX3_stands 21 = .ok (.ifCond .le 26, 3) := by decide +kernel
theorem dX3_stands_24 : decode cX3_stands 24 = .ok (.iload_n 3, 1) := by decide +kernel
theorem dX3_stands_25 : decode cX3_stands 25 = .ok (.aload_n 0, 1) := by decide +kernel
theorem dX3_stands_26 : decode cX3_stands 26 = .ok (.getfield 31, 3) := by decide +kernel
theorem dX3_stands_29 : decode cX3_stands 29 = .ok (.iload 4, 2) := by decide +kernel
theorem dX3_stands_31 : decode cX3_stands 31 = .ok (.iconst 1, 1) := by decide +kernel
theorem dX3_stands_32 : decode cX3_stands 32 = .ok (.isub, 1) := by decide +kernel
theorem dX3_stands_33 : decode cX3_stands 33 = .ok (.iaload, 1) := by decide +kernel
theorem dX3_stands_34 : decode cX3_stands 34 = .ok (.isub, 1) := by decide +kernel
theorem dX3_stands_35 : decode cX3_stands 35 = .ok (.invokestatic 111, 3) := by decide +kernel
theorem dX3_stands_38 : decode cX3_stands 38 = .ok (.aload_n 0, 1) := by decide +kernel
theorem dX3_stands_39 : decode cX3_stands 39 = .ok (.getfield 48, 3) := by decide +kernel
theorem dX3_stands_42 : decode cX3_stands 42 = .ok (.if_icmp .le 5, 3) := by decide +kernel
theorem dX3_stands_45 : decode cX3_stands 45 = .ok (.iconst 0, 1) := by decide +kernel
theorem dX3_stands_46 : decode cX3_stands 46 = .ok (.ireturn, 1) := by decide +kernel
theorem dX3_stands_47 : decode cX3_stands 47 = .ok (.aload_n 0, 1) := by decide +kernel
theorem dX3_stands_48 : decode cX3_stands 48 = .ok (.iload_n 1, 1) := by decide +kernel
theorem dX3_stands_49 : decode cX3_stands 49 = .ok (.iload_n 2, 1) := by decide +kernel
theorem dX3_stands_50 : decode cX3_stands 50 = .ok (.iload_n 3, 1) := by decide +kernel
theorem dX3_stands_51 : decode cX3_stands 51 = .ok (.invokevirtual 116, 3) := by decide +kernel
theorem dX3_stands_54 : decode cX3_stands 54 = .ok (.ifCond .ne 5, 3) := by decide +kernel
theorem dX3_stands_57 : decode cX3_stands 57 = .ok (.iconst 0, 1) := by decide +kernel
theorem dX3_stands_58 : decode cX3_stands 58 = .ok (.ireturn, 1) := by decide +kernel
theorem dX3_stands_59 : decode cX3_stands 59 = .ok (.iload_n 2, 1) := by decide +kernel
theorem dX3_stands_60 : decode cX3_stands 60 = .ok (.iconst 1, 1) := by decide +kernel
theorem dX3_stands_61 : decode cX3_stands 61 = .ok (.iadd, 1) := by decide +kernel
theorem dX3_stands_62 : decode cX3_stands 62 = .ok (.aload_n 0, 1) := by decide +kernel
theorem dX3_stands_63 : decode cX3_stands 63 = .ok (.getfield 45, 3) := by decide +kernel
theorem dX3_stands_66 : decode cX3_stands 66 = .ok (.if_icmp .lt 11, 3) := by decide +kernel
theorem dX3_stands_69 : decode cX3_stands 69 = .ok (.aload_n 0, 1) := by decide +kernel
theorem dX3_stands_70 : decode cX3_stands 70 = .ok (.iload_n 1, 1) := by decide +kernel
theorem dX3_stands_71 : decode cX3_stands 71 = .ok (.invokevirtual 119, 3) := by decide +kernel
theorem dX3_stands_74 : decode cX3_stands 74 = .ok (.ifCond .ne 7, 3) := by decide +kernel
theorem dX3_stands_77 : decode cX3_stands 77 = .ok (.iconst 1, 1) := by decide +kernel
theorem dX3_stands_78 : decode cX3_stands 78 = .ok (.goto 4, 3) := by decide +kernel
theorem dX3_stands_81 : decode cX3_stands 81 = .ok (.iconst 0, 1) := by decide +kernel
theorem dX3_stands_82 : decode cX3_stands 82 = .ok (.ireturn, 1) := by decide +kernel
theorem dX3_doorsTake_0 : decode cX3_doorsTake 0 = .ok (.aload_n 0, 1) := by decide +kernel
theorem dX3_doorsTake_1 : decode cX3_doorsTake 1 = .ok (.getfield 19, 3) := by decide +kernel
theorem dX3_doorsTake_4 : decode cX3_doorsTake 4 = .ok (.aload_n 0, 1) := by decide +kernel
theorem dX3_doorsTake_5 : decode cX3_doorsTake 5 = .ok (.getfield 15, 3) := by decide +kernel
theorem dX3_doorsTake_8 : decode cX3_doorsTake 8 = .ok (.iload_n 1, 1) := by decide +kernel
theorem dX3_doorsTake_9 : decode cX3_doorsTake 9 = .ok (.iaload, 1) := by decide +kernel
theorem dX3_doorsTake_10 : decode cX3_doorsTake 10 = .ok (.iaload, 1) := by decide +kernel
theorem dX3_doorsTake_11 : decode cX3_doorsTake 11 = .ok (.istore 4, 2) := by decide +kernel
theorem dX3_doorsTake_13 : decode cX3_doorsTake 13 = .ok (.iconst 0, 1) := by decide +kernel
theorem dX3_doorsTake_14 : decode cX3_doorsTake 14 = .ok (.istore 5, 2) := by decide +kernel
theorem dX3_doorsTake_16 : decode cX3_doorsTake 16 = .ok (.iload 5, 2) := by decide +kernel
theorem dX3_doorsTake_18 : decode cX3_doorsTake 18 = .ok (.aload_n 0, 1) := by decide +kernel
theorem dX3_doorsTake_19 : decode cX3_doorsTake 19 = .ok (.getfield 42, 3) := by decide +kernel
theorem dX3_doorsTake_22 : decode cX3_doorsTake 22 = .ok (.if_icmp .ge 84, 3) := by decide +kernel
theorem dX3_doorsTake_25 : decode cX3_doorsTake 25 = .ok (.iload 5, 2) := by decide +kernel
theorem dX3_doorsTake_27 : decode cX3_doorsTake 27 = .ok (.iconst 5, 1) := by decide +kernel
theorem dX3_doorsTake_28 : decode cX3_doorsTake 28 = .ok (.imul, 1) := by decide +kernel
theorem dX3_doorsTake_29 : decode cX3_doorsTake 29 = .ok (.iload_n 2, 1) := by decide +kernel
theorem dX3_doorsTake_30 : decode cX3_doorsTake 30 = .ok (.iadd, 1) := by decide +kernel
theorem dX3_doorsTake_31 : decode cX3_doorsTake 31 = .ok (.istore 6, 2) := by decide +kernel
theorem dX3_doorsTake_33 : decode cX3_doorsTake 33 = .ok (.iload_n 1, 1) := by decide +kernel
theorem dX3_doorsTake_34 : decode cX3_doorsTake 34 = .ok (.ifCond .ne 7, 3) := by decide +kernel
theorem dX3_doorsTake_37 : decode cX3_doorsTake 37 = .ok (.iconst 0, 1) := by decide +kernel
theorem dX3_doorsTake_38 : decode cX3_doorsTake 38 = .ok (.goto 14, 3) := by decide +kernel
theorem dX3_doorsTake_41 : decode cX3_doorsTake 41 = .ok (.aload_n 0, 1) := by decide +kernel
theorem dX3_doorsTake_42 : decode cX3_doorsTake 42 = .ok (.getfield 36, 3) := by decide +kernel
theorem dX3_doorsTake_45 : decode cX3_doorsTake 45 = .ok (.iload_n 1, 1) := by decide +kernel
theorem dX3_doorsTake_46 : decode cX3_doorsTake 46 = .ok (.iconst 1, 1) := by decide +kernel
theorem dX3_doorsTake_47 : decode cX3_doorsTake 47 = .ok (.isub, 1) := by decide +kernel
theorem dX3_doorsTake_48 : decode cX3_doorsTake 48 = .ok (.aaload, 1) := by decide +kernel
theorem dX3_doorsTake_49 : decode cX3_doorsTake 49 = .ok (.iload 6, 2) := by decide +kernel
theorem dX3_doorsTake_51 : decode cX3_doorsTake 51 = .ok (.iaload, 1) := by decide +kernel
theorem dX3_doorsTake_52 : decode cX3_doorsTake 52 = .ok (.istore 7, 2) := by decide +kernel
theorem dX3_doorsTake_54 : decode cX3_doorsTake 54 = .ok (.iload 4, 2) := by decide +kernel
theorem dX3_doorsTake_56 : decode cX3_doorsTake 56 = .ok (.iconst 1, 1) := by decide +kernel
theorem dX3_doorsTake_57 : decode cX3_doorsTake 57 = .ok (.iload 5, 2) := by decide +kernel
theorem dX3_doorsTake_59 : decode cX3_doorsTake 59 = .ok (.ishl, 1) := by decide +kernel
theorem dX3_doorsTake_60 : decode cX3_doorsTake 60 = .ok (.iand, 1) := by decide +kernel
theorem dX3_doorsTake_61 : decode cX3_doorsTake 61 = .ok (.ifCond .eq 28, 3) := by decide +kernel
theorem dX3_doorsTake_64 : decode cX3_doorsTake 64 = .ok (.iload 7, 2) := by decide +kernel
theorem dX3_doorsTake_66 : decode cX3_doorsTake 66 = .ok (.iconst 1, 1) := by decide +kernel
theorem dX3_doorsTake_67 : decode cX3_doorsTake 67 = .ok (.iload_n 3, 1) := by decide +kernel
theorem dX3_doorsTake_68 : decode cX3_doorsTake 68 = .ok (.ishl, 1) := by decide +kernel
theorem dX3_doorsTake_69 : decode cX3_doorsTake 69 = .ok (.ior, 1) := by decide +kernel
theorem dX3_doorsTake_70 : decode cX3_doorsTake 70 = .ok (.istore 7, 2) := by decide +kernel
theorem dX3_doorsTake_72 : decode cX3_doorsTake 72 = .ok (.iload 7, 2) := by decide +kernel
theorem dX3_doorsTake_74 : decode cX3_doorsTake 74 = .ok (.invokestatic 122, 3) := by decide +kernel
theorem dX3_doorsTake_77 : decode cX3_doorsTake 77 = .ok (.aload_n 0, 1) := by decide +kernel
theorem dX3_doorsTake_78 : decode cX3_doorsTake 78 = .ok (.getfield 25, 3) := by decide +kernel
theorem dX3_doorsTake_81 : decode cX3_doorsTake 81 = .ok (.iload 5, 2) := by decide +kernel
theorem dX3_doorsTake_83 : decode cX3_doorsTake 83 = .ok (.iaload, 1) := by decide +kernel
theorem dX3_doorsTake_84 : decode cX3_doorsTake 84 = .ok (.if_icmp .le 5, 3) := by decide +kernel
theorem dX3_doorsTake_87 : decode cX3_doorsTake 87 = .ok (.iconst 0, 1) := by decide +kernel
theorem dX3_doorsTake_88 : decode cX3_doorsTake 88 = .ok (.ireturn, 1) := by decide +kernel
theorem dX3_doorsTake_89 : decode cX3_doorsTake 89 = .ok (.aload_n 0, 1) := by decide +kernel
theorem dX3_doorsTake_90 : decode cX3_doorsTake 90 = .ok (.getfield 36, 3) := by decide +kernel
theorem dX3_doorsTake_93 : decode cX3_doorsTake 93 = .ok (.iload_n 1, 1) := by decide +kernel
theorem dX3_doorsTake_94 : decode cX3_doorsTake 94 = .ok (.aaload, 1) := by decide +kernel
theorem dX3_doorsTake_95 : decode cX3_doorsTake 95 = .ok (.iload 6, 2) := by decide +kernel
theorem dX3_doorsTake_97 : decode cX3_doorsTake 97 = .ok (.iload 7, 2) := by decide +kernel
theorem dX3_doorsTake_99 : decode cX3_doorsTake 99 = .ok (.iastore, 1) := by decide +kernel
theorem dX3_doorsTake_100 : decode cX3_doorsTake 100 = .ok (.iinc 5 1, 3) := by decide +kernel
theorem dX3_doorsTake_103 : decode cX3_doorsTake 103 = .ok (.goto (-87), 3) := by decide +kernel
theorem dX3_doorsTake_106 : decode cX3_doorsTake 106 = .ok (.iconst 1, 1) := by decide +kernel
theorem dX3_doorsTake_107 : decode cX3_doorsTake 107 = .ok (.ireturn, 1) := by decide +kernel
theorem dX3_isCutAlready_0 : decode cX3_isCutAlready 0 = .ok (.aload_n 0, 1) := by decide +kernel
theorem dX3_isCutAlready_1 : decode cX3_isCutAlready 1 = .ok (.getfield 15, 3) := by decide +kernel
theorem dX3_isCutAlready_4 : decode cX3_isCutAlready 4 = .ok (.iload_n 1, 1) := by decide +kernel
theorem dX3_isCutAlready_5 : decode cX3_isCutAlready 5 = .ok (.iaload, 1) := by decide +kernel
theorem dX3_isCutAlready_6 : decode cX3_isCutAlready 6 = .ok (.istore_n 2, 1) := by decide +kernel
theorem dX3_isCutAlready_7 : decode cX3_isCutAlready 7 = .ok (.iconst 0, 1) := by decide +kernel
theorem dX3_isCutAlready_8 : decode cX3_isCutAlready 8 = .ok (.istore_n 3, 1) := by decide +kernel
theorem dX3_isCutAlready_9 : decode cX3_isCutAlready 9 = .ok (.iload_n 3, 1) := by decide +kernel
theorem dX3_isCutAlready_10 : decode cX3_isCutAlready 10 = .ok (.iload_n 1, 1) := by decide +kernel
theorem dX3_isCutAlready_11 : decode cX3_isCutAlready 11 = .ok (.if_icmp .ge 25, 3) := by decide +kernel
theorem dX3_isCutAlready_14 : decode cX3_isCutAlready 14 = .ok (.aload_n 0, 1) := by decide +kernel
theorem dX3_isCutAlready_15 : decode cX3_isCutAlready 15 = .ok (.aload_n 0, 1) := by decide +kernel
theorem dX3_isCutAlready_16 : decode cX3_isCutAlready 16 = .ok (.getfield 15, 3) := by decide +kernel
theorem dX3_isCutAlready_19 : decode cX3_isCutAlready 19 = .ok (.iload_n 3, 1) := by decide +kernel
theorem dX3_isCutAlready_20 : decode cX3_isCutAlready 20 = .ok (.iaload, 1) := by decide +kernel
theorem dX3_isCutAlready_21 : decode cX3_isCutAlready 21 = .ok (.iload_n 2, 1) := by decide +kernel
theorem dX3_isCutAlready_22 : decode cX3_isCutAlready 22 = .ok (.invokevirtual 127, 3) := by decide +kernel
theorem dX3_isCutAlready_25 : decode cX3_isCutAlready 25 = .ok (.ifCond .eq 5, 3) := by decide +kernel
theorem dX3_isCutAlready_28 : decode cX3_isCutAlready 28 = .ok (.iconst 1, 1) := by decide +kernel
theorem dX3_isCutAlready_29 : decode cX3_isCutAlready 29 = .ok (.ireturn, 1) := by decide +kernel
theorem dX3_isCutAlready_30 : decode cX3_isCutAlready 30 = .ok (.iinc 3 1, 3) := by decide +kernel
theorem dX3_isCutAlready_33 : decode cX3_isCutAlready 33 = .ok (.goto (-24), 3) := by decide +kernel
theorem dX3_isCutAlready_36 : decode cX3_isCutAlready 36 = .ok (.aload_n 0, 1) := by decide +kernel
theorem dX3_isCutAlready_37 : decode cX3_isCutAlready 37 = .ok (.getfield 76, 3) := by decide +kernel
theorem dX3_isCutAlready_40 : decode cX3_isCutAlready 40 = .ok (.iconst (-1), 1) := by decide +kernel
theorem dX3_isCutAlready_41 : decode cX3_isCutAlready 41 = .ok (.if_icmp .eq 19, 3) := by decide +kernel
theorem dX3_isCutAlready_44 : decode cX3_isCutAlready 44 = .ok (.aload_n 0, 1) := by decide +kernel
theorem dX3_isCutAlready_45 : decode cX3_isCutAlready 45 = .ok (.aload_n 0, 1) := by decide +kernel
theorem dX3_isCutAlready_46 : decode cX3_isCutAlready 46 = .ok (.getfield 76, 3) := by decide +kernel
theorem dX3_isCutAlready_49 : decode cX3_isCutAlready 49 = .ok (.iload_n 2, 1) := by decide +kernel
theorem dX3_isCutAlready_50 : decode cX3_isCutAlready 50 = .ok (.invokevirtual 127, 3) := by decide +kernel
theorem dX3_isCutAlready_53 : decode cX3_isCutAlready 53 = .ok (.ifCond .eq 7, 3) := by decide +kernel
theorem dX3_isCutAlready_56 : decode cX3_isCutAlready 56 = .ok (.iconst 1, 1) := by decide +kernel
theorem dX3_isCutAlready_57 : decode cX3_isCutAlready 57 = .ok (.goto 4, 3) := by decide +kernel
theorem dX3_isCutAlready_60 : decode cX3_isCutAlready 60 = .ok (.iconst 0, 1) := by decide +kernel
theorem dX3_isCutAlready_61 : decode cX3_isCutAlready 61 = .ok (.ireturn, 1) := by decide +kernel
theorem dX3_haveSameCuts_0 : decode cX3_haveSameCuts 0 = .ok (.iconst 0, 1) := by decide +kernel
theorem dX3_haveSameCuts_1 : decode cX3_haveSameCuts 1 = .ok (.istore_n 3, 1) := by decide +kernel
theorem dX3_haveSameCuts_2 : decode cX3_haveSameCuts 2 = .ok (.iload_n 3, 1) := by decide +kernel
theorem dX3_haveSameCuts_3 : decode cX3_haveSameCuts 3 = .ok (.aload_n 0, 1) := by decide +kernel
theorem dX3_haveSameCuts_4 : decode cX3_haveSameCuts 4 = .ok (.getfield 45, 3) := by decide +kernel
theorem dX3_haveSameCuts_7 : decode cX3_haveSameCuts 7 = .ok (.if_icmp .ge 34, 3) := by decide +kernel
theorem dX3_haveSameCuts_10 : decode cX3_haveSameCuts 10 = .ok (.aload_n 0, 1) := by decide +kernel
theorem dX3_haveSameCuts_11 : decode cX3_haveSameCuts 11 = .ok (.getfield 31, 3) := by decide +kernel
theorem dX3_haveSameCuts_14 : decode cX3_haveSameCuts 14 = .ok (.iload_n 1, 1) := by decide +kernel
theorem dX3_haveSameCuts_15 : decode cX3_haveSameCuts 15 = .ok (.iconst 5, 1) := by decide +kernel
theorem dX3_haveSameCuts_16 : decode cX3_haveSameCuts 16 = .ok (.imul, 1) := by decide +kernel
theorem dX3_haveSameCuts_17 : decode cX3_haveSameCuts 17 = .ok (.iload_n 3, 1) := by decide +kernel
theorem dX3_haveSameCuts_18 : decode cX3_haveSameCuts 18 = .ok (.iadd, 1) := by decide +kernel
theorem dX3_haveSameCuts_19 : decode cX3_haveSameCuts 19 = .ok (.iaload, 1) := by decide +kernel
theorem dX3_haveSameCuts_20 : decode cX3_haveSameCuts 20 = .ok (.aload_n 0, 1) := by decide +kernel
theorem dX3_haveSameCuts_21 : decode cX3_haveSameCuts 21 = .ok (.getfield 31, 3) := by decide +kernel
theorem dX3_haveSameCuts_24 : decode cX3_haveSameCuts 24 = .ok (.iload_n 2, 1) := by decide +kernel
theorem dX3_haveSameCuts_25 : decode cX3_haveSameCuts 25 = .ok (.iconst 5, 1) := by decide +kernel
theorem dX3_haveSameCuts_26 : decode cX3_haveSameCuts 26 = .ok (.imul, 1) := by decide +kernel
theorem dX3_haveSameCuts_27 : decode cX3_haveSameCuts 27 = .ok (.iload_n 3, 1) := by decide +kernel
theorem dX3_haveSameCuts_28 : decode cX3_haveSameCuts 28 = .ok (.iadd, 1) := by decide +kernel
theorem dX3_haveSameCuts_29 : decode cX3_haveSameCuts 29 = .ok (.iaload, 1) := by decide +kernel
theorem dX3_haveSameCuts_30 : decode cX3_haveSameCuts 30 = .ok (.if_icmp .eq 5, 3) := by decide +kernel
theorem dX3_haveSameCuts_33 : decode cX3_haveSameCuts 33 = .ok (.iconst 0, 1) := by decide +kernel
theorem dX3_haveSameCuts_34 : decode cX3_haveSameCuts 34 = .ok (.ireturn, 1) := by decide +kernel
theorem dX3_haveSameCuts_35 : decode cX3_haveSameCuts 35 = .ok (.iinc 3 1, 3) := by decide +kernel
theorem dX3_haveSameCuts_38 : decode cX3_haveSameCuts 38 = .ok (.goto (-36), 3) := by decide +kernel
theorem dX3_haveSameCuts_41 : decode cX3_haveSameCuts 41 = .ok (.iconst 1, 1) := by decide +kernel
theorem dX3_haveSameCuts_42 : decode cX3_haveSameCuts 42 = .ok (.ireturn, 1) := by decide +kernel
theorem dX3_everyNeverIsMet_0 : decode cX3_everyNeverIsMet 0 = .ok (.iconst 0, 1) := by decide +kernel
theorem dX3_everyNeverIsMet_1 : decode cX3_everyNeverIsMet 1 = .ok (.istore_n 1, 1) := by decide +kernel
theorem dX3_everyNeverIsMet_2 : decode cX3_everyNeverIsMet 2 = .ok (.iload_n 1, 1) := by decide +kernel
theorem dX3_everyNeverIsMet_3 : decode cX3_everyNeverIsMet 3 = .ok (.aload_n 0, 1) := by decide +kernel
theorem dX3_everyNeverIsMet_4 : decode cX3_everyNeverIsMet 4 = .ok (.getfield 39, 3) := by decide +kernel
theorem dX3_everyNeverIsMet_7 : decode cX3_everyNeverIsMet 7 = .ok (.if_icmp .ge 49, 3) := by decide +kernel
theorem dX3_everyNeverIsMet_10 : decode cX3_everyNeverIsMet 10 = .ok (.iconst 0, 1) := by decide +kernel
theorem dX3_everyNeverIsMet_11 : decode cX3_everyNeverIsMet 11 = .ok (.istore_n 2, 1) := by decide +kernel
theorem dX3_everyNeverIsMet_12 : decode cX3_everyNeverIsMet 12 = .ok (.iload_n 2, 1) := by decide +kernel
theorem dX3_everyNeverIsMet_13 : decode cX3_everyNeverIsMet 13 = .ok (.aload_n 0, 1) := by decide +kernel
theorem dX3_everyNeverIsMet_14 : decode cX3_everyNeverIsMet 14 = .ok (.getfield 42, 3) := by decide +kernel
theorem dX3_everyNeverIsMet_17 : decode cX3_everyNeverIsMet 17 = .ok (.if_icmp .ge 33, 3) := by decide +kernel
theorem dX3_everyNeverIsMet_20 : decode cX3_everyNeverIsMet 20 = .ok (.aload_n 0, 1) := by decide +kernel
theorem dX3_everyNeverIsMet_21 : decode cX3_everyNeverIsMet 21 = .ok (.getfield 22, 3) := by decide +kernel
theorem dX3_everyNeverIsMet_24 : decode cX3_everyNeverIsMet 24 = .ok (.iload_n 1, 1) := by decide +kernel
theorem dX3_everyNeverIsMet_25 : decode cX3_everyNeverIsMet 25 = .ok (.iaload, 1) := by decide +kernel
theorem dX3_everyNeverIsMet_26 : decode cX3_everyNeverIsMet 26 = .ok (.iconst 1, 1) := by decide +kernel
theorem dX3_everyNeverIsMet_27 : decode cX3_everyNeverIsMet 27 = .ok (.iload_n 2, 1) := by decide +kernel
theorem dX3_everyNeverIsMet_28 : decode cX3_everyNeverIsMet 28 = .ok (.ishl, 1) := by decide +kernel
theorem dX3_everyNeverIsMet_29 : decode cX3_everyNeverIsMet 29 = .ok (.iand, 1) := by decide +kernel
theorem dX3_everyNeverIsMet_30 : decode cX3_everyNeverIsMet 30 = .ok (.ifCond .eq 14, 3) := by decide +kernel
theorem dX3_everyNeverIsMet_33 : decode cX3_everyNeverIsMet 33 = .ok (.aload_n 0, 1) := by decide +kernel
theorem dX3_everyNeverIsMet_34 : decode cX3_everyNeverIsMet 34 = .ok (.iload_n 1, 1) := by decide +kernel
theorem dX3_everyNeverIsMet_35 : decode cX3_everyNeverIsMet 35 = .ok (.iload_n 2, 1) := by decide +kernel
theorem dX3_everyNeverIsMet_36 : decode cX3_everyNeverIsMet 36 = .ok (.invokevirtual 131, 3) := by decide +kernel
theorem dX3_everyNeverIsMet_39 : decode cX3_everyNeverIsMet 39 = .ok (.ifCond .ne 5, 3) := by decide +kernel
theorem dX3_everyNeverIsMet_42 : decode cX3_everyNeverIsMet 42 = .ok (.iconst 0, 1) := by decide +kernel
theorem dX3_everyNeverIsMet_43 : decode cX3_everyNeverIsMet 43 = .ok (.ireturn, 1) := by decide +kernel
theorem dX3_everyNeverIsMet_44 : decode cX3_everyNeverIsMet 44 = .ok (.iinc 2 1, 3) := by decide +kernel
theorem dX3_everyNeverIsMet_47 : decode cX3_everyNeverIsMet 47 = .ok (.goto (-35), 3) := by decide +kernel
theorem dX3_everyNeverIsMet_50 : decode cX3_everyNeverIsMet 50 = .ok (.iinc 1 1, 3) := by decide +kernel
theorem dX3_everyNeverIsMet_53 : decode cX3_everyNeverIsMet 53 = .ok (.goto (-51), 3) := by decide +kernel
theorem dX3_everyNeverIsMet_56 : decode cX3_everyNeverIsMet 56 = .ok (.iconst 1, 1) := by decide +kernel
theorem dX3_everyNeverIsMet_57 : decode cX3_everyNeverIsMet 57 = .ok (.ireturn, 1) := by decide +kernel
theorem dX3_isBarred_0 : decode cX3_isBarred 0 = .ok (.aload_n 0, 1) := by decide +kernel
theorem dX3_isBarred_1 : decode cX3_isBarred 1 = .ok (.getfield 51, 3) := by decide +kernel
theorem dX3_isBarred_4 : decode cX3_isBarred 4 = .ok (.iconst 1, 1) := by decide +kernel
theorem dX3_isBarred_5 : decode cX3_isBarred 5 = .ok (.iload_n 2, 1) := by decide +kernel
theorem dX3_isBarred_6 : decode cX3_isBarred 6 = .ok (.ishl, 1) := by decide +kernel
theorem dX3_isBarred_7 : decode cX3_isBarred 7 = .ok (.iand, 1) := by decide +kernel
theorem dX3_isBarred_8 : decode cX3_isBarred 8 = .ok (.ifCond .eq 5, 3) := by decide +kernel
theorem dX3_isBarred_11 : decode cX3_isBarred 11 = .ok (.iconst 1, 1) := by decide +kernel
theorem dX3_isBarred_12 : decode cX3_isBarred 12 = .ok (.ireturn, 1) := by decide +kernel
theorem dX3_isBarred_13 : decode cX3_isBarred 13 = .ok (.aload_n 0, 1) := by decide +kernel
theorem dX3_isBarred_14 : decode cX3_isBarred 14 = .ok (.iload_n 2, 1) := by decide +kernel
theorem dX3_isBarred_15 : decode cX3_isBarred 15 = .ok (.invokevirtual 134, 3) := by decide +kernel
theorem dX3_isBarred_18 : decode cX3_isBarred 18 = .ok (.ifCond .eq 17, 3) := by decide +kernel
theorem dX3_isBarred_21 : decode cX3_isBarred 21 = .ok (.aload_n 0, 1) := by decide +kernel
theorem dX3_isBarred_22 : decode cX3_isBarred 22 = .ok (.getfield 36, 3) := by decide +kernel
theorem dX3_isBarred_25 : decode cX3_isBarred 25 = .ok (.aload_n 0, 1) := by decide +kernel
theorem dX3_isBarred_26 : decode cX3_isBarred 26 = .ok (.getfield 79, 3) := by decide +kernel
theorem dX3_isBarred_29 : decode cX3_isBarred 29 = .ok (.iconst 1, 1) := by decide +kernel
theorem dX3_isBarred_30 : decode cX3_isBarred 30 = .ok (.isub, 1) := by decide +kernel
theorem dX3_isBarred_31 : decode cX3_isBarred 31 = .ok (.aaload, 1) := by decide +kernel
theorem dX3_isBarred_32 : decode cX3_isBarred 32 = .ok (.goto 7, 3) := by decide +kernel
theorem dX3_isBarred_35 : decode cX3_isBarred 35 = .ok (.aload_n 0, 1) := by decide +kernel
theorem dX3_isBarred_36 : decode cX3_isBarred 36 = .ok (.getfield 28, 3) := by decide +kernel
theorem dX3_isBarred_39 : decode cX3_isBarred 39 = .ok (.astore_n 3, 1) := by decide +kernel
theorem dX3_isBarred_40 : decode cX3_isBarred 40 = .ok (.iconst 0, 1) := by decide +kernel
theorem dX3_isBarred_41 : decode cX3_isBarred 41 = .ok (.istore 4, 2) := by decide +kernel
theorem dX3_isBarred_43 : decode cX3_isBarred 43 = .ok (.iload 4, 2) := by decide +kernel
theorem dX3_isBarred_45 : decode cX3_isBarred 45 = .ok (.aload_n 0, 1) := by decide +kernel
theorem dX3_isBarred_46 : decode cX3_isBarred 46 = .ok (.getfield 45, 3) := by decide +kernel
theorem dX3_isBarred_49 : decode cX3_isBarred 49 = .ok (.if_icmp .ge 45, 3) := by decide +kernel
theorem dX3_isBarred_52 : decode cX3_isBarred 52 = .ok (.aload_n 3, 1) := by decide +kernel
theorem dX3_isBarred_53 : decode cX3_isBarred 53 = .ok (.iload_n 2, 1) := by decide +kernel
theorem dX3_isBarred_54 : decode cX3_isBarred 54 = .ok (.iconst 5, 1) := by decide +kernel
theorem dX3_isBarred_55 : decode cX3_isBarred 55 = .ok (.imul, 1) := by decide +kernel
theorem dX3_isBarred_56 : decode cX3_isBarred 56 = .ok (.iload 4, 2) := by decide +kernel
theorem dX3_isBarred_58 : decode cX3_isBarred 58 = .ok (.iadd, 1) := by decide +kernel
theorem dX3_isBarred_59 : decode cX3_isBarred 59 = .ok (.iaload, 1) := by decide +kernel
theorem dX3_isBarred_60 : decode cX3_isBarred 60 = .ok (.istore 5, 2) := by decide +kernel
theorem dX3_isBarred_62 : decode cX3_isBarred 62 = .ok (.iload 5, 2) := by decide +kernel
theorem dX3_isBarred_64 : decode cX3_isBarred 64 = .ok (.ifCond .eq 24, 3) := by decide +kernel
theorem dX3_isBarred_67 : decode cX3_isBarred 67 = .ok (.iload 5, 2) := by decide +kernel
theorem dX3_isBarred_69 : decode cX3_isBarred 69 = .ok (.iconst 1, 1) := by decide +kernel
theorem dX3_isBarred_70 : decode cX3_isBarred 70 = .ok (.aload_n 0, 1) := by decide +kernel
theorem dX3_isBarred_71 : decode cX3_isBarred 71 = .ok (.getfield 31, 3) := by decide +kernel
theorem dX3_isBarred_74 : decode cX3_isBarred 74 = .ok (.iload_n 1, 1) := by decide +kernel
theorem dX3_isBarred_75 : decode cX3_isBarred 75 = .ok (.iconst 5, 1) := by decide +kernel
theorem dX3_isBarred_76 : decode cX3_isBarred 76 = .ok (.imul, 1) := by decide +kernel
theorem dX3_isBarred_77 : decode cX3_isBarred 77 = .ok (.iload 4, 2) := by decide +kernel
theorem dX3_isBarred_79 : decode cX3_isBarred 79 = .ok (.iadd, 1) := by decide +kernel
theorem dX3_isBarred_80 : decode cX3_isBarred 80 = .ok (.iaload, 1) := by decide +kernel
theorem dX3_isBarred_81 : decode cX3_isBarred 81 = .ok (.ishl, 1) := by decide +kernel
theorem dX3_isBarred_82 : decode cX3_isBarred 82 = .ok (.iand, 1) := by decide +kernel
theorem dX3_isBarred_83 : decode cX3_isBarred 83 = .ok (.ifCond .ne 5, 3) := by decide +kernel
theorem dX3_isBarred_86 : decode cX3_isBarred 86 = .ok (.iconst 1, 1) := by decide +kernel
theorem dX3_isBarred_87 : decode cX3_isBarred 87 = .ok (.ireturn, 1) := by decide +kernel
theorem dX3_isBarred_88 : decode cX3_isBarred 88 = .ok (.iinc 4 1, 3) := by decide +kernel
theorem dX3_isBarred_91 : decode cX3_isBarred 91 = .ok (.goto (-48), 3) := by decide +kernel
theorem dX3_isBarred_94 : decode cX3_isBarred 94 = .ok (.iconst 0, 1) := by decide +kernel
theorem dX3_isBarred_95 : decode cX3_isBarred 95 = .ok (.ireturn, 1) := by decide +kernel
theorem dX3_isOpened_0 : decode cX3_isOpened 0 = .ok (.aload_n 0, 1) := by decide +kernel
theorem dX3_isOpened_1 : decode cX3_isOpened 1 = .ok (.getfield 79, 3) := by decide +kernel
theorem dX3_isOpened_4 : decode cX3_isOpened 4 = .ok (.ifCond .le 18, 3) := by decide +kernel
theorem dX3_isOpened_7 : decode cX3_isOpened 7 = .ok (.aload_n 0, 1) := by decide +kernel
theorem dX3_isOpened_8 : decode cX3_isOpened 8 = .ok (.getfield 82, 3) := by decide +kernel
theorem dX3_isOpened_11 : decode cX3_isOpened 11 = .ok (.iconst 1, 1) := by decide +kernel
theorem dX3_isOpened_12 : decode cX3_isOpened 12 = .ok (.iload_n 1, 1) := by decide +kernel
theorem dX3_isOpened_13 : decode cX3_isOpened 13 = .ok (.ishl, 1) := by decide +kernel
theorem dX3_isOpened_14 : decode cX3_isOpened 14 = .ok (.iand, 1) := by decide +kernel
theorem dX3_isOpened_15 : decode cX3_isOpened 15 = .ok (.ifCond .eq 7, 3) := by decide +kernel
theorem dX3_isOpened_18 : decode cX3_isOpened 18 = .ok (.iconst 1, 1) := by decide +kernel
theorem dX3_isOpened_19 : decode cX3_isOpened 19 = .ok (.goto 4, 3) := by decide +kernel
theorem dX3_isOpened_22 : decode cX3_isOpened 22 = .ok (.iconst 0, 1) := by decide +kernel
theorem dX3_isOpened_23 : decode cX3_isOpened 23 = .ok (.ireturn, 1) := by decide +kernel
theorem dX3_carryOut_0 : decode cX3_carryOut 0 = .ok (.iconst 0, 1) := by decide +kernel
theorem dX3_carryOut_1 : decode cX3_carryOut 1 = .ok (.istore_n 2, 1) := by decide +kernel
theorem dX3_carryOut_2 : decode cX3_carryOut 2 = .ok (.iload_n 2, 1) := by decide +kernel
theorem dX3_carryOut_3 : decode cX3_carryOut 3 = .ok (.aload_n 0, 1) := by decide +kernel
theorem dX3_carryOut_4 : decode cX3_carryOut 4 = .ok (.getfield 79, 3) := by decide +kernel
theorem dX3_carryOut_7 : decode cX3_carryOut 7 = .ok (.if_icmp .ge 68, 3) := by decide +kernel
theorem dX3_carryOut_10 : decode cX3_carryOut 10 = .ok (.aload_n 0, 1) := by decide +kernel
theorem dX3_carryOut_11 : decode cX3_carryOut 11 = .ok (.getfield 15, 3) := by decide +kernel
theorem dX3_carryOut_14 : decode cX3_carryOut 14 = .ok (.iload_n 2, 1) := by decide +kernel
theorem dX3_carryOut_15 : decode cX3_carryOut 15 = .ok (.iaload, 1) := by decide +kernel
theorem dX3_carryOut_16 : decode cX3_carryOut 16 = .ok (.istore_n 3, 1) := by decide +kernel
theorem dX3_carryOut_17 : decode cX3_carryOut 17 = .ok (.aload_n 1, 1) := by decide +kernel
theorem dX3_carryOut_18 : decode cX3_carryOut 18 = .ok (.getfield 137, 3) := by decide +kernel
theorem dX3_carryOut_21 : decode cX3_carryOut 21 = .ok (.getfield 140, 3) := by decide +kernel
theorem dX3_carryOut_24 : decode cX3_carryOut 24 = .ok (.iload_n 3, 1) := by decide +kernel
theorem dX3_carryOut_25 : decode cX3_carryOut 25 = .ok (.aload_n 0, 1) := by decide +kernel
theorem dX3_carryOut_26 : decode cX3_carryOut 26 = .ok (.getfield 45, 3) := by decide +kernel
theorem dX3_carryOut_29 : decode cX3_carryOut 29 = .ok (.iastore, 1) := by decide +kernel
theorem dX3_carryOut_30 : decode cX3_carryOut 30 = .ok (.iconst 0, 1) := by decide +kernel
theorem dX3_carryOut_31 : decode cX3_carryOut 31 = .ok (.istore 4, 2) := by decide +kernel
theorem dX3_carryOut_33 : decode cX3_carryOut 33 = .ok (.iload 4, 2) := by decide +kernel
theorem dX3_carryOut_35 : decode cX3_carryOut 35 = .ok (.aload_n 0, 1) := by decide +kernel
theorem dX3_carryOut_36 : decode cX3_carryOut 36 = .ok (.getfield 45, 3) := by decide +kernel
theorem dX3_carryOut_39 : decode cX3_carryOut 39 = .ok (.if_icmp .ge 30, 3) := by decide +kernel
theorem dX3_carryOut_42 : decode cX3_carryOut 42 = .ok (.aload_n 1, 1) := by decide +kernel
theorem dX3_carryOut_43 : decode cX3_carryOut 43 = .ok (.getfield 137, 3) := by decide +kernel
theorem dX3_carryOut_46 : decode cX3_carryOut 46 = .ok (.iload_n 3, 1) := by decide +kernel
theorem dX3_carryOut_47 : decode cX3_carryOut 47 = .ok (.iload 4, 2) := by decide +kernel
theorem dX3_carryOut_49 : decode cX3_carryOut 49 = .ok (.aload_n 0, 1) := by decide +kernel
theorem dX3_carryOut_50 : decode cX3_carryOut 50 = .ok (.getfield 31, 3) := by decide +kernel
theorem dX3_carryOut_53 : decode cX3_carryOut 53 = .ok (.iload_n 3, 1) := by decide +kernel
theorem dX3_carryOut_54 : decode cX3_carryOut 54 = .ok (.iconst 5, 1) := by decide +kernel
theorem dX3_carryOut_55 : decode cX3_carryOut 55 = .ok (.imul, 1) := by decide +kernel
theorem dX3_carryOut_56 : decode cX3_carryOut 56 = .ok (.iload 4, 2) := by decide +kernel
theorem dX3_carryOut_58 : decode cX3_carryOut 58 = .ok (.iadd, 1) := by decide +kernel
theorem dX3_carryOut_59 : decode cX3_carryOut 59 = .ok (.iaload, 1) := by decide +kernel
theorem dX3_carryOut_60 : decode cX3_carryOut 60 = .ok (.invokevirtual 143, 3) := by decide +kernel
theorem dX3_carryOut_63 : decode cX3_carryOut 63 = .ok (.iinc 4 1, 3) := by decide +kernel
theorem dX3_carryOut_66 : decode cX3_carryOut 66 = .ok (.goto (-33), 3) := by decide +kernel
theorem dX3_carryOut_69 : decode cX3_carryOut 69 = .ok (.iinc 2 1, 3) := by decide +kernel
theorem dX3_carryOut_72 : decode cX3_carryOut 72 = .ok (.goto (-70), 3) := by decide +kernel
theorem dX3_carryOut_75 : decode cX3_carryOut 75 = .ok (.iconst 0, 1) := by decide +kernel
theorem dX3_carryOut_76 : decode cX3_carryOut 76 = .ok (.istore_n 2, 1) := by decide +kernel
theorem dX3_carryOut_77 : decode cX3_carryOut 77 = .ok (.iload_n 2, 1) := by decide +kernel
theorem dX3_carryOut_78 : decode cX3_carryOut 78 = .ok (.aload_n 0, 1) := by decide +kernel
theorem dX3_carryOut_79 : decode cX3_carryOut 79 = .ok (.getfield 42, 3) := by decide +kernel
theorem dX3_carryOut_82 : decode cX3_carryOut 82 = .ok (.if_icmp .ge 32, 3) := by decide +kernel
theorem dX3_carryOut_85 : decode cX3_carryOut 85 = .ok (.aload_n 0, 1) := by decide +kernel
theorem dX3_carryOut_86 : decode cX3_carryOut 86 = .ok (.iload_n 2, 1) := by decide +kernel
theorem dX3_carryOut_87 : decode cX3_carryOut 87 = .ok (.invokevirtual 134, 3) := by decide +kernel
theorem dX3_carryOut_90 : decode cX3_carryOut 90 = .ok (.ifCond .eq 18, 3) := by decide +kernel
theorem dX3_carryOut_93 : decode cX3_carryOut 93 = .ok (.aload_n 0, 1) := by decide +kernel
theorem dX3_carryOut_94 : decode cX3_carryOut 94 = .ok (.aload_n 1, 1) := by decide +kernel
theorem dX3_carryOut_95 : decode cX3_carryOut 95 = .ok (.getfield 59, 3) := by decide +kernel
theorem dX3_carryOut_98 : decode cX3_carryOut 98 = .ok (.aload_n 1, 1) := by decide +kernel
theorem dX3_carryOut_99 : decode cX3_carryOut 99 = .ok (.getfield 54, 3) := by decide +kernel
theorem dX3_carryOut_102 : decode cX3_carryOut 102 = .ok (.iload_n 2, 1) := by decide +kernel
theorem dX3_carryOut_103 : decode cX3_carryOut 103 = .ok (.iaload, 1) := by decide +kernel
theorem dX3_carryOut_104 : decode cX3_carryOut 104 = .ok (.iload_n 2, 1) := by decide +kernel
theorem dX3_carryOut_105 : decode cX3_carryOut 105 = .ok (.invokevirtual 147, 3) := by decide +kernel
theorem dX3_carryOut_108 : decode cX3_carryOut 108 = .ok (.iinc 2 1, 3) := by decide +kernel
theorem dX3_carryOut_111 : decode cX3_carryOut 111 = .ok (.goto (-34), 3) := by decide +kernel
theorem dX3_carryOut_114 : decode cX3_carryOut 114 = .ok (.return_, 1) := by decide +kernel
theorem dX3_fillChambers_0 : decode cX3_fillChambers 0 = .ok (.iconst 0, 1) := by decide +kernel
theorem dX3_fillChambers_1 : decode cX3_fillChambers 1 = .ok (.istore 4, 2) := by decide +kernel
theorem dX3_fillChambers_3 : decode cX3_fillChambers 3 = .ok (.iload 4, 2) := by decide +kernel
theorem dX3_fillChambers_5 : decode cX3_fillChambers 5 = .ok (.aload_n 0, 1) := by decide +kernel
theorem dX3_fillChambers_6 : decode cX3_fillChambers 6 = .ok (.getfield 45, 3) := by decide +kernel
theorem dX3_fillChambers_9 : decode cX3_fillChambers 9 = .ok (.if_icmp .ge 34, 3) := by decide +kernel
theorem dX3_fillChambers_12 : decode cX3_fillChambers 12 = .ok (.aload_n 1, 1) := by decide +kernel
theorem dX3_fillChambers_13 : decode cX3_fillChambers 13 = .ok (.iload_n 2, 1) := by decide +kernel
theorem dX3_fillChambers_14 : decode cX3_fillChambers 14 = .ok (.iload 4, 2) := by decide +kernel
theorem dX3_fillChambers_16 : decode cX3_fillChambers 16 = .ok (.aload_n 0, 1) := by decide +kernel
theorem dX3_fillChambers_17 : decode cX3_fillChambers 17 = .ok (.getfield 36, 3) := by decide +kernel
theorem dX3_fillChambers_20 : decode cX3_fillChambers 20 = .ok (.aload_n 0, 1) := by decide +kernel
theorem dX3_fillChambers_21 : decode cX3_fillChambers 21 = .ok (.getfield 79, 3) := by decide +kernel
theorem dX3_fillChambers_24 : decode cX3_fillChambers 24 = .ok (.iconst 1, 1) := by decide +kernel
theorem dX3_fillChambers_25 : decode cX3_fillChambers 25 = .ok (.isub, 1) := by decide +kernel
theorem dX3_fillChambers_26 : decode cX3_fillChambers 26 = .ok (.aaload, 1) := by decide +kernel
theorem dX3_fillChambers_27 : decode cX3_fillChambers 27 = .ok (.iload_n 3, 1) := by decide +kernel
theorem dX3_fillChambers_28 : decode cX3_fillChambers 28 = .ok (.iconst 5, 1) := by decide +kernel
theorem dX3_fillChambers_29 : decode cX3_fillChambers 29 = .ok (.imul, 1) := by decide +kernel
theorem dX3_fillChambers_30 : decode cX3_fillChambers 30 = .ok (.iload 4, 2) := by decide +kernel
theorem dX3_fillChambers_32 : decode cX3_fillChambers 32 = .ok (.iadd, 1) := by decide +kernel
theorem dX3_fillChambers_33 : decode cX3_fillChambers 33 = .ok (.iaload, 1) := by decide +kernel
theorem dX3_fillChambers_34 : decode cX3_fillChambers 34 = .ok (.invokevirtual 151, 3) := by decide +kernel
theorem dX3_fillChambers_37 : decode cX3_fillChambers 37 = .ok (.iinc 4 1, 3) := by decide +kernel
theorem dX3_fillChambers_40 : decode cX3_fillChambers 40 = .ok (.goto (-37), 3) := by decide +kernel
theorem dX3_fillChambers_43 : decode cX3_fillChambers 43 = .ok (.return_, 1) := by decide +kernel
theorem dX4_init_0 : decode cX4_init 0 = .ok (.aload_n 0, 1) := by decide +kernel
theorem dX4_init_1 : decode cX4_init 1 = .ok (.invokespecial 3, 3) := by decide +kernel
theorem dX4_init_4 : decode cX4_init 4 = .ok (.aload_n 0, 1) := by decide +kernel
theorem dX4_init_5 : decode cX4_init 5 = .ok (.bipush 100, 2) := by decide +kernel
theorem dX4_init_7 : decode cX4_init 7 = .ok (.newarray .int, 2) := by decide +kernel
theorem dX4_init_9 : decode cX4_init 9 = .ok (.putfield 9, 3) := by decide +kernel
theorem dX4_init_12 : decode cX4_init 12 = .ok (.aload_n 0, 1) := by decide +kernel
theorem dX4_init_13 : decode cX4_init 13 = .ok (.bipush 100, 2) := by decide +kernel
theorem dX4_init_15 : decode cX4_init 15 = .ok (.newarray .int, 2) := by decide +kernel
theorem dX4_init_17 : decode cX4_init 17 = .ok (.putfield 15, 3) := by decide +kernel
theorem dX4_init_20 : decode cX4_init 20 = .ok (.aload_n 0, 1) := by decide +kernel
theorem dX4_init_21 : decode cX4_init 21 = .ok (.sipush 1800, 3) := by decide +kernel
theorem dX4_init_24 : decode cX4_init 24 = .ok (.newarray .int, 2) := by decide +kernel
theorem dX4_init_26 : decode cX4_init 26 = .ok (.putfield 18, 3) := by decide +kernel
theorem dX4_init_29 : decode cX4_init 29 = .ok (.aload_n 0, 1) := by decide +kernel
theorem dX4_init_30 : decode cX4_init 30 = .ok (.bipush 100, 2) := by decide +kernel
theorem dX4_init_32 : decode cX4_init 32 = .ok (.newarray .int, 2) := by decide +kernel
theorem dX4_init_34 : decode cX4_init 34 = .ok (.putfield 21, 3) := by decide +kernel
theorem dX4_init_37 : decode cX4_init 37 = .ok (.aload_n 0, 1) := by decide +kernel
theorem dX4_init_38 : decode cX4_init 38 = .ok (.bipush 100, 2) := by decide +kernel
theorem dX4_init_40 : decode cX4_init 40 = .ok (.newarray .int, 2) := by decide +kernel
theorem dX4_init_42 : decode cX4_init 42 = .ok (.putfield 24, 3) := by decide +kernel
theorem dX4_init_45 : decode cX4_init 45 = .ok (.aload_n 0, 1) := by decide +kernel
theorem dX4_init_46 : decode cX4_init 46 = .ok (.iconst 0, 1) := by decide +kernel
theorem dX4_init_47 : decode cX4_init 47 = .ok (.putfield 27, 3) := by decide +kernel
theorem dX4_init_50 : decode cX4_init 50 = .ok (.aload_n 0, 1) := by decide +kernel
theorem dX4_init_51 : decode cX4_init 51 = .ok (.iconst (-1), 1) := by decide +kernel
theorem dX4_init_52 : decode cX4_init 52 = .ok (.putfield 31, 3) := by decide +kernel
theorem dX4_init_55 : decode cX4_init 55 = .ok (.aload_n 0, 1) := by decide +kernel
theorem dX4_init_56 : decode cX4_init 56 = .ok (.bipush 18, 2) := by decide +kernel
theorem dX4_init_58 : decode cX4_init 58 = .ok (.newarray .int, 2) := by decide +kernel
theorem dX4_init_60 : decode cX4_init 60 = .ok (.putfield 34, 3) := by decide +kernel
theorem dX4_init_63 : decode cX4_init 63 = .ok (.return_, 1) := by decide +kernel
theorem dX4_has_0 : decode cX4_has 0 = .ok (.iload_n 1, 1) := by decide +kernel
theorem dX4_has_1 : decode cX4_has 1 = .ok (.ifCond .lt 15, 3) := by decide +kernel
theorem dX4_has_4 : decode cX4_has 4 = .ok (.iload_n 1, 1) := by decide +kernel
theorem dX4_has_5 : decode cX4_has 5 = .ok (.aload_n 0, 1) := by decide +kernel
theorem dX4_has_6 : decode cX4_has 6 = .ok (.getfield 27, 3) := by decide +kernel
theorem dX4_has_9 : decode cX4_has 9 = .ok (.if_icmp .ge 7, 3) := by decide +kernel
theorem dX4_has_12 : decode cX4_has 12 = .ok (.iconst 1, 1) := by decide +kernel
theorem dX4_has_13 : decode cX4_has 13 = .ok (.goto 4, 3) := by decide +kernel
theorem dX4_has_16 : decode cX4_has 16 = .ok (.iconst 0, 1) := by decide +kernel
theorem dX4_has_17 : decode cX4_has 17 = .ok (.ireturn, 1) := by decide +kernel
theorem dX4_hasOrNone_0 : decode cX4_hasOrNone 0 = .ok (.iload_n 1, 1) := by decide +kernel
theorem dX4_hasOrNone_1 : decode cX4_hasOrNone 1 = .ok (.iconst (-1), 1) := by decide +kernel
theorem dX4_hasOrNone_2 : decode cX4_hasOrNone 2 = .ok (.if_icmp .eq 11, 3) := by decide +kernel
theorem dX4_hasOrNone_5 : decode cX4_hasOrNone 5 = .ok (.aload_n 0, 1) := by decide +kernel
theorem dX4_hasOrNone_6 : decode cX4_hasOrNone 6 = .ok (.iload_n 1, 1) := by decide +kernel
theorem dX4_hasOrNone_7 : decode cX4_hasOrNone 7 = .ok (.invokevirtual 37, 3) := by decide +kernel
theorem dX4_hasOrNone_10 : decode cX4_hasOrNone 10 = .ok (.ifCond .eq 7, 3) := by decide +kernel
theorem dX4_hasOrNone_13 : decode cX4_hasOrNone 13 = .ok (.iconst 1, 1) := by decide +kernel
theorem dX4_hasOrNone_14 : decode cX4_hasOrNone 14 = .ok (.goto 4, 3) := by decide +kernel
theorem dX4_hasOrNone_17 : decode cX4_hasOrNone 17 = .ok (.iconst 0, 1) := by decide +kernel
theorem dX4_hasOrNone_18 : decode cX4_hasOrNone 18 = .ok (.ireturn, 1) := by decide +kernel
theorem dX4_isDouble_0 : decode cX4_isDouble 0 = .ok (.aload_n 0, 1) := by decide +kernel
theorem dX4_isDouble_1 : decode cX4_isDouble 1 = .ok (.iload_n 1, 1) := by decide +kernel
theorem dX4_isDouble_2 : decode cX4_isDouble 2 = .ok (.invokevirtual 37, 3) := by decide +kernel
theorem dX4_isDouble_5 : decode cX4_isDouble 5 = .ok (.ifCond .eq 17, 3) := by decide +kernel
theorem dX4_isDouble_8 : decode cX4_isDouble 8 = .ok (.aload_n 0, 1) := by decide +kernel
theorem dX4_isDouble_9 : decode cX4_isDouble 9 = .ok (.getfield 9, 3) := by decide +kernel
theorem dX4_isDouble_12 : decode cX4_isDouble 12 = .ok (.iload_n 1, 1) := by decide +kernel
theorem dX4_isDouble_13 : decode cX4_isDouble 13 = .ok (.iaload, 1) := by decide +kernel
theorem dX4_isDouble_14 : decode cX4_isDouble 14 = .ok (.iconst 4, 1) := by decide +kernel
theorem dX4_isDouble_15 : decode cX4_isDouble 15 = .ok (.if_icmp .ne 7, 3) := by decide +kernel
theorem dX4_isDouble_18 : decode cX4_isDouble 18 = .ok (.iconst 1, 1) := by decide +kernel
theorem dX4_isDouble_19 : decode cX4_isDouble 19 = .ok (.goto 4, 3) := by decide +kernel
theorem dX4_isDouble_22 : decode cX4_isDouble 22 = .ok (.iconst 0, 1) := by decide +kernel
theorem dX4_isDouble_23 : decode cX4_isDouble 23 = .ok (.ireturn, 1) := by decide +kernel
theorem dX4_isCore_0 : decode cX4_isCore 0 = .ok (.aload_n 0, 1) := by decide +kernel
theorem dX4_isCore_1 : decode cX4_isCore 1 = .ok (.iload_n 1, 1) := by decide +kernel
theorem dX4_isCore_2 : decode cX4_isCore 2 = .ok (.invokevirtual 37, 3) := by decide +kernel
theorem dX4_isCore_5 : decode cX4_isCore 5 = .ok (.ifCond .eq 17, 3) := by decide +kernel
theorem dX4_isCore_8 : decode cX4_isCore 8 = .ok (.aload_n 0, 1) := by decide +kernel
theorem dX4_isCore_9 : decode cX4_isCore 9 = .ok (.getfield 9, 3) := by decide +kernel
theorem dX4_isCore_12 : decode cX4_isCore 12 = .ok (.iload_n 1, 1) := by decide +kernel
theorem dX4_isCore_13 : decode cX4_isCore 13 = .ok (.iaload, 1) := by decide +kernel
theorem dX4_isCore_14 : decode cX4_isCore 14 = .ok (.iconst 2, 1) := by decide +kernel
theorem dX4_isCore_15 : decode cX4_isCore 15 = .ok (.if_icmp .ne 7, 3) := by decide +kernel
theorem dX4_isCore_18 : decode cX4_isCore 18 = .ok (.iconst 1, 1) := by decide +kernel
theorem dX4_isCore_19 : decode cX4_isCore 19 = .ok (.goto 4, 3) := by decide +kernel
theorem dX4_isCore_22 : decode cX4_isCore 22 = .ok (.iconst 0, 1) := by decide +kernel
theorem dX4_isCore_23 : decode cX4_isCore 23 = .ok (.ireturn, 1) := by decide +kernel
theorem dX4_isBlind_0 : decode cX4_isBlind 0 = .ok (.aload_n 0, 1) := by decide +kernel
theorem dX4_isBlind_1 : decode cX4_isBlind 1 = .ok (.iload_n 1, 1) := by decide +kernel
theorem dX4_isBlind_2 : decode cX4_isBlind 2 = .ok (.invokevirtual 37, 3) := by decide +kernel
theorem dX4_isBlind_5 : decode cX4_isBlind 5 = .ok (.ifCond .eq 17, 3) := by decide +kernel
theorem dX4_isBlind_8 : decode cX4_isBlind 8 = .ok (.aload_n 0, 1) := by decide +kernel
theorem dX4_isBlind_9 : decode cX4_isBlind 9 = .ok (.getfield 9, 3) := by decide +kernel
theorem dX4_isBlind_12 : decode cX4_isBlind 12 = .ok (.iload_n 1, 1) := by decide +kernel
theorem dX4_isBlind_13 : decode cX4_isBlind 13 = .ok (.iaload, 1) := by decide +kernel
theorem dX4_isBlind_14 : decode cX4_isBlind 14 = .ok (.iconst 3, 1) := by decide +kernel
theorem dX4_isBlind_15 : decode cX4_isBlind 15 = .ok (.if_icmp .ne 7, 3) := by decide +kernel
theorem dX4_isBlind_18 : decode cX4_isBlind 18 = .ok (.iconst 1, 1) := by decide +kernel
theorem dX4_isBlind_19 : decode cX4_isBlind 19 = .ok (.goto 4, 3) := by decide +kernel
theorem dX4_isBlind_22 : decode cX4_isBlind 22 = .ok (.iconst 0, 1) := by decide +kernel
theorem dX4_isBlind_23 : decode cX4_isBlind 23 = .ok (.ireturn, 1) := by decide +kernel
theorem dX4_isOut_0 : decode cX4_isOut 0 = .ok (.aload_n 0, 1) := by decide +kernel
theorem dX4_isOut_1 : decode cX4_isOut 1 = .ok (.iload_n 1, 1) := by decide +kernel
theorem dX4_isOut_2 : decode cX4_isOut 2 = .ok (.invokevirtual 37, 3) := by decide +kernel
theorem dX4_isOut_5 : decode cX4_isOut 5 = .ok (.ifCond .eq 27, 3) := by decide +kernel
theorem dX4_isOut_8 : decode cX4_isOut 8 = .ok (.aload_n 0, 1) := by decide +kernel
theorem dX4_isOut_9 : decode cX4_isOut 9 = .ok (.getfield 9, 3) := by decide +kernel
theorem dX4_isOut_12 : decode cX4_isOut 12 = .ok (.iload_n 1, 1) := by decide +kernel
theorem dX4_isOut_13 : decode cX4_isOut 13 = .ok (.iaload, 1) := by decide +kernel
theorem dX4_isOut_14 : decode cX4_isOut 14 = .ok (.iconst 2, 1) := by decide +kernel
theorem dX4_isOut_15 : decode cX4_isOut 15 = .ok (.if_icmp .ne 17, 3) := by decide +kernel
theorem dX4_isOut_18 : decode cX4_isOut 18 = .ok (.aload_n 0, 1) := by decide +kernel
theorem dX4_isOut_19 : decode cX4_isOut 19 = .ok (.getfield 15, 3) := by decide +kernel
theorem dX4_isOut_22 : decode cX4_isOut 22 = .ok (.iload_n 1, 1) := by decide +kernel
theorem dX4_isOut_23 : decode cX4_isOut 23 = .ok (.iaload, 1) := by decide +kernel
theorem dX4_isOut_24 : decode cX4_isOut 24 = .ok (.iconst (-1), 1) := by decide +kernel
theorem dX4_isOut_25 : decode cX4_isOut 25 = .ok (.if_icmp .ne 7, 3) := by decide +kernel
theorem dX4_isOut_28 : decode cX4_isOut 28 = .ok (.iconst 1, 1) := by decide +kernel
theorem dX4_isOut_29 : decode cX4_isOut 29 = .ok (.goto 4, 3) := by decide +kernel
theorem dX4_isOut_32 : decode cX4_isOut 32 = .ok (.iconst 0, 1) := by decide +kernel
theorem dX4_isOut_33 : decode cX4_isOut 33 = .ok (.ireturn, 1) := by decide +kernel
theorem dX4_isOf_0 : decode cX4_isOf 0 = .ok (.aload_n 0, 1) := by decide +kernel
theorem dX4_isOf_1 : decode cX4_isOf 1 = .ok (.iload_n 1, 1) := by decide +kernel
theorem dX4_isOf_2 : decode cX4_isOf 2 = .ok (.invokevirtual 37, 3) := by decide +kernel
theorem dX4_isOf_5 : decode cX4_isOf 5 = .ok (.ifCond .ne 5, 3) := by decide +kernel
theorem dX4_isOf_8 : decode cX4_isOf 8 = .ok (.iconst 0, 1) := by decide +kernel
theorem dX4_isOf_9 : decode cX4_isOf 9 = .ok (.ireturn, 1) := by decide +kernel
theorem dX4_isOf_10 : decode cX4_isOf 10 = .ok (.aload_n 0, 1) := by decide +kernel
theorem dX4_isOf_11 : decode cX4_isOf 11 = .ok (.getfield 9, 3) := by decide +kernel
theorem dX4_isOf_14 : decode cX4_isOf 14 = .ok (.iload_n 1, 1) := by decide +kernel
theorem dX4_isOf_15 : decode cX4_isOf 15 = .ok (.iaload, 1) := by decide +kernel
theorem dX4_isOf_16 : decode cX4_isOf 16 = .ok (.istore_n 3, 1) := by decide +kernel
theorem dX4_isOf_17 : decode cX4_isOf 17 = .ok (.iload_n 3, 1) := by decide +kernel
theorem dX4_isOf_18 : decode cX4_isOf 18 = .ok (.iload_n 2, 1) := by decide +kernel
theorem dX4_isOf_19 : decode cX4_isOf 19 = .ok (.if_icmp .eq 22, 3) := by decide +kernel
theorem dX4_isOf_22 : decode cX4_isOf 22 = .ok (.iload_n 2, 1) := by decide +kernel
theorem dX4_isOf_23 : decode cX4_isOf 23 = .ok (.ifCond .ne 8, 3) := by decide +kernel
theorem dX4_isOf_26 : decode cX4_isOf 26 = .ok (.iload_n 3, 1) := by decide +kernel
theorem dX4_isOf_27 : decode cX4_isOf 27 = .ok (.iconst 4, 1) := by decide +kernel
theorem dX4_isOf_28 : decode cX4_isOf 28 = .ok (.if_icmp .ne 13, 3) := by decide +kernel
theorem dX4_isOf_31 : decode cX4_isOf 31 = .ok (.iload_n 2, 1) := by decide +kernel
theorem dX4_isOf_32 : decode cX4_isOf 32 = .ok (.iconst 1, 1) := by decide +kernel
theorem dX4_isOf_33 : decode cX4_isOf 33 = .ok (.if_icmp .ne 12, 3) := by decide +kernel
theorem dX4_isOf_36 : decode cX4_isOf 36 = .ok (.iload_n 3, 1) := by decide +kernel
theorem dX4_isOf_37 : decode cX4_isOf 37 = .ok (.iconst 2, 1) := by decide +kernel
theorem dX4_isOf_38 : decode cX4_isOf 38 = .ok (.if_icmp .ne 7, 3) := by decide +kernel
theorem dX4_isOf_41 : decode cX4_isOf 41 = .ok (.iconst 1, 1) := by decide +kernel
theorem dX4_isOf_42 : decode cX4_isOf 42 = .ok (.goto 4, 3) := by decide +kernel
theorem dX4_isOf_45 : decode cX4_isOf 45 = .ok (.iconst 0, 1) := by decide +kernel
theorem dX4_isOf_46 : decode cX4_isOf 46 = .ok (.ireturn, 1) := by decide +kernel
theorem dX4_most_0 : decode cX4_most 0 = .ok (.aload_n 0, 1) := by decide +kernel
theorem dX4_most_1 : decode cX4_most 1 = .ok (.iload_n 1, 1) := by decide +kernel
theorem dX4_most_2 : decode cX4_most 2 = .ok (.iconst 1, 1) := by decide +kernel
theorem dX4_most_3 : decode cX4_most 3 = .ok (.invokevirtual 41, 3) := by decide +kernel
theorem dX4_most_6 : decode cX4_most 6 = .ok (.ifCond .eq 5, 3) := by decide +kernel
theorem dX4_most_9 : decode cX4_most 9 = .ok (.iconst 4, 1) := by decide +kernel
theorem dX4_most_10 : decode cX4_most 10 = .ok (.ireturn, 1) := by decide +kernel
theorem dX4_most_11 : decode cX4_most 11 = .ok (.aload_n 0, 1) := by decide +kernel
theorem dX4_most_12 : decode cX4_most 12 = .ok (.iload_n 1, 1) := by decide +kernel
theorem dX4_most_13 : decode cX4_most 13 = .ok (.invokevirtual 45, 3) := by decide +kernel
theorem dX4_most_16 : decode cX4_most 16 = .ok (.ifCond .eq 7, 3) := by decide +kernel
theorem dX4_most_19 : decode cX4_most 19 = .ok (.iconst 0, 1) := by decide +kernel
theorem dX4_most_20 : decode cX4_most 20 = .ok (.goto 4, 3) := by decide +kernel
theorem dX4_most_23 : decode cX4_most 23 = .ok (.iconst 1, 1) := by decide +kernel
theorem dX4_most_24 : decode cX4_most 24 = .ok (.ireturn, 1) := by decide +kernel
theorem dX4_rowFinding_0 : decode cX4_rowFinding 0 = .ok (.aload_n 0, 1) := by decide +kernel
theorem dX4_rowFinding_1 : decode cX4_rowFinding 1 = .ok (.iload_n 1, 1) := by decide +kernel
theorem dX4_rowFinding_2 : decode cX4_rowFinding 2 = .ok (.invokevirtual 48, 3) := by decide +kernel
theorem dX4_rowFinding_5 : decode cX4_rowFinding 5 = .ok (.ifCond .eq 6, 3) := by decide +kernel
theorem dX4_rowFinding_8 : decode cX4_rowFinding 8 = .ok (.bipush (-13), 2) := by decide +kernel
theorem dX4_rowFinding_10 : decode cX4_rowFinding 10 = .ok (.ireturn, 1) := by decide +kernel
theorem dX4_rowFinding_11 : decode cX4_rowFinding 11 = .ok (.aload_n 0, 1) := by decide +kernel
theorem dX4_rowFinding_12 : decode cX4_rowFinding 12 = .ok (.iload_n 1, 1) := by decide +kernel
theorem dX4_rowFinding_13 : decode cX4_rowFinding 13 = .ok (.invokevirtual 51, 3) := by decide +kernel
theorem dX4_rowFinding_16 : decode cX4_rowFinding 16 = .ok (.ifCond .eq 8, 3) := by decide +kernel
theorem dX4_rowFinding_19 : decode cX4_rowFinding 19 = .ok (.bipush (-11), 2) := by decide +kernel
theorem dX4_rowFinding_21 : decode cX4_rowFinding 21 = .ok (.goto 4, 3) := by decide +kernel
theorem dX4_rowFinding_24 : decode cX4_rowFinding 24 = .ok (.iconst 0, 1) := by decide +kernel
theorem dX4_rowFinding_25 : decode cX4_rowFinding 25 = .ok (.ireturn, 1) := by decide +kernel
theorem dX4_chamberFinding_0 : decode cX4_chamberFinding 0 = .ok (.aload_n 0, 1) := by decide +kernel
theorem dX4_chamberFinding_1 : decode cX4_chamberFinding 1 = .ok (.iload_n 1, 1) := by decide +kernel
theorem dX4_chamberFinding_2 : decode cX4_chamberFinding 2 = .ok (.invokevirtual 54, 3) := by decide +kernel
theorem dX4_chamberFinding_5 : decode cX4_chamberFinding 5 = .ok (.istore_n 3, 1) := by decide +kernel
theorem dX4_chamberFinding_6 : decode cX4_chamberFinding 6 = .ok (.iload_n 3, 1) := by decide +kernel
theorem dX4_chamberFinding_7 : decode cX4_chamberFinding 7 = .ok (.ifCond .eq 5, 3) := by decide +kernel
theorem dX4_chamberFinding_10 : decode cX4_chamberFinding 10 = .ok (.iload_n 3, 1) := by decide +kernel
theorem dX4_chamberFinding_11 : decode cX4_chamberFinding 11 = .ok (.ireturn, 1) := by decide +kernel
theorem dX4_chamberFinding_12 : decode cX4_chamberFinding 12 = .ok (.aload_n 0, 1) := by decide +kernel
theorem dX4_chamberFinding_13 : decode cX4_chamberFinding 13 = .ok (.iload_n 1, 1) := by decide +kernel
theorem dX4_chamberFinding_14 : decode cX4_chamberFinding 14 = .ok (.iload_n 2, 1) := by decide +kernel
theorem dX4_chamberFinding_15 : decode cX4_chamberFinding 15 = .ok (.invokevirtual 58, 3) := by decide +kernel
theorem dX4_chamberFinding_18 : decode cX4_chamberFinding 18 = .ok (.ifCond .eq 7, 3) := by decide +kernel
theorem dX4_chamberFinding_21 : decode cX4_chamberFinding 21 = .ok (.iconst 0, 1) := by decide +kernel
theorem dX4_chamberFinding_22 : decode cX4_chamberFinding 22 = .ok (.goto 5, 3) := by decide +kernel
theorem dX4_chamberFinding_25 : decode cX4_chamberFinding 25 = .ok (.bipush (-12), 2) := by decide +kernel
theorem dX4_chamberFinding_27 : decode cX4_chamberFinding 27 = .ok (.ireturn, 1) := by decide +kernel
theorem dX4_hasChamber_0 : decode cX4_hasChamber 0 = .ok (.aload_n 0, 1) := by decide +kernel
theorem dX4_hasChamber_1 : decode cX4_hasChamber 1 = .ok (.iload_n 1, 1) := by decide +kernel
theorem dX4_hasChamber_2 : decode cX4_hasChamber 2 = .ok (.invokevirtual 37, 3) := by decide +kernel
theorem dX4_hasChamber_5 : decode cX4_hasChamber 5 = .ok (.ifCond .eq 21, 3) := by decide +kernel
theorem dX4_hasChamber_8 : decode cX4_hasChamber 8 = .ok (.iload_n 2, 1) := by decide +kernel
theorem dX4_hasChamber_9 : decode cX4_hasChamber 9 = .ok (.ifCond .lt 17, 3) := by decide +kernel
theorem dX4_hasChamber_12 : decode cX4_hasChamber 12 = .ok (.iload_n 2, 1) := by decide +kernel
theorem dX4_hasChamber_13 : decode cX4_hasChamber 13 = .ok (.aload_n 0, 1) := by decide +kernel
theorem dX4_hasChamber_14 : decode cX4_hasChamber 14 = .ok (.getfield 15, 3) := by decide +kernel
theorem dX4_hasChamber_17 : decode cX4_hasChamber 17 = .ok (.iload_n 1, 1) := by decide +kernel
theorem dX4_hasChamber_18 : decode cX4_hasChamber 18 = .ok (.iaload, 1) := by decide +kernel
theorem dX4_hasChamber_19 : decode cX4_hasChamber 19 = .ok (.if_icmp .ge 7, 3) := by decide +kernel
theorem dX4_hasChamber_22 : decode cX4_hasChamber 22 = .ok (.iconst 1, 1) := by decide +kernel
theorem dX4_hasChamber_23 : decode cX4_hasChamber 23 = .ok (.goto 4, 3) := by decide +kernel
theorem dX4_hasChamber_26 : decode cX4_hasChamber 26 = .ok (.iconst 0, 1) := by decide +kernel
theorem dX4_hasChamber_27 : decode cX4_hasChamber 27 = .ok (.ireturn, 1) := by decide +kernel
theorem dX4_heightsIn_0 : decode cX4_heightsIn 0 = .ok (.aload_n 0, 1) := by decide +kernel
theorem dX4_heightsIn_1 : decode cX4_heightsIn 1 = .ok (.iload_n 1, 1) := by decide +kernel
theorem dX4_heightsIn_2 : decode cX4_heightsIn 2 = .ok (.iload_n 2, 1) := by decide +kernel
theorem dX4_heightsIn_3 : decode cX4_heightsIn 3 = .ok (.invokevirtual 58, 3) := by decide +kernel
theorem dX4_heightsIn_6 : decode cX4_heightsIn 6 = .ok (.ifCond .eq 17, 3) := by decide +kernel
theorem dX4_heightsIn_9 : decode cX4_heightsIn 9 = .ok (.aload_n 0, 1) := by decide +kernel
theorem dX4_heightsIn_10 : decode cX4_heightsIn 10 = .ok (.getfield 18, 3) := by decide +kernel
theorem dX4_heightsIn_13 : decode cX4_heightsIn 13 = .ok (.iload_n 1, 1) := by decide +kernel
theorem dX4_heightsIn_14 : decode cX4_heightsIn 14 = .ok (.bipush 18, 2) := by decide +kernel
theorem dX4_heightsIn_16 : decode cX4_heightsIn 16 = .ok (.imul, 1) := by decide +kernel
theorem dX4_heightsIn_17 : decode cX4_heightsIn 17 = .ok (.iload_n 2, 1) := by decide +kernel
theorem dX4_heightsIn_18 : decode cX4_heightsIn 18 = .ok (.iadd, 1) := by decide +kernel
theorem dX4_heightsIn_19 : decode cX4_heightsIn 19 = .ok (.iaload, 1) := by decide +kernel
theorem dX4_heightsIn_20 : decode cX4_heightsIn 20 = .ok (.goto 4, 3) := by decide +kernel
theorem dX4_heightsIn_23 : decode cX4_heightsIn 23 = .ok (.iconst 0, 1) := by decide +kernel
theorem dX4_heightsIn_24 : decode cX4_heightsIn 24 = .ok (.ireturn, 1) := by decide +kernel
theorem dX4_setHeights_0 : decode cX4_setHeights 0 = .ok (.aload_n 0, 1) := by decide +kernel
theorem dX4_setHeights_1 : decode cX4_setHeights 1 = .ok (.iload_n 1, 1) := by decide +kernel
theorem dX4_setHeights_2 : decode cX4_setHeights 2 = .ok (.iload_n 2, 1) := by decide +kernel
theorem dX4_setHeights_3 : decode cX4_setHeights 3 = .ok (.invokevirtual 58, 3) := by decide +kernel
theorem dX4_setHeights_6 : decode cX4_setHeights 6 = .ok (.ifCond .eq 15, 3) := by decide +kernel
theorem dX4_setHeights_9 : decode cX4_setHeights 9 = .ok (.aload_n 0, 1) := by decide +kernel
theorem dX4_setHeights_10 : decode cX4_setHeights 10 = .ok (.getfield 18, 3) := by decide +kernel
theorem dX4_setHeights_13 : decode cX4_setHeights 13 = .ok (.iload_n 1, 1) := by decide +kernel
theorem dX4_setHeights_14 : decode cX4_setHeights 14 = .ok (.bipush 18, 2) := by decide +kernel
theorem dX4_setHeights_16 : decode cX4_setHeights 16 = .ok (.imul, 1) := by decide +kernel
theorem dX4_setHeights_17 : decode cX4_setHeights 17 = .ok (.iload_n 2, 1) := by decide +kernel
theorem dX4_setHeights_18 : decode cX4_setHeights 18 = .ok (.iadd, 1) := by decide +kernel
theorem dX4_setHeights_19 : decode cX4_setHeights 19 = .ok (.iload_n 3, 1) := by decide +kernel
theorem dX4_setHeights_20 : decode cX4_setHeights 20 = .ok (.iastore, 1) := by decide +kernel
theorem dX4_setHeights_21 : decode cX4_setHeights 21 = .ok (.return_, 1) := by decide +kernel
theorem dX4_add_0 : decode cX4_add 0 = .ok (.aload_n 0, 1) := by decide +kernel
theorem dX4_add_1 : decode cX4_add 1 = .ok (.getfield 27, 3) := by decide +kernel
theorem dX4_add_4 : decode cX4_add 4 = .ok (.istore_n 3, 1) := by decide +kernel
theorem dX4_add_5 : decode cX4_add 5 = .ok (.aload_n 0, 1) := by decide +kernel
theorem dX4_add_6 : decode cX4_add 6 = .ok (.dup, 1) := by decide +kernel
theorem dX4_add_7 : decode cX4_add 7 = .ok (.getfield 27, 3) := by decide +kernel
theorem dX4_add_10 : decode cX4_add 10 = .ok (.iconst 1, 1) := by decide +kernel
theorem dX4_add_11 : decode cX4_add 11 = .ok (.iadd, 1) := by decide +kernel
theorem dX4_add_12 : decode cX4_add 12 = .ok (.putfield 27, 3) := by decide +kernel
theorem dX4_add_15 : decode cX4_add 15 = .ok (.aload_n 0, 1) := by decide +kernel
theorem dX4_add_16 : decode cX4_add 16 = .ok (.getfield 9, 3) := by decide +kernel
theorem dX4_add_19 : decode cX4_add 19 = .ok (.iload_n 3, 1) := by decide +kernel
theorem dX4_add_20 : decode cX4_add 20 = .ok (.iload_n 1, 1) := by decide +kernel
theorem dX4_add_21 : decode cX4_add 21 = .ok (.iastore, 1) := by decide +kernel
theorem dX4_add_22 : decode cX4_add 22 = .ok (.aload_n 0, 1) := by decide +kernel
theorem dX4_add_23 : decode cX4_add 23 = .ok (.getfield 15, 3) := by decide +kernel
theorem dX4_add_26 : decode cX4_add 26 = .ok (.iload_n 3, 1) := by decide +kernel
theorem dX4_add_27 : decode cX4_add 27 = .ok (.iload_n 2, 1) := by decide +kernel
theorem dX4_add_28 : decode cX4_add 28 = .ok (.iastore, 1) := by decide +kernel
theorem dX4_add_29 : decode cX4_add 29 = .ok (.aload_n 0, 1) := by decide +kernel
theorem dX4_add_30 : decode cX4_add 30 = .ok (.getfield 21, 3) := by decide +kernel
theorem dX4_add_33 : decode cX4_add 33 = .ok (.iload_n 3, 1) := by decide +kernel
theorem dX4_add_34 : decode cX4_add 34 = .ok (.iconst (-1), 1) := by decide +kernel
theorem dX4_add_35 : decode cX4_add 35 = .ok (.iastore, 1) := by decide +kernel
theorem dX4_add_36 : decode cX4_add 36 = .ok (.aload_n 0, 1) := by decide +kernel
theorem dX4_add_37 : decode cX4_add 37 = .ok (.getfield 24, 3) := by decide +kernel
theorem dX4_add_40 : decode cX4_add 40 = .ok (.iload_n 3, 1) := by decide +kernel
theorem dX4_add_41 : decode cX4_add 41 = .ok (.iconst (-1), 1) := by decide +kernel
theorem dX4_add_42 : decode cX4_add 42 = .ok (.iastore, 1) := by decide +kernel
theorem dX4_add_43 : decode cX4_add 43 = .ok (.iconst 0, 1) := by decide +kernel
theorem dX4_add_44 : decode cX4_add 44 = .ok (.istore 4, 2) := by decide +kernel
theorem dX4_add_46 : decode cX4_add 46 = .ok (.iload 4, 2) := by decide +kernel
theorem dX4_add_48 : decode cX4_add 48 = .ok (.iload_n 2, 1) := by decide +kernel
theorem dX4_add_49 : decode cX4_add 49 = .ok (.if_icmp .ge 17, 3) := by decide +kernel
theorem dX4_add_52 : decode cX4_add 52 = .ok (.aload_n 0, 1) := by decide +kernel
theorem dX4_add_53 : decode cX4_add 53 = .ok (.iload_n 3, 1) := by decide +kernel
theorem dX4_add_54 : decode cX4_add 54 = .ok (.iload 4, 2) := by decide +kernel
theorem dX4_add_56 : decode cX4_add 56 = .ok (.iconst 0, 1) := by decide +kernel
theorem dX4_add_57 : decode cX4_add 57 = .ok (.invokevirtual 61, 3) := by decide +kernel
theorem dX4_add_60 : decode cX4_add 60 = .ok (.iinc 4 1, 3) := by decide +kernel
theorem dX4_add_63 : decode cX4_add 63 = .ok (.goto (-17), 3) := by decide +kernel
theorem dX4_add_66 : decode cX4_add 66 = .ok (.iload_n 3, 1) := by decide +kernel
theorem dX4_add_67 : decode cX4_add 67 = .ok (.ireturn, 1) := by decide +kernel
theorem dX4_addDouble_0 : decode cX4_addDouble 0 = .ok (.aload_n 0, 1) := by decide +kernel
theorem dX4_addDouble_1 : decode cX4_addDouble 1 = .ok (.iconst 4, 1) := by decide +kernel
theorem dX4_addDouble_2 : decode cX4_addDouble 2 = .ok (.iconst 0, 1) := by decide +kernel
theorem dX4_addDouble_3 : decode cX4_addDouble 3 = .ok (.invokevirtual 65, 3) := by decide +kernel
theorem dX4_addDouble_6 : decode cX4_addDouble 6 = .ok (.istore_n 3, 1) := by decide +kernel
theorem dX4_addDouble_7 : decode cX4_addDouble 7 = .ok (.aload_n 0, 1) := by decide +kernel
theorem dX4_addDouble_8 : decode cX4_addDouble 8 = .ok (.getfield 21, 3) := by decide +kernel
theorem dX4_addDouble_11 : decode cX4_addDouble 11 = .ok (.iload_n 3, 1) := by decide +kernel
theorem dX4_addDouble_12 : decode cX4_addDouble 12 = .ok (.iload_n 1, 1) := by decide +kernel
theorem dX4_addDouble_13 : decode cX4_addDouble 13 = .ok (.iastore, 1) := by decide +kernel
theorem dX4_addDouble_14 : decode cX4_addDouble 14 = .ok (.aload_n 0, 1) := by decide +kernel
theorem dX4_addDouble_15 : decode cX4_addDouble 15 = .ok (.getfield 24, 3) := by decide +kernel
theorem dX4_addDouble_18 : decode cX4_addDouble 18 = .ok (.iload_n 3, 1) := by decide +kernel
theorem dX4_addDouble_19 : decode cX4_addDouble 19 = .ok (.iload_n 2, 1) := by decide +kernel
theorem dX4_addDouble_20 : decode cX4_addDouble 20 = .ok (.iastore, 1) := by decide +kernel
theorem dX4_addDouble_21 : decode cX4_addDouble 21 = .ok (.iload_n 3, 1) := by decide +kernel
theorem dX4_addDouble_22 : decode cX4_addDouble 22 = .ok (.ireturn, 1) := by decide +kernel
theorem dX4_rowToTray_0 : decode cX4_rowToTray 0 = .ok (.aload_n 0, 1) := by decide +kernel
theorem dX4_rowToTray_1 : decode cX4_rowToTray 1 = .ok (.getfield 18, 3) := by decide +kernel
theorem dX4_rowToTray_4 : decode cX4_rowToTray 4 = .ok (.iload_n 1, 1) := by decide +kernel
theorem dX4_rowToTray_5 : decode cX4_rowToTray 5 = .ok (.bipush 18, 2) := by decide +kernel
theorem dX4_rowToTray_7 : decode cX4_rowToTray 7 = .ok (.imul, 1) := by decide +kernel
theorem dX4_rowToTray_8 : decode cX4_rowToTray 8 = .ok (.aload_n 0, 1) := by decide +kernel
theorem dX4_rowToTray_9 : decode cX4_rowToTray 9 = .ok (.getfield 34, 3) := by decide +kernel
theorem dX4_rowToTray_12 : decode cX4_rowToTray 12 = .ok (.iconst 0, 1) := by decide +kernel
theorem dX4_rowToTray_13 : decode cX4_rowToTray 13 = .ok (.aload_n 0, 1) := by decide +kernel
theorem dX4_rowToTray_14 : decode cX4_rowToTray 14 = .ok (.getfield 15, 3) := by decide +kernel
theorem dX4_rowToTray_17 : decode cX4_rowToTray 17 = .ok (.iload_n 1, 1) := by decide +kernel
theorem dX4_rowToTray_18 : decode cX4_rowToTray 18 = .ok (.iaload, 1) := by decide +kernel
theorem dX4_rowToTray_19 : decode cX4_rowToTray 19 = .ok (.invokestatic 69, 3) := by decide +kernel
theorem dX4_rowToTray_22 : decode cX4_rowToTray 22 = .ok (.aload_n 0, 1) := by decide +kernel
theorem dX4_rowToTray_23 : decode cX4_rowToTray 23 = .ok (.aload_n 0, 1) := by decide +kernel
theorem dX4_rowToTray_24 : decode cX4_rowToTray 24 = .ok (.getfield 15, 3) := by decide +kernel
theorem dX4_rowToTray_27 : decode cX4_rowToTray 27 = .ok (.iload_n 1, 1) := by decide +kernel
theorem dX4_rowToTray_28 : decode cX4_rowToTray 28 = .ok (.iaload, 1) := by decide +kernel
theorem dX4_rowToTray_29 : decode cX4_rowToTray 29 = .ok (.putfield 31, 3) := by decide +kernel
theorem dX4_rowToTray_32 : decode cX4_rowToTray 32 = .ok (.aload_n 0, 1) := by decide +kernel
theorem dX4_rowToTray_33 : decode cX4_rowToTray 33 = .ok (.getfield 15, 3) := by decide +kernel
theorem dX4_rowToTray_36 : decode cX4_rowToTray 36 = .ok (.iload_n 1, 1) := by decide +kernel
theorem dX4_rowToTray_37 : decode cX4_rowToTray 37 = .ok (.iconst (-1), 1) := by decide +kernel
theorem dX4_rowToTray_38 : decode cX4_rowToTray 38 = .ok (.iastore, 1) := by decide +kernel
theorem dX4_rowToTray_39 : decode cX4_rowToTray 39 = .ok (.aload_n 0, 1) := by decide +kernel
theorem dX4_rowToTray_40 : decode cX4_rowToTray 40 = .ok (.getfield 31, 3) := by decide +kernel
theorem dX4_rowToTray_43 : decode cX4_rowToTray 43 = .ok (.ireturn, 1) := by decide +kernel
theorem dX4_rowFromTray_0 : decode cX4_rowFromTray 0 = .ok (.aload_n 0, 1) := by decide +kernel
theorem dX4_rowFromTray_1 : decode cX4_rowFromTray 1 = .ok (.getfield 34, 3) := by decide +kernel
theorem dX4_rowFromTray_4 : decode cX4_rowFromTray 4 = .ok (.iconst 0, 1) := by decide +kernel
theorem dX4_rowFromTray_5 : decode cX4_rowFromTray 5 = .ok (.aload_n 0, 1) := by decide +kernel
theorem dX4_rowFromTray_6 : decode cX4_rowFromTray 6 = .ok (.getfield 18, 3) := by decide +kernel
theorem dX4_rowFromTray_9 : decode cX4_rowFromTray 9 = .ok (.iload_n 1, 1) := by decide +kernel
theorem dX4_rowFromTray_10 : decode cX4_rowFromTray 10 = .ok (.bipush 18, 2) := by decide +kernel
theorem dX4_rowFromTray_12 : decode cX4_rowFromTray 12 = .ok (.imul, 1) := by decide +kernel
theorem dX4_rowFromTray_13 : decode cX4_rowFromTray 13 = .ok (.aload_n 0, 1) := by decide +kernel
theorem dX4_rowFromTray_14 : decode cX4_rowFromTray 14 = .ok (.getfield 31, 3) := by decide +kernel
theorem dX4_rowFromTray_17 : decode cX4_rowFromTray 17 = .ok (.invokestatic 69, 3) := by decide +kernel
theorem dX4_rowFromTray_20 : decode cX4_rowFromTray 20 = .ok (.aload_n 0, 1) := by decide +kernel
theorem dX4_rowFromTray_21 : decode cX4_rowFromTray 21 = .ok (.getfield 15, 3) := by decide +kernel
theorem dX4_rowFromTray_24 : decode cX4_rowFromTray 24 = .ok (.iload_n 1, 1) := by decide +kernel
theorem dX4_rowFromTray_25 : decode cX4_rowFromTray 25 = .ok (.aload_n 0, 1) := by decide +kernel
theorem dX4_rowFromTray_26 : decode cX4_rowFromTray 26 = .ok (.getfield 31, 3) := by decide +kernel
theorem dX4_rowFromTray_29 : decode cX4_rowFromTray 29 = .ok (.iastore, 1) := by decide +kernel
theorem dX4_rowFromTray_30 : decode cX4_rowFromTray 30 = .ok (.aload_n 0, 1) := by decide +kernel
theorem dX4_rowFromTray_31 : decode cX4_rowFromTray 31 = .ok (.iconst (-1), 1) := by decide +kernel
theorem dX4_rowFromTray_32 : decode cX4_rowFromTray 32 = .ok (.putfield 31, 3) := by decide +kernel
theorem dX4_rowFromTray_35 : decode cX4_rowFromTray 35 = .ok (.aload_n 0, 1) := by decide +kernel
theorem dX4_rowFromTray_36 : decode cX4_rowFromTray 36 = .ok (.getfield 15, 3) := by decide +kernel
theorem dX4_rowFromTray_39 : decode cX4_rowFromTray 39 = .ok (.iload_n 1, 1) := by decide +kernel
theorem dX4_rowFromTray_40 : decode cX4_rowFromTray 40 = .ok (.iaload, 1) := by decide +kernel
theorem dX4_rowFromTray_41 : decode cX4_rowFromTray 41 = .ok (.ireturn, 1) := by decide +kernel
theorem dX4_become_0 : decode cX4_become 0 = .ok (.aload_n 0, 1) := by decide +kernel
theorem dX4_become_1 : decode cX4_become 1 = .ok (.aload_n 1, 1) := by decide +kernel
theorem dX4_become_2 : decode cX4_become 2 = .ok (.getfield 27, 3) := by decide +kernel
theorem dX4_become_5 : decode cX4_become 5 = .ok (.putfield 27, 3) := by decide +kernel
theorem dX4_become_8 : decode cX4_become 8 = .ok (.aload_n 1, 1) := by decide +kernel
theorem dX4_become_9 : decode cX4_become 9 = .ok (.getfield 9, 3) := by decide +kernel
theorem dX4_become_12 : decode cX4_become 12 = .ok (.iconst 0, 1) := by decide +kernel
theorem dX4_become_13 : decode cX4_become 13 = .ok (.aload_n 0, 1) := by decide +kernel
theorem dX4_become_14 : decode cX4_become 14 = .ok (.getfield 9, 3) := by decide +kernel
theorem dX4_become_17 : decode cX4_become 17 = .ok (.iconst 0, 1) := by decide +kernel
theorem dX4_become_18 : decode cX4_become 18 = .ok (.aload_n 0, 1) := by decide +kernel
theorem dX4_become_19 : decode cX4_become 19 = .ok (.getfield 27, 3) := by decide +kernel
theorem dX4_become_22 : decode cX4_become 22 = .ok (.invokestatic 69, 3) := by decide +kernel
theorem dX4_become_25 : decode cX4_become 25 = .ok (.aload_n 1, 1) := by decide +kernel
theorem dX4_become_26 : decode cX4_become 26 = .ok (.getfield 15, 3) := by decide +kernel
theorem dX4_become_29 : decode cX4_become 29 = .ok (.iconst 0, 1) := by decide +kernel
theorem dX4_become_30 : decode cX4_become 30 = .ok (.aload_n 0, 1) := by decide +kernel
theorem dX4_become_31 : decode cX4_become 31 = .ok (.getfield 15, 3) := by decide +kernel
theorem dX4_become_34 : decode cX4_become 34 = .ok (.iconst 0, 1) := by decide +kernel
theorem dX4_become_35 : decode cX4_become 35 = .ok (.aload_n 0, 1) := by decide +kernel
theorem dX4_become_36 : decode cX4_become 36 = .ok (.getfield 27, 3) := by decide +kernel
theorem dX4_become_39 : decode cX4_become 39 = .ok (.invokestatic 69, 3) := by decide +kernel
theorem dX4_become_42 : decode cX4_become 42 = .ok (.aload_n 1, 1) := by decide +kernel
theorem dX4_become_43 : decode cX4_become 43 = .ok (.getfield 18, 3) := by decide +kernel
theorem dX4_become_46 : decode cX4_become 46 = .ok (.iconst 0, 1) := by decide +kernel
theorem dX4_become_47 : decode cX4_become 47 = .ok (.aload_n 0, 1) := by decide +kernel
theorem dX4_become_48 : decode cX4_become 48 = .ok (.getfield 18, 3) := by decide +kernel
theorem dX4_become_51 : decode cX4_become 51 = .ok (.iconst 0, 1) := by decide +kernel
theorem dX4_become_52 : decode cX4_become 52 = .ok (.aload_n 0, 1) := by decide +kernel
theorem dX4_become_53 : decode cX4_become 53 = .ok (.getfield 27, 3) := by decide +kernel
theorem dX4_become_56 : decode cX4_become 56 = .ok (.bipush 18, 2) := by decide +kernel
theorem dX4_become_58 : decode cX4_become 58 = .ok (.imul, 1) := by decide +kernel
theorem dX4_become_59 : decode cX4_become 59 = .ok (.invokestatic 69, 3) := by decide +kernel
theorem dX4_become_62 : decode cX4_become 62 = .ok (.aload_n 1, 1) := by decide +kernel
theorem dX4_become_63 : decode cX4_become 63 = .ok (.getfield 21, 3) := by decide +kernel
theorem dX4_become_66 : decode cX4_become 66 = .ok (.iconst 0, 1) := by decide +kernel
theorem dX4_become_67 : decode cX4_become 67 = .ok (.aload_n 0, 1) := by decide +kernel
theorem dX4_become_68 : decode cX4_become 68 = .ok (.getfield 21, 3) := by decide +kernel
theorem dX4_become_71 : decode cX4_become 71 = .ok (.iconst 0, 1) := by decide +kernel
theorem dX4_become_72 : decode cX4_become 72 = .ok (.aload_n 0, 1) := by decide +kernel
theorem dX4_become_73 : decode cX4_become 73 = .ok (.getfield 27, 3) := by decide +kernel
theorem dX4_become_76 : decode cX4_become 76 = .ok (.invokestatic 69, 3) := by decide +kernel
theorem dX4_become_79 : decode cX4_become 79 = .ok (.aload_n 1, 1) := by decide +kernel
theorem dX4_become_80 : decode cX4_become 80 = .ok (.getfield 24, 3) := by decide +kernel
theorem dX4_become_83 : decode cX4_become 83 = .ok (.iconst 0, 1) := by decide +kernel
theorem dX4_become_84 : decode cX4_become 84 = .ok (.aload_n 0, 1) := by decide +kernel
theorem dX4_become_85 : decode cX4_become 85 = .ok (.getfield 24, 3) := by decide +kernel
theorem dX4_become_88 : decode cX4_become 88 = .ok (.iconst 0, 1) := by decide +kernel
theorem dX4_become_89 : decode cX4_become 89 = .ok (.aload_n 0, 1) := by decide +kernel
theorem dX4_become_90 : decode cX4_become 90 = .ok (.getfield 27, 3) := by decide +kernel
theorem dX4_become_93 : decode cX4_become 93 = .ok (.invokestatic 69, 3) := by decide +kernel
theorem dX4_become_96 : decode cX4_become 96 = .ok (.aload_n 0, 1) := by decide +kernel
theorem dX4_become_97 : decode cX4_become 97 = .ok (.aload_n 1, 1) := by decide +kernel
theorem dX4_become_98 : decode cX4_become 98 = .ok (.getfield 31, 3) := by decide +kernel
theorem dX4_become_101 : decode cX4_become 101 = .ok (.putfield 31, 3) := by decide +kernel
theorem dX4_become_104 : decode cX4_become 104 = .ok (.aload_n 1, 1) := by decide +kernel
theorem dX4_become_105 : decode cX4_become 105 = .ok (.getfield 34, 3) := by decide +kernel
theorem dX4_become_108 : decode cX4_become 108 = .ok (.iconst 0, 1) := by decide +kernel
theorem dX4_become_109 : decode cX4_become 109 = .ok (.aload_n 0, 1) := by decide +kernel
theorem dX4_become_110 : decode cX4_become 110 = .ok (.getfield 34, 3) := by decide +kernel
theorem dX4_become_113 : decode cX4_become 113 = .ok (.iconst 0, 1) := by decide +kernel
theorem dX4_become_114 : decode cX4_become 114 = .ok (.bipush 18, 2) := by decide +kernel
theorem dX4_become_116 : decode cX4_become 116 = .ok (.invokestatic 69, 3) := by decide +kernel
theorem dX4_become_119 : decode cX4_become 119 = .ok (.return_, 1) := by decide +kernel
theorem dX5_init_0 : decode cX5_init 0 = .ok (.aload_n 0, 1) := by decide +kernel
theorem dX5_init_1 : decode cX5_init 1 = .ok (.invokespecial 3, 3) := by decide +kernel
theorem dX5_init_4 : decode cX5_init 4 = .ok (.aload_n 0, 1) := by decide +kernel
theorem dX5_init_5 : decode cX5_init 5 = .ok (.bipush 100, 2) := by decide +kernel
theorem dX5_init_7 : decode cX5_init 7 = .ok (.newarray .int, 2) := by decide +kernel
theorem dX5_init_9 : decode cX5_init 9 = .ok (.putfield 9, 3) := by decide +kernel
theorem dX5_init_12 : decode cX5_init 12 = .ok (.aload_n 0, 1) := by decide +kernel
theorem dX5_init_13 : decode cX5_init 13 = .ok (.sipush 1800, 3) := by decide +kernel
theorem dX5_init_16 : decode cX5_init 16 = .ok (.newarray .int, 2) := by decide +kernel
theorem dX5_init_18 : decode cX5_init 18 = .ok (.putfield 15, 3) := by decide +kernel
theorem dX5_init_21 : decode cX5_init 21 = .ok (.aload_n 0, 1) := by decide +kernel
theorem dX5_init_22 : decode cX5_init 22 = .ok (.bipush 100, 2) := by decide +kernel
theorem dX5_init_24 : decode cX5_init 24 = .ok (.newarray .int, 2) := by decide +kernel
theorem dX5_init_26 : decode cX5_init 26 = .ok (.putfield 18, 3) := by decide +kernel
theorem dX5_init_29 : decode cX5_init 29 = .ok (.aload_n 0, 1) := by decide +kernel
theorem dX5_init_30 : decode cX5_init 30 = .ok (.bipush 100, 2) := by decide +kernel
theorem dX5_init_32 : decode cX5_init 32 = .ok (.newarray .long, 2) := by decide +kernel
theorem dX5_init_34 : decode cX5_init 34 = .ok (.putfield 21, 3) := by decide +kernel
theorem dX5_init_37 : decode cX5_init 37 = .ok (.aload_n 0, 1) := by decide +kernel
theorem dX5_init_38 : decode cX5_init 38 = .ok (.bipush 100, 2) := by decide +kernel
theorem dX5_init_40 : decode cX5_init 40 = .ok (.newarray .long, 2) := by decide +kernel
theorem dX5_init_42 : decode cX5_init 42 = .ok (.putfield 25, 3) := by decide +kernel
theorem dX5_init_45 : decode cX5_init 45 = .ok (.aload_n 0, 1) := by decide +kernel
theorem dX5_init_46 : decode cX5_init 46 = .ok (.iconst 0, 1) := by decide +kernel
theorem dX5_init_47 : decode cX5_init 47 = .ok (.putfield 28, 3) := by decide +kernel
theorem dX5_init_50 : decode cX5_init 50 = .ok (.return_, 1) := by decide +kernel
theorem dX5_has_0 : decode cX5_has 0 = .ok (.iload_n 1, 1) := by decide +kernel
theorem dX5_has_1 : decode cX5_has 1 = .ok (.ifCond .lt 15, 3) := by decide +kernel
theorem dX5_has_4 : decode cX5_has 4 = .ok (.iload_n 1, 1) := by decide +kernel
theorem dX5_has_5 : decode cX5_has 5 = .ok (.aload_n 0, 1) := by decide +kernel
theorem dX5_has_6 : decode cX5_has 6 = .ok (.getfield 28, 3) := by decide +kernel
theorem dX5_has_9 : decode cX5_has 9 = .ok (.if_icmp .ge 7, 3) := by decide +kernel
theorem dX5_has_12 : decode cX5_has 12 = .ok (.iconst 1, 1) := by decide +kernel
theorem dX5_has_13 : decode cX5_has 13 = .ok (.goto 4, 3) := by decide +kernel
theorem dX5_has_16 : decode cX5_has 16 = .ok (.iconst 0, 1) := by decide +kernel
theorem dX5_has_17 : decode cX5_has 17 = .ok (.ireturn, 1) := by decide +kernel
theorem dX5_hasCut_0 : decode cX5_hasCut 0 = .ok (.aload_n 0, 1) := by decide +kernel
theorem dX5_hasCut_1 : decode cX5_hasCut 1 = .ok (.iload_n 1, 1) := by decide +kernel
theorem dX5_hasCut_2 : decode cX5_hasCut 2 = .ok (.invokevirtual 32, 3) := by decide +kernel
theorem dX5_hasCut_5 : decode cX5_hasCut 5 = .ok (.ifCond .eq 21, 3) := by decide +kernel
theorem dX5_hasCut_8 : decode cX5_hasCut 8 = .ok (.iload_n 2, 1) := by decide +kernel
theorem dX5_hasCut_9 : decode cX5_hasCut 9 = .ok (.ifCond .lt 17, 3) := by decide +kernel
theorem dX5_hasCut_12 : decode cX5_hasCut 12 = .ok (.iload_n 2, 1) := by decide +kernel
theorem dX5_hasCut_13 : decode cX5_hasCut 13 = .ok (.aload_n 0, 1) := by decide +kernel
theorem dX5_hasCut_14 : decode cX5_hasCut 14 = .ok (.getfield 9, 3) := by decide +kernel
theorem dX5_hasCut_17 : decode cX5_hasCut 17 = .ok (.iload_n 1, 1) := by decide +kernel
theorem dX5_hasCut_18 : decode cX5_hasCut 18 = .ok (.iaload, 1) := by decide +kernel
theorem dX5_hasCut_19 : decode cX5_hasCut 19 = .ok (.if_icmp .ge 7, 3) := by decide +kernel
theorem dX5_hasCut_22 : decode cX5_hasCut 22 = .ok (.iconst 1, 1) := by decide +kernel
theorem dX5_hasCut_23 : decode cX5_hasCut 23 = .ok (.goto 4, 3) := by decide +kernel
theorem dX5_hasCut_26 : decode cX5_hasCut 26 = .ok (.iconst 0, 1) := by decide +kernel
theorem dX5_hasCut_27 : decode cX5_hasCut 27 = .ok (.ireturn, 1) := by decide +kernel
theorem dX5_cutAt_0 : decode cX5_cutAt 0 = .ok (.aload_n 0, 1) := by decide +kernel
theorem dX5_cutAt_1 : decode cX5_cutAt 1 = .ok (.iload_n 1, 1) := by decide +kernel
theorem dX5_cutAt_2 : decode cX5_cutAt 2 = .ok (.iload_n 2, 1) := by decide +kernel
theorem dX5_cutAt_3 : decode cX5_cutAt 3 = .ok (.invokevirtual 36, 3) := by decide +kernel
theorem dX5_cutAt_6 : decode cX5_cutAt 6 = .ok (.ifCond .eq 17, 3) := by decide +kernel
theorem dX5_cutAt_9 : decode cX5_cutAt 9 = .ok (.aload_n 0, 1) := by decide +kernel
theorem dX5_cutAt_10 : decode cX5_cutAt 10 = .ok (.getfield 15, 3) := by decide +kernel
theorem dX5_cutAt_13 : decode cX5_cutAt 13 = .ok (.iload_n 1, 1) := by decide +kernel
theorem dX5_cutAt_14 : decode cX5_cutAt 14 = .ok (.bipush 18, 2) := by decide +kernel
theorem dX5_cutAt_16 : decode cX5_cutAt 16 = .ok (.imul, 1) := by decide +kernel
theorem dX5_cutAt_17 : decode cX5_cutAt 17 = .ok (.iload_n 2, 1) := by decide +kernel
theorem dX5_cutAt_18 : decode cX5_cutAt 18 = .ok (.iadd, 1) := by decide +kernel
theorem dX5_cutAt_19 : decode cX5_cutAt 19 = .ok (.iaload, 1) := by decide +kernel
theorem dX5_cutAt_20 : decode cX5_cutAt 20 = .ok (.goto 4, 3) := by decide +kernel
theorem dX5_cutAt_23 : decode cX5_cutAt 23 = .ok (.iconst (-1), 1) := by decide +kernel
theorem dX5_cutAt_24 : decode cX5_cutAt 24 = .ok (.ireturn, 1) := by decide +kernel
theorem dX5_setCut_0 : decode cX5_setCut 0 = .ok (.aload_n 0, 1) := by decide +kernel
theorem dX5_setCut_1 : decode cX5_setCut 1 = .ok (.iload_n 1, 1) := by decide +kernel
theorem dX5_setCut_2 : decode cX5_setCut 2 = .ok (.iload_n 2, 1) := by decide +kernel
theorem dX5_setCut_3 : decode cX5_setCut 3 = .ok (.invokevirtual 36, 3) := by decide +kernel
theorem dX5_setCut_6 : decode cX5_setCut 6 = .ok (.ifCond .eq 15, 3) := by decide +kernel
theorem dX5_setCut_9 : decode cX5_setCut 9 = .ok (.aload_n 0, 1) := by decide +kernel
theorem dX5_setCut_10 : decode cX5_setCut 10 = .ok (.getfield 15, 3) := by decide +kernel
theorem dX5_setCut_13 : decode cX5_setCut 13 = .ok (.iload_n 1, 1) := by decide +kernel
theorem dX5_setCut_14 : decode cX5_setCut 14 = .ok (.bipush 18, 2) := by decide +kernel
theorem dX5_setCut_16 : decode cX5_setCut 16 = .ok (.imul, 1) := by decide +kernel
theorem dX5_setCut_17 : decode cX5_setCut 17 = .ok (.iload_n 2, 1) := by decide +kernel
theorem dX5_setCut_18 : decode cX5_setCut 18 = .ok (.iadd, 1) := by decide +kernel
theorem dX5_setCut_19 : decode cX5_setCut 19 = .ok (.iload_n 3, 1) := by decide +kernel
theorem dX5_setCut_20 : decode cX5_setCut 20 = .ok (.iastore, 1) := by decide +kernel
theorem dX5_setCut_21 : decode cX5_setCut 21 = .ok (.return_, 1) := by decide +kernel
theorem dX5_add_0 : decode cX5_add 0 = .ok (.aload_n 0, 1) := by decide +kernel
theorem dX5_add_1 : decode cX5_add 1 = .ok (.iload_n 1, 1) := by decide +kernel
theorem dX5_add_2 : decode cX5_add 2 = .ok (.invokevirtual 40, 3) := by decide +kernel
theorem dX5_add_5 : decode cX5_add 5 = .ok (.istore 4, 2) := by decide +kernel
theorem dX5_add_7 : decode cX5_add 7 = .ok (.lload_n 2, 1) := by decide +kernel
theorem dX5_add_8 : decode cX5_add 8 = .ok (.lstore 5, 2) := by decide +kernel
theorem dX5_add_10 : decode cX5_add 10 = .ok (.iconst 0, 1) := by decide +kernel
theorem dX5_add_11 : decode cX5_add 11 = .ok (.istore 7, 2) := by decide +kernel
theorem dX5_add_13 : decode cX5_add 13 = .ok (.iload 7, 2) := by decide +kernel
theorem dX5_add_15 : decode cX5_add 15 = .ok (.iload_n 1, 1) := by decide +kernel
theorem dX5_add_16 : decode cX5_add 16 = .ok (.if_icmp .ge 32, 3) := by decide +kernel
theorem dX5_add_19 : decode cX5_add 19 = .ok (.aload_n 0, 1) := by decide +kernel
theorem dX5_add_20 : decode cX5_add 20 = .ok (.iload 4, 2) := by decide +kernel
theorem dX5_add_22 : decode cX5_add 22 = .ok (.iload 7, 2) := by decide +kernel
theorem dX5_add_24 : decode cX5_add 24 = .ok (.lload 5, 2) := by decide +kernel
theorem dX5_add_26 : decode cX5_add 26 = .ok (.ldc2_w 44, 3) := by decide +kernel
theorem dX5_add_29 : decode cX5_add 29 = .ok (.lrem, 1) := by decide +kernel
theorem dX5_add_30 : decode cX5_add 30 = .ok (.l2i, 1) := by decide +kernel
theorem dX5_add_31 : decode cX5_add 31 = .ok (.invokevirtual 46, 3) := by decide +kernel
theorem dX5_add_34 : decode cX5_add 34 = .ok (.lload 5, 2) := by decide +kernel
theorem dX5_add_36 : decode cX5_add 36 = .ok (.ldc2_w 44, 3) := by decide +kernel
theorem dX5_add_39 : decode cX5_add 39 = .ok (.ldiv, 1) := by decide +kernel
theorem dX5_add_40 : decode cX5_add 40 = .ok (.lstore 5, 2) := by decide +kernel
theorem dX5_add_42 : decode cX5_add 42 = .ok (.iinc 7 1, 3) := by decide +kernel
theorem dX5_add_45 : decode cX5_add 45 = .ok (.goto (-32), 3) := by decide +kernel
theorem dX5_add_48 : decode cX5_add 48 = .ok (.iload 4, 2) := by decide +kernel
theorem dX5_add_50 : decode cX5_add 50 = .ok (.ireturn, 1) := by decide +kernel
theorem dX5_addTurned_0 : decode cX5_addTurned 0 = .ok (.aload_n 0, 1) := by decide +kernel
theorem dX5_addTurned_1 : decode cX5_addTurned 1 = .ok (.iload_n 2, 1) := by decide +kernel
theorem dX5_addTurned_2 : decode cX5_addTurned 2 = .ok (.invokevirtual 40, 3) := by decide +kernel
theorem dX5_addTurned_5 : decode cX5_addTurned 5 = .ok (.istore_n 3, 1) := by decide +kernel
theorem dX5_addTurned_6 : decode cX5_addTurned 6 = .ok (.iconst 0, 1) := by decide +kernel
theorem dX5_addTurned_7 : decode cX5_addTurned 7 = .ok (.istore 4, 2) := by decide +kernel
theorem dX5_addTurned_9 : decode cX5_addTurned 9 = .ok (.iload 4, 2) := by decide +kernel
theorem dX5_addTurned_11 : decode cX5_addTurned 11 = .ok (.iload_n 2, 1) := by decide +kernel
theorem dX5_addTurned_12 : decode cX5_addTurned 12 = .ok (.if_icmp .ge 27, 3) := by decide +kernel
theorem dX5_addTurned_15 : decode cX5_addTurned 15 = .ok (.aload_n 0, 1) := by decide +kernel
theorem dX5_addTurned_16 : decode cX5_addTurned 16 = .ok (.iload_n 3, 1) := by decide +kernel
theorem dX5_addTurned_17 : decode cX5_addTurned 17 = .ok (.iload 4, 2) := by decide +kernel
theorem dX5_addTurned_19 : decode cX5_addTurned 19 = .ok (.aload_n 0, 1) := by decide +kernel
theorem dX5_addTurned_20 : decode cX5_addTurned 20 = .ok (.iload_n 1, 1) := by decide +kernel
theorem dX5_addTurned_21 : decode cX5_addTurned 21 = .ok (.iload_n 2, 1) := by decide +kernel
theorem dX5_addTurned_22 : decode cX5_addTurned 22 = .ok (.iconst 1, 1) := by decide +kernel
theorem dX5_addTurned_23 : decode cX5_addTurned 23 = .ok (.isub, 1) := by decide +kernel
theorem dX5_addTurned_24 : decode cX5_addTurned 24 = .ok (.iload 4, 2) := by decide +kernel
theorem dX5_addTurned_26 : decode cX5_addTurned 26 = .ok (.isub, 1) := by decide +kernel
theorem dX5_addTurned_27 : decode cX5_addTurned 27 = .ok (.invokevirtual 50, 3) := by decide +kernel
theorem dX5_addTurned_30 : decode cX5_addTurned 30 = .ok (.invokevirtual 46, 3) := by decide +kernel
theorem dX5_addTurned_33 : decode cX5_addTurned 33 = .ok (.iinc 4 1, 3) := by decide +kernel
theorem dX5_addTurned_36 : decode cX5_addTurned 36 = .ok (.goto (-27), 3) := by decide +kernel
theorem dX5_addTurned_39 : decode cX5_addTurned 39 = .ok (.iload_n 3, 1) := by decide +kernel
theorem dX5_addTurned_40 : decode cX5_addTurned 40 = .ok (.ireturn, 1) := by decide +kernel
theorem dX5_addEmpty_0 : decode cX5_addEmpty 0 = .ok (.aload_n 0, 1) := by decide +kernel
theorem dX5_addEmpty_1 : decode cX5_addEmpty 1 = .ok (.getfield 28, 3) := by decide +kernel
theorem dX5_addEmpty_4 : decode cX5_addEmpty 4 = .ok (.istore_n 2, 1) := by decide +kernel
theorem dX5_addEmpty_5 : decode cX5_addEmpty 5 = .ok (.aload_n 0, 1) := by decide +kernel
theorem dX5_addEmpty_6 : decode cX5_addEmpty 6 = .ok (.dup, 1) := by decide +kernel
theorem dX5_addEmpty_7 : decode cX5_addEmpty 7 = .ok (.getfield 28, 3) := by decide +kernel
theorem dX5_addEmpty_10 : decode cX5_addEmpty 10 = .ok (.iconst 1, 1) := by decide +kernel
theorem dX5_addEmpty_11 : decode cX5_addEmpty 11 = .ok (.iadd, 1) := by decide +kernel
theorem dX5_addEmpty_12 : decode cX5_addEmpty 12 = .ok (.putfield 28, 3) := by decide +kernel
theorem dX5_addEmpty_15 : decode cX5_addEmpty 15 = .ok (.aload_n 0, 1) := by decide +kernel
theorem dX5_addEmpty_16 : decode cX5_addEmpty 16 = .ok (.getfield 9, 3) := by decide +kernel
theorem dX5_addEmpty_19 : decode cX5_addEmpty 19 = .ok (.iload_n 2, 1) := by decide +kernel
theorem dX5_addEmpty_20 : decode cX5_addEmpty 20 = .ok (.iload_n 1, 1) := by decide +kernel
theorem dX5_addEmpty_21 : decode cX5_addEmpty 21 = .ok (.iastore, 1) := by decide +kernel
theorem dX5_addEmpty_22 : decode cX5_addEmpty 22 = .ok (.aload_n 0, 1) := by decide +kernel
theorem dX5_addEmpty_23 : decode cX5_addEmpty 23 = .ok (.getfield 18, 3) := by decide +kernel
theorem dX5_addEmpty_26 : decode cX5_addEmpty 26 = .ok (.iload_n 2, 1) := by decide +kernel
theorem dX5_addEmpty_27 : decode cX5_addEmpty 27 = .ok (.iconst (-1), 1) := by decide +kernel
theorem dX5_addEmpty_28 : decode cX5_addEmpty 28 = .ok (.iastore, 1) := by decide +kernel
theorem dX5_addEmpty_29 : decode cX5_addEmpty 29 = .ok (.aload_n 0, 1) := by decide +kernel
theorem dX5_addEmpty_30 : decode cX5_addEmpty 30 = .ok (.getfield 21, 3) := by decide +kernel
theorem dX5_addEmpty_33 : decode cX5_addEmpty 33 = .ok (.iload_n 2, 1) := by decide +kernel
theorem dX5_addEmpty_34 : decode cX5_addEmpty 34 = .ok (.lconst 0, 1) := by decide +kernel
theorem dX5_addEmpty_35 : decode cX5_addEmpty 35 = .ok (.lastore, 1) := by decide +kernel
theorem dX5_addEmpty_36 : decode cX5_addEmpty 36 = .ok (.aload_n 0, 1) := by decide +kernel
theorem dX5_addEmpty_37 : decode cX5_addEmpty 37 = .ok (.getfield 25, 3) := by decide +kernel
theorem dX5_addEmpty_40 : decode cX5_addEmpty 40 = .ok (.iload_n 2, 1) := by decide +kernel
theorem dX5_addEmpty_41 : decode cX5_addEmpty 41 = .ok (.lconst 0, 1) := by decide +kernel
theorem dX5_addEmpty_42 : decode cX5_addEmpty 42 = .ok (.lastore, 1) := by decide +kernel
theorem dX5_addEmpty_43 : decode cX5_addEmpty 43 = .ok (.iload_n 2, 1) := by decide +kernel
theorem dX5_addEmpty_44 : decode cX5_addEmpty 44 = .ok (.ireturn, 1) := by decide +kernel
theorem dX5_heldBy_0 : decode cX5_heldBy 0 = .ok (.iconst 0, 1) := by decide +kernel
theorem dX5_heldBy_1 : decode cX5_heldBy 1 = .ok (.istore_n 2, 1) := by decide +kernel
theorem dX5_heldBy_2 : decode cX5_heldBy 2 = .ok (.iconst 0, 1) := by decide +kernel
theorem dX5_heldBy_3 : decode cX5_heldBy 3 = .ok (.istore_n 3, 1) := by decide +kernel
theorem dX5_heldBy_4 : decode cX5_heldBy 4 = .ok (.iload_n 3, 1) := by decide +kernel
theorem dX5_heldBy_5 : decode cX5_heldBy 5 = .ok (.aload_n 0, 1) := by decide +kernel
theorem dX5_heldBy_6 : decode cX5_heldBy 6 = .ok (.getfield 28, 3) := by decide +kernel
theorem dX5_heldBy_9 : decode cX5_heldBy 9 = .ok (.if_icmp .ge 22, 3) := by decide +kernel
theorem dX5_heldBy_12 : decode cX5_heldBy 12 = .ok (.aload_n 0, 1) := by decide +kernel
theorem dX5_heldBy_13 : decode cX5_heldBy 13 = .ok (.getfield 18, 3) := by decide +kernel
theorem dX5_heldBy_16 : decode cX5_heldBy 16 = .ok (.iload_n 3, 1) := by decide +kernel
theorem dX5_heldBy_17 : decode cX5_heldBy 17 = .ok (.iaload, 1) := by decide +kernel
theorem dX5_heldBy_18 : decode cX5_heldBy 18 = .ok (.iload_n 1, 1) := by decide +kernel
theorem dX5_heldBy_19 : decode cX5_heldBy 19 = .ok (.if_icmp .ne 6, 3) := by decide +kernel
theorem dX5_heldBy_22 : decode cX5_heldBy 22 = .ok (.iinc 2 1, 3) := by decide +kernel
theorem dX5_heldBy_25 : decode cX5_heldBy 25 = .ok (.iinc 3 1, 3) := by decide +kernel
theorem dX5_heldBy_28 : decode cX5_heldBy 28 = .ok (.goto (-24), 3) := by decide +kernel
theorem dX5_heldBy_31 : decode cX5_heldBy 31 = .ok (.iload_n 2, 1) := by decide +kernel
theorem dX5_heldBy_32 : decode cX5_heldBy 32 = .ok (.ireturn, 1) := by decide +kernel
theorem dX5_wishFor_0 : decode cX5_wishFor 0 = .ok (.lconst 1, 1) := by decide +kernel
theorem dX5_wishFor_1 : decode cX5_wishFor 1 = .ok (.iload_n 2, 1) := by decide +kernel
theorem dX5_wishFor_2 : decode cX5_wishFor 2 = .ok (.lshl, 1) := by decide +kernel
theorem dX5_wishFor_3 : decode cX5_wishFor 3 = .ok (.lstore_n 3, 1) := by decide +kernel
theorem dX5_wishFor_4 : decode cX5_wishFor 4 = .ok (.aload_n 0, 1) := by decide +kernel
theorem dX5_wishFor_5 : decode cX5_wishFor 5 = .ok (.getfield 21, 3) := by decide +kernel
theorem dX5_wishFor_8 : decode cX5_wishFor 8 = .ok (.iload_n 1, 1) := by decide +kernel
theorem dX5_wishFor_9 : decode cX5_wishFor 9 = .ok (.laload, 1) := by decide +kernel
theorem dX5_wishFor_10 : decode cX5_wishFor 10 = .ok (.lload_n 3, 1) := by decide +kernel
theorem dX5_wishFor_11 : decode cX5_wishFor 11 = .ok (.land, 1) := by decide +kernel
theorem dX5_wishFor_12 : decode cX5_wishFor 12 = .ok (.lconst 0, 1) := by decide +kernel
theorem dX5_wishFor_13 : decode cX5_wishFor 13 = .ok (.lcmp, 1) := by decide +kernel
theorem dX5_wishFor_14 : decode cX5_wishFor 14 = .ok (.ifCond .eq 5, 3) := by decide +kernel
theorem dX5_wishFor_17 : decode cX5_wishFor 17 = .ok (.iconst 1, 1) := by decide +kernel
theorem dX5_wishFor_18 : decode cX5_wishFor 18 = .ok (.ireturn, 1) := by decide +kernel
theorem dX5_wishFor_19 : decode cX5_wishFor 19 = .ok (.aload_n 0, 1) := by decide +kernel
theorem dX5_wishFor_20 : decode cX5_wishFor 20 = .ok (.getfield 25, 3) := by decide +kernel
theorem dX5_wishFor_23 : decode cX5_wishFor 23 = .ok (.iload_n 1, 1) := by decide +kernel
theorem dX5_wishFor_24 : decode cX5_wishFor 24 = .ok (.laload, 1) := by decide +kernel
theorem dX5_wishFor_25 : decode cX5_wishFor 25 = .ok (.lload_n 3, 1) := by decide +kernel
theorem dX5_wishFor_26 : decode cX5_wishFor 26 = .ok (.land, 1) := by decide +kernel
theorem dX5_wishFor_27 : decode cX5_wishFor 27 = .ok (.lconst 0, 1) := by decide +kernel
theorem dX5_wishFor_28 : decode cX5_wishFor 28 = .ok (.lcmp, 1) := by decide +kernel
theorem dX5_wishFor_29 : decode cX5_wishFor 29 = .ok (.ifCond .eq 7, 3) := by decide +kernel
theorem dX5_wishFor_32 : decode cX5_wishFor 32 = .ok (.iconst 2, 1) := by decide +kernel
theorem dX5_wishFor_33 : decode cX5_wishFor 33 = .ok (.goto 4, 3) := by decide +kernel
theorem dX5_wishFor_36 : decode cX5_wishFor 36 = .ok (.iconst 0, 1) := by decide +kernel
theorem dX5_wishFor_37 : decode cX5_wishFor 37 = .ok (.ireturn, 1) := by decide +kernel
theorem dX5_exchangeWish_0 : decode cX5_exchangeWish 0 = .ok (.aload_n 0, 1) := by decide +kernel
theorem dX5_exchangeWish_1 : decode cX5_exchangeWish 1 = .ok (.iload_n 1, 1) := by decide +kernel
theorem dX5_exchangeWish_2 : decode cX5_exchangeWish 2 = .ok (.iload_n 2, 1) := by decide +kernel
theorem dX5_exchangeWish_3 : decode cX5_exchangeWish 3 = .ok (.invokevirtual 54, 3) := by decide +kernel
theorem dX5_exchangeWish_6 : decode cX5_exchangeWish 6 = .ok (.istore 4, 2) := by decide +kernel
theorem dX5_exchangeWish_8 : decode cX5_exchangeWish 8 = .ok (.lconst 1, 1) := by decide +kernel
theorem dX5_exchangeWish_9 : decode cX5_exchangeWish 9 = .ok (.iload_n 2, 1) := by decide +kernel
theorem dX5_exchangeWish_10 : decode cX5_exchangeWish 10 = .ok (.lshl, 1) := by decide +kernel
theorem dX5_exchangeWish_11 : decode cX5_exchangeWish 11 = .ok (.lstore 5, 2) := by decide +kernel
theorem dX5_exchangeWish_13 : decode cX5_exchangeWish 13 = .ok (.aload_n 0, 1) := by decide +kernel
theorem dX5_exchangeWish_14 : decode cX5_exchangeWish 14 = .ok (.getfield 21, 3) := by decide +kernel
theorem dX5_exchangeWish_17 : decode cX5_exchangeWish 17 = .ok (.iload_n 1, 1) := by decide +kernel
theorem dX5_exchangeWish_18 : decode cX5_exchangeWish 18 = .ok (.iload_n 3, 1) := by decide +kernel
theorem dX5_exchangeWish_19 : decode cX5_exchangeWish 19 = .ok (.iconst 1, 1) := by decide +kernel
theorem dX5_exchangeWish_20 : decode cX5_exchangeWish 20 = .ok (.if_icmp .ne 15, 3) := by decide +kernel
theorem dX5_exchangeWish_23 : decode cX5_exchangeWish 23 = .ok (.aload_n 0, 1) := by decide +kernel
theorem dX5_exchangeWish_24 : decode cX5_exchangeWish 24 = .ok (.getfield 21, 3) := by decide +kernel
theorem dX5_exchangeWish_27 : decode cX5_exchangeWish 27 = .ok (.iload_n 1, 1) := by decide +kernel
theorem dX5_exchangeWish_28 : decode cX5_exchangeWish 28 = .ok (.laload, 1) := by decide +kernel
theorem dX5_exchangeWish_29 : decode cX5_exchangeWish 29 = .ok (.lload 5, 2) := by decide +kernel
theorem dX5_exchangeWish_31 : decode cX5_exchangeWish 31 = .ok (.lor, 1) := by decide +kernel
theorem dX5_exchangeWish_32 : decode cX5_exchangeWish 32 = .ok (.goto 16, 3) := by decide +kernel
theorem dX5_exchangeWish_35 : decode cX5_exchangeWish 35 = .ok (.aload_n 0, 1) := by decide +kernel
theorem dX5_exchangeWish_36 : decode cX5_exchangeWish 36 = .ok (.getfield 21, 3) := by decide +kernel
theorem dX5_exchangeWish_39 : decode cX5_exchangeWish 39 = .ok (.iload_n 1, 1) := by decide +kernel
theorem dX5_exchangeWish_40 : decode cX5_exchangeWish 40 = .ok (.laload, 1) := by decide +kernel
theorem dX5_exchangeWish_41 : decode cX5_exchangeWish 41 = .ok (.lload 5, 2) := by decide +kernel
theorem dX5_exchangeWish_43 : decode cX5_exchangeWish 43 = .ok (.ldc2_w 57, 3) := by decide +kernel
theorem dX5_exchangeWish_46 : decode cX5_exchangeWish 46 = .ok (.lxor, 1) := by decide +kernel
theorem dX5_exchangeWish_47 : decode cX5_exchangeWish 47 = .ok (.land, 1) := by decide +kernel
theorem dX5_exchangeWish_48 : decode cX5_exchangeWish 48 = .ok (.lastore, 1) := by decide +kernel
theorem dX5_exchangeWish_49 : decode cX5_exchangeWish 49 = .ok (.aload_n 0, 1) := by decide +kernel
theorem dX5_exchangeWish_50 : decode cX5_exchangeWish 50 = .ok (.getfield 25, 3) := by decide +kernel
theorem dX5_exchangeWish_53 : decode cX5_exchangeWish 53 = .ok (.iload_n 1, 1) := by decide +kernel
theorem dX5_exchangeWish_54 : decode cX5_exchangeWish 54 = .ok (.iload_n 3, 1) := by decide +kernel
theorem dX5_exchangeWish_55 : decode cX5_exchangeWish 55 = .ok (.iconst 2, 1) := by decide +kernel
theorem dX5_exchangeWish_56 : decode cX5_exchangeWish 56 = .ok (.if_icmp .ne 15, 3) := by decide +kernel
theorem dX5_exchangeWish_59 : decode cX5_exchangeWish 59 = .ok (.aload_n 0, 1) := by decide +kernel
theorem dX5_exchangeWish_60 : decode cX5_exchangeWish 60 = .ok (.getfield 25, 3) := by decide +kernel
theorem dX5_exchangeWish_63 : decode cX5_exchangeWish 63 = .ok (.iload_n 1, 1) := by decide +kernel
theorem dX5_exchangeWish_64 : decode cX5_exchangeWish 64 = .ok (.laload, 1) := by decide +kernel
theorem dX5_exchangeWish_65 : decode cX5_exchangeWish 65 = .ok (.lload 5, 2) := by decide +kernel
theorem dX5_exchangeWish_67 : decode cX5_exchangeWish 67 = .ok (.lor, 1) := by decide +kernel
theorem dX5_exchangeWish_68 : decode cX5_exchangeWish 68 = .ok (.goto 16, 3) := by decide +kernel
theorem dX5_exchangeWish_71 : decode cX5_exchangeWish 71 = .ok (.aload_n 0, 1) := by decide +kernel
theorem dX5_exchangeWish_72 : decode cX5_exchangeWish 72 = .ok (.getfield 25, 3) := by decide +kernel
theorem dX5_exchangeWish_75 : decode cX5_exchangeWish 75 = .ok (.iload_n 1, 1) := by decide +kernel
theorem dX5_exchangeWish_76 : decode cX5_exchangeWish 76 = .ok (.laload, 1) := by decide +kernel
theorem dX5_exchangeWish_77 : decode cX5_exchangeWish 77 = .ok (.lload 5, 2) := by decide +kernel
theorem dX5_exchangeWish_79 : decode cX5_exchangeWish 79 = .ok (.ldc2_w 57, 3) := by decide +kernel
theorem dX5_exchangeWish_82 : decode cX5_exchangeWish 82 = .ok (.lxor, 1) := by decide +kernel
theorem dX5_exchangeWish_83 : decode cX5_exchangeWish 83 = .ok (.land, 1) := by decide +kernel
theorem dX5_exchangeWish_84 : decode cX5_exchangeWish 84 = .ok (.lastore, 1) := by decide +kernel
theorem dX5_exchangeWish_85 : decode cX5_exchangeWish 85 = .ok (.iload 4, 2) := by decide +kernel
theorem dX5_exchangeWish_87 : decode cX5_exchangeWish 87 = .ok (.ireturn, 1) := by decide +kernel
theorem dX5_become_0 : decode cX5_become 0 = .ok (.aload_n 0, 1) := by decide +kernel
theorem dX5_become_1 : decode cX5_become 1 = .ok (.aload_n 1, 1) := by decide +kernel
theorem dX5_become_2 : decode cX5_become 2 = .ok (.getfield 28, 3) := by decide +kernel
theorem dX5_become_5 : decode cX5_become 5 = .ok (.putfield 28, 3) := by decide +kernel
theorem dX5_become_8 : decode cX5_become 8 = .ok (.aload_n 1, 1) := by decide +kernel
theorem dX5_become_9 : decode cX5_become 9 = .ok (.getfield 9, 3) := by decide +kernel
theorem dX5_become_12 : decode cX5_become 12 = .ok (.iconst 0, 1) := by decide +kernel
theorem dX5_become_13 : decode cX5_become 13 = .ok (.aload_n 0, 1) := by decide +kernel
theorem dX5_become_14 : decode cX5_become 14 = .ok (.getfield 9, 3) := by decide +kernel
theorem dX5_become_17 : decode cX5_become 17 = .ok (.iconst 0, 1) := by decide +kernel
theorem dX5_become_18 : decode cX5_become 18 = .ok (.aload_n 0, 1) := by decide +kernel
theorem dX5_become_19 : decode cX5_become 19 = .ok (.getfield 28, 3) := by decide +kernel
theorem dX5_become_22 : decode cX5_become 22 = .ok (.invokestatic 59, 3) := by decide +kernel
theorem dX5_become_25 : decode cX5_become 25 = .ok (.aload_n 1, 1) := by decide +kernel
theorem dX5_become_26 : decode cX5_become 26 = .ok (.getfield 15, 3) := by decide +kernel
theorem dX5_become_29 : decode cX5_become 29 = .ok (.iconst 0, 1) := by decide +kernel
theorem dX5_become_30 : decode cX5_become 30 = .ok (.aload_n 0, 1) := by decide +kernel
theorem dX5_become_31 : decode cX5_become 31 = .ok (.getfield 15, 3) := by decide +kernel
theorem dX5_become_34 : decode cX5_become 34 = .ok (.iconst 0, 1) := by decide +kernel
theorem dX5_become_35 : decode cX5_become 35 = .ok (.aload_n 0, 1) := by decide +kernel
theorem dX5_become_36 : decode cX5_become 36 = .ok (.getfield 28, 3) := by decide +kernel
theorem dX5_become_39 : decode cX5_become 39 = .ok (.bipush 18, 2) := by decide +kernel
theorem dX5_become_41 : decode cX5_become 41 = .ok (.imul, 1) := by decide +kernel
theorem dX5_become_42 : decode cX5_become 42 = .ok (.invokestatic 59, 3) := by decide +kernel
theorem dX5_become_45 : decode cX5_become 45 = .ok (.aload_n 1, 1) := by decide +kernel
theorem dX5_become_46 : decode cX5_become 46 = .ok (.getfield 18, 3) := by decide +kernel
theorem dX5_become_49 : decode cX5_become 49 = .ok (.iconst 0, 1) := by decide +kernel
theorem dX5_become_50 : decode cX5_become 50 = .ok (.aload_n 0, 1) := by decide +kernel
theorem dX5_become_51 : decode cX5_become 51 = .ok (.getfield 18, 3) := by decide +kernel
theorem dX5_become_54 : decode cX5_become 54 = .ok (.iconst 0, 1) := by decide +kernel
theorem dX5_become_55 : decode cX5_become 55 = .ok (.aload_n 0, 1) := by decide +kernel
theorem dX5_become_56 : decode cX5_become 56 = .ok (.getfield 28, 3) := by decide +kernel
theorem dX5_become_59 : decode cX5_become 59 = .ok (.invokestatic 59, 3) := by decide +kernel
theorem dX5_become_62 : decode cX5_become 62 = .ok (.aload_n 1, 1) := by decide +kernel
theorem dX5_become_63 : decode cX5_become 63 = .ok (.getfield 21, 3) := by decide +kernel
theorem dX5_become_66 : decode cX5_become 66 = .ok (.iconst 0, 1) := by decide +kernel
theorem dX5_become_67 : decode cX5_become 67 = .ok (.aload_n 0, 1) := by decide +kernel
theorem dX5_become_68 : decode cX5_become 68 = .ok (.getfield 21, 3) := by decide +kernel
theorem dX5_become_71 : decode cX5_become 71 = .ok (.iconst 0, 1) := by decide +kernel
theorem dX5_become_72 : decode cX5_become 72 = .ok (.aload_n 0, 1) := by decide +kernel
theorem dX5_become_73 : decode cX5_become 73 = .ok (.getfield 28, 3) := by decide +kernel
theorem dX5_become_76 : decode cX5_become 76 = .ok (.invokestatic 59, 3) := by decide +kernel
theorem dX5_become_79 : decode cX5_become 79 = .ok (.aload_n 1, 1) := by decide +kernel
theorem dX5_become_80 : decode cX5_become 80 = .ok (.getfield 25, 3) := by decide +kernel
theorem dX5_become_83 : decode cX5_become 83 = .ok (.iconst 0, 1) := by decide +kernel
theorem dX5_become_84 : decode cX5_become 84 = .ok (.aload_n 0, 1) := by decide +kernel
theorem dX5_become_85 : decode cX5_become 85 = .ok (.getfield 25, 3) := by decide +kernel
theorem dX5_become_88 : decode cX5_become 88 = .ok (.iconst 0, 1) := by decide +kernel
theorem dX5_become_89 : decode cX5_become 89 = .ok (.aload_n 0, 1) := by decide +kernel
theorem dX5_become_90 : decode cX5_become 90 = .ok (.getfield 28, 3) := by decide +kernel
theorem dX5_become_93 : decode cX5_become 93 = .ok (.invokestatic 59, 3) := by decide +kernel
theorem dX5_become_96 : decode cX5_become 96 = .ok (.return_, 1) := by decide +kernel
theorem dX6_init_0 : decode cX6_init 0 = .ok (.aload_n 0, 1) := by decide +kernel
theorem dX6_init_1 : decode cX6_init 1 = .ok (.invokespecial 3, 3) := by decide +kernel
theorem dX6_init_4 : decode cX6_init 4 = .ok (.aload_n 0, 1) := by decide +kernel
theorem dX6_init_5 : decode cX6_init 5 = .ok (.new 9, 3) := by decide +kernel
theorem dX6_init_8 : decode cX6_init 8 = .ok (.dup, 1) := by decide +kernel
theorem dX6_init_9 : decode cX6_init 9 = .ok (.invokespecial 11, 3) := by decide +kernel
theorem dX6_init_12 : decode cX6_init 12 = .ok (.putfield 12, 3) := by decide +kernel
theorem dX6_init_15 : decode cX6_init 15 = .ok (.aload_n 0, 1) := by decide +kernel
theorem dX6_init_16 : decode cX6_init 16 = .ok (.new 18, 3) := by decide +kernel
theorem dX6_init_19 : decode cX6_init 19 = .ok (.dup, 1) := by decide +kernel
theorem dX6_init_20 : decode cX6_init 20 = .ok (.invokespecial 20, 3) := by decide +kernel
theorem dX6_init_23 : decode cX6_init 23 = .ok (.putfield 21, 3) := by decide +kernel
theorem dX6_init_26 : decode cX6_init 26 = .ok (.aload_n 0, 1) := by decide +kernel
theorem dX6_init_27 : decode cX6_init 27 = .ok (.new 25, 3) := by decide +kernel
theorem dX6_init_30 : decode cX6_init 30 = .ok (.dup, 1) := by decide +kernel
theorem dX6_init_31 : decode cX6_init 31 = .ok (.invokespecial 27, 3) := by decide +kernel
theorem dX6_init_34 : decode cX6_init 34 = .ok (.putfield 28, 3) := by decide +kernel
theorem dX6_init_37 : decode cX6_init 37 = .ok (.aload_n 0, 1) := by decide +kernel
theorem dX6_init_38 : decode cX6_init 38 = .ok (.bipush 40, 2) := by decide +kernel
theorem dX6_init_40 : decode cX6_init 40 = .ok (.newarray .int, 2) := by decide +kernel
theorem dX6_init_42 : decode cX6_init 42 = .ok (.putfield 32, 3) := by decide +kernel
theorem dX6_init_45 : decode cX6_init 45 = .ok (.aload_n 0, 1) := by decide +kernel
theorem dX6_init_46 : decode cX6_init 46 = .ok (.iconst 0, 1) := by decide +kernel
theorem dX6_init_47 : decode cX6_init 47 = .ok (.putfield 36, 3) := by decide +kernel
theorem dX6_init_50 : decode cX6_init 50 = .ok (.aload_n 0, 1) := by decide +kernel
theorem dX6_init_51 : decode cX6_init 51 = .ok (.iconst 0, 1) := by decide +kernel
theorem dX6_init_52 : decode cX6_init 52 = .ok (.putfield 40, 3) := by decide +kernel
theorem dX6_init_55 : decode cX6_init 55 = .ok (.aload_n 0, 1) := by decide +kernel
theorem dX6_init_56 : decode cX6_init 56 = .ok (.iconst 0, 1) := by decide +kernel
theorem dX6_init_57 : decode cX6_init 57 = .ok (.putfield 43, 3) := by decide +kernel
theorem dX6_init_60 : decode cX6_init 60 = .ok (.return_, 1) := by decide +kernel
theorem dX6_hasDoor_0 : decode cX6_hasDoor 0 = .ok (.iload_n 1, 1) := by decide +kernel
theorem dX6_hasDoor_1 : decode cX6_hasDoor 1 = .ok (.ifCond .lt 15, 3) := by decide +kernel
theorem dX6_hasDoor_4 : decode cX6_hasDoor 4 = .ok (.iload_n 1, 1) := by decide +kernel
theorem dX6_hasDoor_5 : decode cX6_hasDoor 5 = .ok (.aload_n 0, 1) := by decide +kernel
theorem dX6_hasDoor_6 : decode cX6_hasDoor 6 = .ok (.getfield 36, 3) := by decide +kernel
theorem dX6_hasDoor_9 : decode cX6_hasDoor 9 = .ok (.if_icmp .ge 7, 3) := by decide +kernel
theorem dX6_hasDoor_12 : decode cX6_hasDoor 12 = .ok (.iconst 1, 1) := by decide +kernel
theorem dX6_hasDoor_13 : decode cX6_hasDoor 13 = .ok (.goto 4, 3) := by decide +kernel
theorem dX6_hasDoor_16 : decode cX6_hasDoor 16 = .ok (.iconst 0, 1) := by decide +kernel
theorem dX6_hasDoor_17 : decode cX6_hasDoor 17 = .ok (.ireturn, 1) := by decide +kernel
theorem dX6_become_0 : decode cX6_become 0 = .ok (.aload_n 0, 1) := by decide +kernel
theorem dX6_become_1 : decode cX6_become 1 = .ok (.getfield 12, 3) := by decide +kernel
theorem dX6_become_4 : decode cX6_become 4 = .ok (.aload_n 1, 1) := by decide +kernel
theorem dX6_become_5 : decode cX6_become 5 = .ok (.getfield 12, 3) := by decide +kernel
theorem dX6_become_8 : decode cX6_become 8 = .ok (.invokevirtual 46, 3) := by decide +kernel
theorem dX6_become_11 : decode cX6_become 11 = .ok (.aload_n 0, 1) := by decide +kernel
theorem dX6_become_12 : decode cX6_become 12 = .ok (.getfield 21, 3) := by decide +kernel
theorem dX6_become_15 : decode cX6_become 15 = .ok (.aload_n 1, 1) := by decide +kernel
theorem dX6_become_16 : decode cX6_become 16 = .ok (.getfield 21, 3) := by decide +kernel
theorem dX6_become_19 : decode cX6_become 19 = .ok (.invokevirtual 50, 3) := by decide +kernel
theorem dX6_become_22 : decode cX6_become 22 = .ok (.aload_n 0, 1) := by decide +kernel
theorem dX6_become_23 : decode cX6_become 23 = .ok (.getfield 28, 3) := by decide +kernel
theorem dX6_become_26 : decode cX6_become 26 = .ok (.aload_n 1, 1) := by decide +kernel
theorem dX6_become_27 : decode cX6_become 27 = .ok (.getfield 28, 3) := by decide +kernel
theorem dX6_become_30 : decode cX6_become 30 = .ok (.invokevirtual 53, 3) := by decide +kernel
theorem dX6_become_33 : decode cX6_become 33 = .ok (.aload_n 1, 1) := by decide +kernel
theorem dX6_become_34 : decode cX6_become 34 = .ok (.getfield 32, 3) := by decide +kernel
theorem dX6_become_37 : decode cX6_become 37 = .ok (.iconst 0, 1) := by decide +kernel
theorem dX6_become_38 : decode cX6_become 38 = .ok (.aload_n 0, 1) := by decide +kernel
theorem dX6_become_39 : decode cX6_become 39 = .ok (.getfield 32, 3) := by decide +kernel
theorem dX6_become_42 : decode cX6_become 42 = .ok (.iconst 0, 1) := by decide +kernel
theorem dX6_become_43 : decode cX6_become 43 = .ok (.aload_n 1, 1) := by decide +kernel
theorem dX6_become_44 : decode cX6_become 44 = .ok (.getfield 36, 3) := by decide +kernel
theorem dX6_become_47 : decode cX6_become 47 = .ok (.invokestatic 56, 3) := by decide +kernel
theorem dX6_become_50 : decode cX6_become 50 = .ok (.aload_n 0, 1) := by decide +kernel
theorem dX6_become_51 : decode cX6_become 51 = .ok (.aload_n 1, 1) := by decide +kernel
theorem dX6_become_52 : decode cX6_become 52 = .ok (.getfield 36, 3) := by decide +kernel
theorem dX6_become_55 : decode cX6_become 55 = .ok (.putfield 36, 3) := by decide +kernel
theorem dX6_become_58 : decode cX6_become 58 = .ok (.aload_n 0, 1) := by decide +kernel
theorem dX6_become_59 : decode cX6_become 59 = .ok (.aload_n 1, 1) := by decide +kernel
theorem dX6_become_60 : decode cX6_become 60 = .ok (.getfield 40, 3) := by decide +kernel
theorem dX6_become_63 : decode cX6_become 63 = .ok (.putfield 40, 3) := by decide +kernel
theorem dX6_become_66 : decode cX6_become 66 = .ok (.aload_n 0, 1) := by decide +kernel
theorem dX6_become_67 : decode cX6_become 67 = .ok (.aload_n 1, 1) := by decide +kernel
theorem dX6_become_68 : decode cX6_become 68 = .ok (.getfield 43, 3) := by decide +kernel
theorem dX6_become_71 : decode cX6_become 71 = .ok (.putfield 43, 3) := by decide +kernel
theorem dX6_become_74 : decode cX6_become 74 = .ok (.return_, 1) := by decide +kernel
theorem dX7_init_0 : decode cX7_init 0 = .ok (.aload_n 0, 1) := by decide +kernel
theorem dX7_init_1 : decode cX7_init 1 = .ok (.invokespecial 3, 3) := by decide +kernel
theorem dX7_init_4 : decode cX7_init 4 = .ok (.aload_n 0, 1) := by decide +kernel
theorem dX7_init_5 : decode cX7_init 5 = .ok (.bipush 40, 2) := by decide +kernel
theorem dX7_init_7 : decode cX7_init 7 = .ok (.newarray .int, 2) := by decide +kernel
theorem dX7_init_9 : decode cX7_init 9 = .ok (.putfield 9, 3) := by decide +kernel
theorem dX7_init_12 : decode cX7_init 12 = .ok (.aload_n 0, 1) := by decide +kernel
theorem dX7_init_13 : decode cX7_init 13 = .ok (.iconst 0, 1) := by decide +kernel
theorem dX7_init_14 : decode cX7_init 14 = .ok (.putfield 15, 3) := by decide +kernel
theorem dX7_init_17 : decode cX7_init 17 = .ok (.return_, 1) := by decide +kernel
theorem dX7_begin_0 : decode cX7_begin 0 = .ok (.aload_n 0, 1) := by decide +kernel
theorem dX7_begin_1 : decode cX7_begin 1 = .ok (.iconst 0, 1) := by decide +kernel
theorem dX7_begin_2 : decode cX7_begin 2 = .ok (.putfield 15, 3) := by decide +kernel
theorem dX7_begin_5 : decode cX7_begin 5 = .ok (.return_, 1) := by decide +kernel
theorem dX7_add_0 : decode cX7_add 0 = .ok (.aload_n 0, 1) := by decide +kernel
theorem dX7_add_1 : decode cX7_add 1 = .ok (.getfield 15, 3) := by decide +kernel
theorem dX7_add_4 : decode cX7_add 4 = .ok (.bipush 40, 2) := by decide +kernel
theorem dX7_add_6 : decode cX7_add 6 = .ok (.if_icmp .ge 13, 3) := by decide +kernel
theorem dX7_add_9 : decode cX7_add 9 = .ok (.aload_n 0, 1) := by decide +kernel
theorem dX7_add_10 : decode cX7_add 10 = .ok (.getfield 9, 3) := by decide +kernel
theorem dX7_add_13 : decode cX7_add 13 = .ok (.aload_n 0, 1) := by decide +kernel
theorem dX7_add_14 : decode cX7_add 14 = .ok (.getfield 15, 3) := by decide +kernel
theorem dX7_add_17 : decode cX7_add 17 = .ok (.iload_n 1, 1) := by decide +kernel
theorem dX7_add_18 : decode cX7_add 18 = .ok (.iastore, 1) := by decide +kernel
theorem dX7_add_19 : decode cX7_add 19 = .ok (.aload_n 0, 1) := by decide +kernel
theorem dX7_add_20 : decode cX7_add 20 = .ok (.dup, 1) := by decide +kernel
theorem dX7_add_21 : decode cX7_add 21 = .ok (.getfield 15, 3) := by decide +kernel
theorem dX7_add_24 : decode cX7_add 24 = .ok (.iconst 1, 1) := by decide +kernel
theorem dX7_add_25 : decode cX7_add 25 = .ok (.iadd, 1) := by decide +kernel
theorem dX7_add_26 : decode cX7_add 26 = .ok (.putfield 15, 3) := by decide +kernel
theorem dX7_add_29 : decode cX7_add 29 = .ok (.return_, 1) := by decide +kernel
theorem dX7_entryAt_0 : decode cX7_entryAt 0 = .ok (.iload_n 1, 1) := by decide +kernel
theorem dX7_entryAt_1 : decode cX7_entryAt 1 = .ok (.ifCond .lt 26, 3) := by decide +kernel
theorem dX7_entryAt_4 : decode cX7_entryAt 4 = .ok (.iload_n 1, 1) := by decide +kernel
theorem dX7_entryAt_5 : decode cX7_entryAt 5 = .ok (.aload_n 0, 1) := by decide +kernel
theorem dX7_entryAt_6 : decode cX7_entryAt 6 = .ok (.getfield 15, 3) := by decide +kernel
theorem dX7_entryAt_9 : decode cX7_entryAt 9 = .ok (.if_icmp .ge 18, 3) := by decide +kernel
theorem dX7_entryAt_12 : decode cX7_entryAt 12 = .ok (.iload_n 1, 1) := by decide +kernel
theorem dX7_entryAt_13 : decode cX7_entryAt 13 = .ok (.bipush 40, 2) := by decide +kernel
theorem dX7_entryAt_15 : decode cX7_entryAt 15 = .ok (.if_icmp .ge 12, 3) := by decide +kernel
theorem dX7_entryAt_18 : decode cX7_entryAt 18 = .ok (.aload_n 0, 1) := by decide +kernel
theorem dX7_entryAt_19 : decode cX7_entryAt 19 = .ok (.getfield 9, 3) := by decide +kernel
theorem dX7_entryAt_22 : decode cX7_entryAt 22 = .ok (.iload_n 1, 1) := by decide +kernel
theorem dX7_entryAt_23 : decode cX7_entryAt 23 = .ok (.iaload, 1) := by decide +kernel
theorem dX7_entryAt_24 : decode cX7_entryAt 24 = .ok (.goto 4, 3) := by decide +kernel
theorem dX7_entryAt_27 : decode cX7_entryAt 27 = .ok (.iconst (-1), 1) := by decide +kernel
theorem dX7_entryAt_28 : decode cX7_entryAt 28 = .ok (.ireturn, 1) := by decide +kernel
theorem dX8_init_0 : decode cX8_init 0 = .ok (.aload_n 0, 1) := by decide +kernel
theorem dX8_init_1 : decode cX8_init 1 = .ok (.invokespecial 3, 3) := by decide +kernel
theorem dX8_init_4 : decode cX8_init 4 = .ok (.aload_n 0, 1) := by decide +kernel
theorem dX8_init_5 : decode cX8_init 5 = .ok (.new 9, 3) := by decide +kernel
theorem dX8_init_8 : decode cX8_init 8 = .ok (.dup, 1) := by decide +kernel
theorem dX8_init_9 : decode cX8_init 9 = .ok (.invokespecial 11, 3) := by decide +kernel
theorem dX8_init_12 : decode cX8_init 12 = .ok (.putfield 12, 3) := by decide +kernel
theorem dX8_init_15 : decode cX8_init 15 = .ok (.aload_n 0, 1) := by decide +kernel
theorem dX8_init_16 : decode cX8_init 16 = .ok (.iconst (-1), 1) := by decide +kernel
theorem dX8_init_17 : decode cX8_init 17 = .ok (.putfield 18, 3) := by decide +kernel
theorem dX8_init_20 : decode cX8_init 20 = .ok (.return_, 1) := by decide +kernel
theorem dX8_begin_0 : decode cX8_begin 0 = .ok (.aload_n 0, 1) := by decide +kernel
theorem dX8_begin_1 : decode cX8_begin 1 = .ok (.getfield 12, 3) := by decide +kernel
theorem dX8_begin_4 : decode cX8_begin 4 = .ok (.invokevirtual 22, 3) := by decide +kernel
theorem dX8_begin_7 : decode cX8_begin 7 = .ok (.aload_n 0, 1) := by decide +kernel
theorem dX8_begin_8 : decode cX8_begin 8 = .ok (.iconst (-1), 1) := by decide +kernel
theorem dX8_begin_9 : decode cX8_begin 9 = .ok (.putfield 18, 3) := by decide +kernel
theorem dX8_begin_12 : decode cX8_begin 12 = .ok (.return_, 1) := by decide +kernel
theorem dX8_tryKey_0 : decode cX8_tryKey 0 = .ok (.aload_n 1, 1) := by decide +kernel
theorem dX8_tryKey_1 : decode cX8_tryKey 1 = .ok (.getfield 25, 3) := by decide +kernel
theorem dX8_tryKey_4 : decode cX8_tryKey 4 = .ok (.iload_n 3, 1) := by decide +kernel
theorem dX8_tryKey_5 : decode cX8_tryKey 5 = .ok (.invokevirtual 31, 3) := by decide +kernel
theorem dX8_tryKey_8 : decode cX8_tryKey 8 = .ok (.ifCond .ne 12, 3) := by decide +kernel
theorem dX8_tryKey_11 : decode cX8_tryKey 11 = .ok (.aload_n 0, 1) := by decide +kernel
theorem dX8_tryKey_12 : decode cX8_tryKey 12 = .ok (.aload_n 1, 1) := by decide +kernel
theorem dX8_tryKey_13 : decode cX8_tryKey 13 = .ok (.iload_n 2, 1) := by decide +kernel
theorem dX8_tryKey_14 : decode cX8_tryKey 14 = .ok (.iload_n 3, 1) := by decide +kernel
theorem dX8_tryKey_15 : decode cX8_tryKey 15 = .ok (.iconst 0, 1) := by decide +kernel
theorem dX8_tryKey_16 : decode cX8_tryKey 16 = .ok (.invokevirtual 37, 3) := by decide +kernel
theorem dX8_tryKey_19 : decode cX8_tryKey 19 = .ok (.ireturn, 1) := by decide +kernel
theorem dX8_tryKey_20 : decode cX8_tryKey 20 = .ok (.aload_n 0, 1) := by decide +kernel
theorem dX8_tryKey_21 : decode cX8_tryKey 21 = .ok (.getfield 12, 3) := by decide +kernel
theorem dX8_tryKey_24 : decode cX8_tryKey 24 = .ok (.iconst 4, 1) := by decide +kernel
theorem dX8_tryKey_25 : decode cX8_tryKey 25 = .ok (.invokevirtual 41, 3) := by decide +kernel
theorem dX8_tryKey_28 : decode cX8_tryKey 28 = .ok (.aload_n 0, 1) := by decide +kernel
theorem dX8_tryKey_29 : decode cX8_tryKey 29 = .ok (.aload_n 1, 1) := by decide +kernel
theorem dX8_tryKey_30 : decode cX8_tryKey 30 = .ok (.iload_n 2, 1) := by decide +kernel
theorem dX8_tryKey_31 : decode cX8_tryKey 31 = .ok (.aload_n 1, 1) := by decide +kernel
theorem dX8_tryKey_32 : decode cX8_tryKey 32 = .ok (.getfield 25, 3) := by decide +kernel
theorem dX8_tryKey_35 : decode cX8_tryKey 35 = .ok (.getfield 45, 3) := by decide +kernel
theorem dX8_tryKey_38 : decode cX8_tryKey 38 = .ok (.iload_n 3, 1) := by decide +kernel
theorem dX8_tryKey_39 : decode cX8_tryKey 39 = .ok (.iaload, 1) := by decide +kernel
theorem dX8_tryKey_40 : decode cX8_tryKey 40 = .ok (.iconst 0, 1) := by decide +kernel
theorem dX8_tryKey_41 : decode cX8_tryKey 41 = .ok (.invokevirtual 37, 3) := by decide +kernel
theorem dX8_tryKey_44 : decode cX8_tryKey 44 = .ok (.istore 4, 2) := by decide +kernel
theorem dX8_tryKey_46 : decode cX8_tryKey 46 = .ok (.iload 4, 2) := by decide +kernel
theorem dX8_tryKey_48 : decode cX8_tryKey 48 = .ok (.iconst 1, 1) := by decide +kernel
theorem dX8_tryKey_49 : decode cX8_tryKey 49 = .ok (.if_icmp .eq 6, 3) := by decide +kernel
theorem dX8_tryKey_52 : decode cX8_tryKey 52 = .ok (.iload 4, 2) := by decide +kernel
theorem dX8_tryKey_54 : decode cX8_tryKey 54 = .ok (.ireturn, 1) := by decide +kernel
theorem dX8_tryKey_55 : decode cX8_tryKey 55 = .ok (.aload_n 0, 1) := by decide +kernel
theorem dX8_tryKey_56 : decode cX8_tryKey 56 = .ok (.aload_n 1, 1) := by decide +kernel
theorem dX8_tryKey_57 : decode cX8_tryKey 57 = .ok (.iload_n 2, 1) := by decide +kernel
theorem dX8_tryKey_58 : decode cX8_tryKey 58 = .ok (.aload_n 1, 1) := by decide +kernel
theorem dX8_tryKey_59 : decode cX8_tryKey 59 = .ok (.getfield 25, 3) := by decide +kernel
theorem dX8_tryKey_62 : decode cX8_tryKey 62 = .ok (.getfield 49, 3) := by decide +kernel
theorem dX8_tryKey_65 : decode cX8_tryKey 65 = .ok (.iload_n 3, 1) := by decide +kernel
theorem dX8_tryKey_66 : decode cX8_tryKey 66 = .ok (.iaload, 1) := by decide +kernel
theorem dX8_tryKey_67 : decode cX8_tryKey 67 = .ok (.bipush 18, 2) := by decide +kernel
theorem dX8_tryKey_69 : decode cX8_tryKey 69 = .ok (.invokevirtual 37, 3) := by decide +kernel
theorem dX8_tryKey_72 : decode cX8_tryKey 72 = .ok (.ireturn, 1) := by decide +kernel
theorem dX8_trySingle_0 : decode cX8_trySingle 0 = .ok (.aload_n 1, 1) := by decide +kernel
theorem dX8_trySingle_1 : decode cX8_trySingle 1 = .ok (.getfield 25, 3) := by decide +kernel
theorem dX8_trySingle_4 : decode cX8_trySingle 4 = .ok (.iload_n 3, 1) := by decide +kernel
theorem dX8_trySingle_5 : decode cX8_trySingle 5 = .ok (.invokevirtual 52, 3) := by decide +kernel
theorem dX8_trySingle_8 : decode cX8_trySingle 8 = .ok (.ifCond .ne 6, 3) := by decide +kernel
theorem dX8_trySingle_11 : decode cX8_trySingle 11 = .ok (.bipush (-11), 2) := by decide +kernel
theorem dX8_trySingle_13 : decode cX8_trySingle 13 = .ok (.ireturn, 1) := by decide +kernel
theorem dX8_trySingle_14 : decode cX8_trySingle 14 = .ok (.aload_n 1, 1) := by decide +kernel
theorem dX8_trySingle_15 : decode cX8_trySingle 15 = .ok (.getfield 25, 3) := by decide +kernel
theorem dX8_trySingle_18 : decode cX8_trySingle 18 = .ok (.iload_n 3, 1) := by decide +kernel
theorem dX8_trySingle_19 : decode cX8_trySingle 19 = .ok (.invokevirtual 55, 3) := by decide +kernel
theorem dX8_trySingle_22 : decode cX8_trySingle 22 = .ok (.ifCond .eq 19, 3) := by decide +kernel
theorem dX8_trySingle_25 : decode cX8_trySingle 25 = .ok (.aload_n 0, 1) := by decide +kernel
theorem dX8_trySingle_26 : decode cX8_trySingle 26 = .ok (.getfield 12, 3) := by decide +kernel
theorem dX8_trySingle_29 : decode cX8_trySingle 29 = .ok (.iconst 3, 1) := by decide +kernel
theorem dX8_trySingle_30 : decode cX8_trySingle 30 = .ok (.invokevirtual 41, 3) := by decide +kernel
theorem dX8_trySingle_33 : decode cX8_trySingle 33 = .ok (.aload_n 0, 1) := by decide +kernel
theorem dX8_trySingle_34 : decode cX8_trySingle 34 = .ok (.iload 4, 2) := by decide +kernel
theorem dX8_trySingle_36 : decode cX8_trySingle 36 = .ok (.putfield 18, 3) := by decide +kernel
theorem dX8_trySingle_39 : decode cX8_trySingle 39 = .ok (.iconst 0, 1) := by decide +kernel
theorem dX8_trySingle_40 : decode cX8_trySingle 40 = .ok (.ireturn, 1) := by decide +kernel
theorem dX8_trySingle_41 : decode cX8_trySingle 41 = .ok (.aload_n 1, 1) := by decide +kernel
theorem dX8_trySingle_42 : decode cX8_trySingle 42 = .ok (.getfield 25, 3) := by decide +kernel
theorem dX8_trySingle_45 : decode cX8_trySingle 45 = .ok (.iload_n 3, 1) := by decide +kernel
theorem dX8_trySingle_46 : decode cX8_trySingle 46 = .ok (.iconst 1, 1) := by decide +kernel
theorem dX8_trySingle_47 : decode cX8_trySingle 47 = .ok (.invokevirtual 58, 3) := by decide +kernel
theorem dX8_trySingle_50 : decode cX8_trySingle 50 = .ok (.ifCond .eq 11, 3) := by decide +kernel
theorem dX8_trySingle_53 : decode cX8_trySingle 53 = .ok (.aload_n 0, 1) := by decide +kernel
theorem dX8_trySingle_54 : decode cX8_trySingle 54 = .ok (.getfield 12, 3) := by decide +kernel
theorem dX8_trySingle_57 : decode cX8_trySingle 57 = .ok (.iconst 2, 1) := by decide +kernel
theorem dX8_trySingle_58 : decode cX8_trySingle 58 = .ok (.invokevirtual 41, 3) := by decide +kernel
theorem dX8_trySingle_61 : decode cX8_trySingle 61 = .ok (.aload_n 0, 1) := by decide +kernel
theorem dX8_trySingle_62 : decode cX8_trySingle 62 = .ok (.getfield 12, 3) := by decide +kernel
theorem dX8_trySingle_65 : decode cX8_trySingle 65 = .ok (.iconst 1, 1) := by decide +kernel
theorem dX8_trySingle_66 : decode cX8_trySingle 66 = .ok (.invokevirtual 41, 3) := by decide +kernel
theorem dX8_trySingle_69 : decode cX8_trySingle 69 = .ok (.aload_n 1, 1) := by decide +kernel
theorem dX8_trySingle_70 : decode cX8_trySingle 70 = .ok (.getfield 25, 3) := by decide +kernel
theorem dX8_trySingle_73 : decode cX8_trySingle 73 = .ok (.iload_n 3, 1) := by decide +kernel
theorem dX8_trySingle_74 : decode cX8_trySingle 74 = .ok (.invokevirtual 62, 3) := by decide +kernel
theorem dX8_trySingle_77 : decode cX8_trySingle 77 = .ok (.ifCond .eq 6, 3) := by decide +kernel
theorem dX8_trySingle_80 : decode cX8_trySingle 80 = .ok (.bipush (-11), 2) := by decide +kernel
theorem dX8_trySingle_82 : decode cX8_trySingle 82 = .ok (.ireturn, 1) := by decide +kernel
theorem dX8_trySingle_83 : decode cX8_trySingle 83 = .ok (.aload_n 0, 1) := by decide +kernel
theorem dX8_trySingle_84 : decode cX8_trySingle 84 = .ok (.aload_n 1, 1) := by decide +kernel
theorem dX8_trySingle_85 : decode cX8_trySingle 85 = .ok (.iload_n 2, 1) := by decide +kernel
theorem dX8_trySingle_86 : decode cX8_trySingle 86 = .ok (.iload_n 3, 1) := by decide +kernel
theorem dX8_trySingle_87 : decode cX8_trySingle 87 = .ok (.iload 4, 2) := by decide +kernel
theorem dX8_trySingle_89 : decode cX8_trySingle 89 = .ok (.invokevirtual 65, 3) := by decide +kernel
theorem dX8_trySingle_92 : decode cX8_trySingle 92 = .ok (.ireturn, 1) := by decide +kernel
theorem dX8_tryRow_0 : decode cX8_tryRow 0 = .ok (.aload_n 1, 1) := by decide +kernel
theorem dX8_tryRow_1 : decode cX8_tryRow 1 = .ok (.getfield 25, 3) := by decide +kernel
theorem dX8_tryRow_4 : decode cX8_tryRow 4 = .ok (.getfield 68, 3) := by decide +kernel
theorem dX8_tryRow_7 : decode cX8_tryRow 7 = .ok (.iload_n 3, 1) := by decide +kernel
theorem dX8_tryRow_8 : decode cX8_tryRow 8 = .ok (.iaload, 1) := by decide +kernel
theorem dX8_tryRow_9 : decode cX8_tryRow 9 = .ok (.istore 5, 2) := by decide +kernel
theorem dX8_tryRow_11 : decode cX8_tryRow 11 = .ok (.aload_n 1, 1) := by decide +kernel
theorem dX8_tryRow_12 : decode cX8_tryRow 12 = .ok (.getfield 71, 3) := by decide +kernel
theorem dX8_tryRow_15 : decode cX8_tryRow 15 = .ok (.getfield 75, 3) := by decide +kernel
theorem dX8_tryRow_18 : decode cX8_tryRow 18 = .ok (.iload_n 2, 1) := by decide +kernel
theorem dX8_tryRow_19 : decode cX8_tryRow 19 = .ok (.iaload, 1) := by decide +kernel
theorem dX8_tryRow_20 : decode cX8_tryRow 20 = .ok (.istore 6, 2) := by decide +kernel
theorem dX8_tryRow_22 : decode cX8_tryRow 22 = .ok (.iconst 0, 1) := by decide +kernel
theorem dX8_tryRow_23 : decode cX8_tryRow 23 = .ok (.istore 7, 2) := by decide +kernel
theorem dX8_tryRow_25 : decode cX8_tryRow 25 = .ok (.iload 7, 2) := by decide +kernel
theorem dX8_tryRow_27 : decode cX8_tryRow 27 = .ok (.iload 5, 2) := by decide +kernel
theorem dX8_tryRow_29 : decode cX8_tryRow 29 = .ok (.if_icmp .ge 87, 3) := by decide +kernel
theorem dX8_tryRow_32 : decode cX8_tryRow 32 = .ok (.aload_n 1, 1) := by decide +kernel
theorem dX8_tryRow_33 : decode cX8_tryRow 33 = .ok (.getfield 25, 3) := by decide +kernel
theorem dX8_tryRow_36 : decode cX8_tryRow 36 = .ok (.getfield 80, 3) := by decide +kernel
theorem dX8_tryRow_39 : decode cX8_tryRow 39 = .ok (.iload_n 3, 1) := by decide +kernel
theorem dX8_tryRow_40 : decode cX8_tryRow 40 = .ok (.bipush 18, 2) := by decide +kernel
theorem dX8_tryRow_42 : decode cX8_tryRow 42 = .ok (.imul, 1) := by decide +kernel
theorem dX8_tryRow_43 : decode cX8_tryRow 43 = .ok (.iload 7, 2) := by decide +kernel
theorem dX8_tryRow_45 : decode cX8_tryRow 45 = .ok (.iadd, 1) := by decide +kernel
theorem dX8_tryRow_46 : decode cX8_tryRow 46 = .ok (.iaload, 1) := by decide +kernel
theorem dX8_tryRow_47 : decode cX8_tryRow 47 = .ok (.istore 8, 2) := by decide +kernel
theorem dX8_tryRow_49 : decode cX8_tryRow 49 = .ok (.iload 8, 2) := by decide +kernel
theorem dX8_tryRow_51 : decode cX8_tryRow 51 = .ok (.ifCond .ne 6, 3) := by decide +kernel
theorem dX8_tryRow_54 : decode cX8_tryRow 54 = .ok (.goto 56, 3) := by decide +kernel
theorem dX8_tryRow_57 : decode cX8_tryRow 57 = .ok (.iload 7, 2) := by decide +kernel
theorem dX8_tryRow_59 : decode cX8_tryRow 59 = .ok (.iload 6, 2) := by decide +kernel
theorem dX8_tryRow_61 : decode cX8_tryRow 61 = .ok (.if_icmp .lt 15, 3) := by decide +kernel
theorem dX8_tryRow_64 : decode cX8_tryRow 64 = .ok (.aload_n 0, 1) := by decide +kernel
theorem dX8_tryRow_65 : decode cX8_tryRow 65 = .ok (.iload 4, 2) := by decide +kernel
theorem dX8_tryRow_67 : decode cX8_tryRow 67 = .ok (.iload 7, 2) := by decide +kernel
theorem dX8_tryRow_69 : decode cX8_tryRow 69 = .ok (.iadd, 1) := by decide +kernel
theorem dX8_tryRow_70 : decode cX8_tryRow 70 = .ok (.putfield 18, 3) := by decide +kernel
theorem dX8_tryRow_73 : decode cX8_tryRow 73 = .ok (.bipush (-12), 2) := by decide +kernel
theorem dX8_tryRow_75 : decode cX8_tryRow 75 = .ok (.ireturn, 1) := by decide +kernel
theorem dX8_tryRow_76 : decode cX8_tryRow 76 = .ok (.iload 8, 2) := by decide +kernel
theorem dX8_tryRow_78 : decode cX8_tryRow 78 = .ok (.iconst 1, 1) := by decide +kernel
theorem dX8_tryRow_79 : decode cX8_tryRow 79 = .ok (.aload_n 1, 1) := by decide +kernel
theorem dX8_tryRow_80 : decode cX8_tryRow 80 = .ok (.getfield 71, 3) := by decide +kernel
theorem dX8_tryRow_83 : decode cX8_tryRow 83 = .ok (.getfield 83, 3) := by decide +kernel
theorem dX8_tryRow_86 : decode cX8_tryRow 86 = .ok (.iload_n 2, 1) := by decide +kernel
theorem dX8_tryRow_87 : decode cX8_tryRow 87 = .ok (.bipush 18, 2) := by decide +kernel
theorem dX8_tryRow_89 : decode cX8_tryRow 89 = .ok (.imul, 1) := by decide +kernel
theorem dX8_tryRow_90 : decode cX8_tryRow 90 = .ok (.iload 7, 2) := by decide +kernel
theorem dX8_tryRow_92 : decode cX8_tryRow 92 = .ok (.iadd, 1) := by decide +kernel
theorem dX8_tryRow_93 : decode cX8_tryRow 93 = .ok (.iaload, 1) := by decide +kernel
theorem dX8_tryRow_94 : decode cX8_tryRow 94 = .ok (.ishl, 1) := by decide +kernel
theorem dX8_tryRow_95 : decode cX8_tryRow 95 = .ok (.iand, 1) := by decide +kernel
theorem dX8_tryRow_96 : decode cX8_tryRow 96 = .ok (.ifCond .ne 14, 3) := by decide +kernel
theorem dX8_tryRow_99 : decode cX8_tryRow 99 = .ok (.aload_n 0, 1) := by decide +kernel
theorem dX8_tryRow_100 : decode cX8_tryRow 100 = .ok (.iload 4, 2) := by decide +kernel
theorem dX8_tryRow_102 : decode cX8_tryRow 102 = .ok (.iload 7, 2) := by decide +kernel
theorem dX8_tryRow_104 : decode cX8_tryRow 104 = .ok (.iadd, 1) := by decide +kernel
theorem dX8_tryRow_105 : decode cX8_tryRow 105 = .ok (.putfield 18, 3) := by decide +kernel
theorem dX8_tryRow_108 : decode cX8_tryRow 108 = .ok (.iconst 0, 1) := by decide +kernel
theorem dX8_tryRow_109 : decode cX8_tryRow 109 = .ok (.ireturn, 1) := by decide +kernel
theorem dX8_tryRow_110 : decode cX8_tryRow 110 = .ok (.iinc 7 1, 3) := by decide +kernel
theorem dX8_tryRow_113 : decode cX8_tryRow 113 = .ok (.goto (-88), 3) := by decide +kernel
theorem dX8_tryRow_116 : decode cX8_tryRow 116 = .ok (.iconst 1, 1) := by decide +kernel
theorem dX8_tryRow_117 : decode cX8_tryRow 117 = .ok (.ireturn, 1) := by decide +kernel
theorem dX9_weightOf_0 : decode cX9_weightOf 0 = .ok (.aload_n 0, 1) := by decide +kernel
theorem dX9_weightOf_1 : decode cX9_weightOf 1 = .ok (.iload_n 1, 1) := by decide +kernel
theorem dX9_weightOf_2 : decode cX9_weightOf 2 = .ok (.invokevirtual 9, 3) := by decide +kernel
theorem dX9_weightOf_5 : decode cX9_weightOf 5 = .ok (.ifCond .ne 10, 3) := by decide +kernel
theorem dX9_weightOf_8 : decode cX9_weightOf 8 = .ok (.aload_n 0, 1) := by decide +kernel
theorem dX9_weightOf_9 : decode cX9_weightOf 9 = .ok (.iload_n 1, 1) := by decide +kernel
theorem dX9_weightOf_10 : decode cX9_weightOf 10 = .ok (.aload_n 2, 1) := by decide +kernel
theorem dX9_weightOf_11 : decode cX9_weightOf 11 = .ok (.invokestatic 15, 3) := by decide +kernel
theorem dX9_weightOf_14 : decode cX9_weightOf 14 = .ok (.ireturn, 1) := by decide +kernel
theorem dX9_weightOf_15 : decode cX9_weightOf 15 = .ok (.aload_n 2, 1) := by decide +kernel
theorem dX9_weightOf_16 : decode cX9_weightOf 16 = .ok (.bipush 7, 2) := by decide +kernel
theorem dX9_weightOf_18 : decode cX9_weightOf 18 = .ok (.invokevirtual 23, 3) := by decide +kernel
theorem dX9_weightOf_21 : decode cX9_weightOf 21 = .ok (.aload_n 0, 1) := by decide +kernel
theorem dX9_weightOf_22 : decode cX9_weightOf 22 = .ok (.aload_n 0, 1) := by decide +kernel
theorem dX9_weightOf_23 : decode cX9_weightOf 23 = .ok (.getfield 27, 3) := by decide +kernel
theorem dX9_weightOf_26 : decode cX9_weightOf 26 = .ok (.iload_n 1, 1) := by decide +kernel
theorem dX9_weightOf_27 : decode cX9_weightOf 27 = .ok (.iaload, 1) := by decide +kernel
theorem dX9_weightOf_28 : decode cX9_weightOf 28 = .ok (.aload_n 2, 1) := by decide +kernel
theorem dX9_weightOf_29 : decode cX9_weightOf 29 = .ok (.invokestatic 31, 3) := by decide +kernel
theorem dX9_weightOf_32 : decode cX9_weightOf 32 = .ok (.istore_n 3, 1) := by decide +kernel
theorem dX9_weightOf_33 : decode cX9_weightOf 33 = .ok (.iload_n 3, 1) := by decide +kernel
theorem dX9_weightOf_34 : decode cX9_weightOf 34 = .ok (.ifCond .ge 5, 3) := by decide +kernel
theorem dX9_weightOf_37 : decode cX9_weightOf 37 = .ok (.iload_n 3, 1) := by decide +kernel
theorem dX9_weightOf_38 : decode cX9_weightOf 38 = .ok (.ireturn, 1) := by decide +kernel
theorem dX9_weightOf_39 : decode cX9_weightOf 39 = .ok (.aload_n 0, 1) := by decide +kernel
theorem dX9_weightOf_40 : decode cX9_weightOf 40 = .ok (.aload_n 0, 1) := by decide +kernel
theorem dX9_weightOf_41 : decode cX9_weightOf 41 = .ok (.getfield 34, 3) := by decide +kernel
theorem dX9_weightOf_44 : decode cX9_weightOf 44 = .ok (.iload_n 1, 1) := by decide +kernel
theorem dX9_weightOf_45 : decode cX9_weightOf 45 = .ok (.iaload, 1) := by decide +kernel
theorem dX9_weightOf_46 : decode cX9_weightOf 46 = .ok (.aload_n 2, 1) := by decide +kernel
theorem dX9_weightOf_47 : decode cX9_weightOf 47 = .ok (.invokestatic 31, 3) := by decide +kernel
theorem dX9_weightOf_50 : decode cX9_weightOf 50 = .ok (.istore 4, 2) := by decide +kernel
theorem dX9_weightOf_52 : decode cX9_weightOf 52 = .ok (.iload 4, 2) := by decide +kernel
theorem dX9_weightOf_54 : decode cX9_weightOf 54 = .ok (.ifCond .ge 8, 3) := by decide +kernel
theorem dX9_weightOf_57 : decode cX9_weightOf 57 = .ok (.iload 4, 2) := by decide +kernel
theorem dX9_weightOf_59 : decode cX9_weightOf 59 = .ok (.goto 7, 3) := by decide +kernel
theorem dX9_weightOf_62 : decode cX9_weightOf 62 = .ok (.iload_n 3, 1) := by decide +kernel
theorem dX9_weightOf_63 : decode cX9_weightOf 63 = .ok (.iload 4, 2) := by decide +kernel
theorem dX9_weightOf_65 : decode cX9_weightOf 65 = .ok (.iadd, 1) := by decide +kernel
theorem dX9_weightOf_66 : decode cX9_weightOf 66 = .ok (.ireturn, 1) := by decide +kernel
theorem dX9_weightOfHalf_0 : decode cX9_weightOfHalf 0 = .ok (.iload_n 1, 1) := by decide +kernel
theorem dX9_weightOfHalf_1 : decode cX9_weightOfHalf 1 = .ok (.iconst (-1), 1) := by decide +kernel
theorem dX9_weightOfHalf_2 : decode cX9_weightOfHalf 2 = .ok (.if_icmp .ne 7, 3) := by decide +kernel
theorem dX9_weightOfHalf_5 : decode cX9_weightOfHalf 5 = .ok (.iconst 0, 1) := by decide +kernel
theorem dX9_weightOfHalf_6 : decode cX9_weightOfHalf 6 = .ok (.goto 9, 3) := by decide +kernel
theorem dX9_weightOfHalf_9 : decode cX9_weightOfHalf 9 = .ok (.aload_n 0, 1) := by decide +kernel
theorem dX9_weightOfHalf_10 : decode cX9_weightOfHalf 10 = .ok (.iload_n 1, 1) := by decide +kernel
theorem dX9_weightOfHalf_11 : decode cX9_weightOfHalf 11 = .ok (.aload_n 2, 1) := by decide +kernel
theorem dX9_weightOfHalf_12 : decode cX9_weightOfHalf 12 = .ok (.invokestatic 15, 3) := by decide +kernel
theorem dX9_weightOfHalf_15 : decode cX9_weightOfHalf 15 = .ok (.ireturn, 1) := by decide +kernel
theorem dX9_weightOfSingle_0 : decode cX9_weightOfSingle 0 = .ok (.bipush 10, 2) := by decide +kernel
theorem dX9_weightOfSingle_2 : decode cX9_weightOfSingle 2 = .ok (.istore_n 3, 1) := by decide +kernel
theorem dX9_weightOfSingle_3 : decode cX9_weightOfSingle 3 = .ok (.aload_n 0, 1) := by decide +kernel
theorem dX9_weightOfSingle_4 : decode cX9_weightOfSingle 4 = .ok (.iload_n 1, 1) := by decide +kernel
theorem dX9_weightOfSingle_5 : decode cX9_weightOfSingle 5 = .ok (.invokevirtual 37, 3) := by decide +kernel
theorem dX9_weightOfSingle_8 : decode cX9_weightOfSingle 8 = .ok (.ifCond .eq 12, 3) := by decide +kernel
theorem dX9_weightOfSingle_11 : decode cX9_weightOfSingle 11 = .ok (.aload_n 2, 1) := by decide +kernel
theorem dX9_weightOfSingle_12 : decode cX9_weightOfSingle 12 = .ok (.bipush 6, 2) := by decide +kernel
theorem dX9_weightOfSingle_14 : decode cX9_weightOfSingle 14 = .ok (.invokevirtual 23, 3) := by decide +kernel
theorem dX9_weightOfSingle_17 : decode cX9_weightOfSingle 17 = .ok (.iinc 3 5, 3) := by decide +kernel
theorem dX9_weightOfSingle_20 : decode cX9_weightOfSingle 20 = .ok (.aload_n 2, 1) := by decide +kernel
theorem dX9_weightOfSingle_21 : decode cX9_weightOfSingle 21 = .ok (.iconst 5, 1) := by decide +kernel
theorem dX9_weightOfSingle_22 : decode cX9_weightOfSingle 22 = .ok (.invokevirtual 23, 3) := by decide +kernel
theorem dX9_weightOfSingle_25 : decode cX9_weightOfSingle 25 = .ok (.aload_n 0, 1) := by decide +kernel
theorem dX9_weightOfSingle_26 : decode cX9_weightOfSingle 26 = .ok (.iload_n 1, 1) := by decide +kernel
theorem dX9_weightOfSingle_27 : decode cX9_weightOfSingle 27 = .ok (.invokevirtual 40, 3) := by decide +kernel
theorem dX9_weightOfSingle_30 : decode cX9_weightOfSingle 30 = .ok (.ifCond .eq 6, 3) := by decide +kernel
theorem dX9_weightOfSingle_33 : decode cX9_weightOfSingle 33 = .ok (.bipush (-11), 2) := by decide +kernel
theorem dX9_weightOfSingle_35 : decode cX9_weightOfSingle 35 = .ok (.ireturn, 1) := by decide +kernel
theorem dX9_weightOfSingle_36 : decode cX9_weightOfSingle 36 = .ok (.iconst 0, 1) := by decide +kernel
theorem dX9_weightOfSingle_37 : decode cX9_weightOfSingle 37 = .ok (.istore 4, 2) := by decide +kernel
theorem dX9_weightOfSingle_39 : decode cX9_weightOfSingle 39 = .ok (.iload 4, 2) := by decide +kernel
theorem dX9_weightOfSingle_41 : decode cX9_weightOfSingle 41 = .ok (.aload_n 0, 1) := by decide +kernel
theorem dX9_weightOfSingle_42 : decode cX9_weightOfSingle 42 = .ok (.getfield 43, 3) := by decide +kernel
theorem dX9_weightOfSingle_45 : decode cX9_weightOfSingle 45 = .ok (.iload_n 1, 1) := by decide +kernel
theorem dX9_weightOfSingle_46 : decode cX9_weightOfSingle 46 = .ok (.iaload, 1) := by decide +kernel
theorem dX9_weightOfSingle_47 : decode cX9_weightOfSingle 47 = .ok (.if_icmp .ge 22, 3) := by decide +kernel
theorem dX9_weightOfSingle_50 : decode cX9_weightOfSingle 50 = .ok (.iload_n 3, 1) := by decide +kernel
theorem dX9_weightOfSingle_51 : decode cX9_weightOfSingle 51 = .ok (.aload_n 0, 1) := by decide +kernel
theorem dX9_weightOfSingle_52 : decode cX9_weightOfSingle 52 = .ok (.iload_n 1, 1) := by decide +kernel
theorem dX9_weightOfSingle_53 : decode cX9_weightOfSingle 53 = .ok (.iload 4, 2) := by decide +kernel
theorem dX9_weightOfSingle_55 : decode cX9_weightOfSingle 55 = .ok (.invokevirtual 46, 3) := by decide +kernel
theorem dX9_weightOfSingle_58 : decode cX9_weightOfSingle 58 = .ok (.invokestatic 50, 3) := by decide +kernel
theorem dX9_weightOfSingle_61 : decode cX9_weightOfSingle 61 = .ok (.iadd, 1) := by decide +kernel
theorem dX9_weightOfSingle_62 : decode cX9_weightOfSingle 62 = .ok (.istore_n 3, 1) := by decide +kernel
theorem dX9_weightOfSingle_63 : decode cX9_weightOfSingle 63 = .ok (.iinc 4 1, 3) := by decide +kernel
theorem dX9_weightOfSingle_66 : decode cX9_weightOfSingle 66 = .ok (.goto (-27), 3) := by decide +kernel
theorem dX9_weightOfSingle_69 : decode cX9_weightOfSingle 69 = .ok (.iload_n 3, 1) := by decide +kernel
theorem dX9_weightOfSingle_70 : decode cX9_weightOfSingle 70 = .ok (.ireturn, 1) := by decide +kernel
theorem dX9_sumOf_0 : decode cX9_sumOf 0 = .ok (.iconst 0, 1) := by decide +kernel
theorem dX9_sumOf_1 : decode cX9_sumOf 1 = .ok (.istore_n 1, 1) := by decide +kernel
theorem dX9_sumOf_2 : decode cX9_sumOf 2 = .ok (.iconst 0, 1) := by decide +kernel
theorem dX9_sumOf_3 : decode cX9_sumOf 3 = .ok (.istore_n 2, 1) := by decide +kernel
theorem dX9_sumOf_4 : decode cX9_sumOf 4 = .ok (.iload_n 2, 1) := by decide +kernel
theorem dX9_sumOf_5 : decode cX9_sumOf 5 = .ok (.bipush 9, 2) := by decide +kernel
theorem dX9_sumOf_7 : decode cX9_sumOf 7 = .ok (.if_icmp .gt 21, 3) := by decide +kernel
theorem dX9_sumOf_10 : decode cX9_sumOf 10 = .ok (.iload_n 0, 1) := by decide +kernel
theorem dX9_sumOf_11 : decode cX9_sumOf 11 = .ok (.iconst 1, 1) := by decide +kernel
theorem dX9_sumOf_12 : decode cX9_sumOf 12 = .ok (.iload_n 2, 1) := by decide +kernel
theorem dX9_sumOf_13 : decode cX9_sumOf 13 = .ok (.ishl, 1) := by decide +kernel
theorem dX9_sumOf_14 : decode cX9_sumOf 14 = .ok (.iand, 1) := by decide +kernel
theorem dX9_sumOf_15 : decode cX9_sumOf 15 = .ok (.ifCond .eq 7, 3) := by decide +kernel
theorem dX9_sumOf_18 : decode cX9_sumOf 18 = .ok (.iload_n 1, 1) := by decide +kernel
theorem dX9_sumOf_19 : decode cX9_sumOf 19 = .ok (.iload_n 2, 1) := by decide +kernel
theorem dX9_sumOf_20 : decode cX9_sumOf 20 = .ok (.iadd, 1) := by decide +kernel
theorem dX9_sumOf_21 : decode cX9_sumOf 21 = .ok (.istore_n 1, 1) := by decide +kernel
theorem dX9_sumOf_22 : decode cX9_sumOf 22 = .ok (.iinc 2 1, 3) := by decide +kernel
theorem dX9_sumOf_25 : decode cX9_sumOf 25 = .ok (.goto (-21), 3) := by decide +kernel
theorem dX9_sumOf_28 : decode cX9_sumOf 28 = .ok (.iload_n 1, 1) := by decide +kernel
theorem dX9_sumOf_29 : decode cX9_sumOf 29 = .ok (.ireturn, 1) := by decide +kernel
theorem dX10_init_0 : decode cX10_init 0 = .ok (.aload_n 0, 1) := by decide +kernel
theorem dX10_init_1 : decode cX10_init 1 = .ok (.invokespecial 1, 3) := by decide +kernel
theorem dX10_init_4 : decode cX10_init 4 = .ok (.aload_n 0, 1) := by decide +kernel
theorem dX10_init_5 : decode cX10_init 5 = .ok (.new 7, 3) := by decide +kernel
theorem dX10_init_8 : decode cX10_init 8 = .ok (.dup, 1) := by decide +kernel
theorem dX10_init_9 : decode cX10_init 9 = .ok (.invokespecial 9, 3) := by decide +kernel
theorem dX10_init_12 : decode cX10_init 12 = .ok (.putfield 10, 3) := by decide +kernel
theorem dX10_init_15 : decode cX10_init 15 = .ok (.aload_n 0, 1) := by decide +kernel
theorem dX10_init_16 : decode cX10_init 16 = .ok (.new 7, 3) := by decide +kernel
theorem dX10_init_19 : decode cX10_init 19 = .ok (.dup, 1) := by decide +kernel
theorem dX10_init_20 : decode cX10_init 20 = .ok (.invokespecial 9, 3) := by decide +kernel
theorem dX10_init_23 : decode cX10_init 23 = .ok (.putfield 16, 3) := by decide +kernel
theorem dX10_init_26 : decode cX10_init 26 = .ok (.aload_n 0, 1) := by decide +kernel
theorem dX10_init_27 : decode cX10_init 27 = .ok (.iconst 0, 1) := by decide +kernel
theorem dX10_init_28 : decode cX10_init 28 = .ok (.putfield 19, 3) := by decide +kernel
theorem dX10_init_31 : decode cX10_init 31 = .ok (.aload_n 0, 1) := by decide +kernel
theorem dX10_init_32 : decode cX10_init 32 = .ok (.iconst 0, 1) := by decide +kernel
theorem dX10_init_33 : decode cX10_init 33 = .ok (.putfield 23, 3) := by decide +kernel
theorem dX10_init_36 : decode cX10_init 36 = .ok (.aload_n 0, 1) := by decide +kernel
theorem dX10_init_37 : decode cX10_init 37 = .ok (.iconst 0, 1) := by decide +kernel
theorem dX10_init_38 : decode cX10_init 38 = .ok (.putfield 27, 3) := by decide +kernel
theorem dX10_init_41 : decode cX10_init 41 = .ok (.aload_n 0, 1) := by decide +kernel
theorem dX10_init_42 : decode cX10_init 42 = .ok (.iconst 0, 1) := by decide +kernel
theorem dX10_init_43 : decode cX10_init 43 = .ok (.putfield 30, 3) := by decide +kernel
theorem dX10_init_46 : decode cX10_init 46 = .ok (.aload_n 0, 1) := by decide +kernel
theorem dX10_init_47 : decode cX10_init 47 = .ok (.new 33, 3) := by decide +kernel
theorem dX10_init_50 : decode cX10_init 50 = .ok (.dup, 1) := by decide +kernel
theorem dX10_init_51 : decode cX10_init 51 = .ok (.invokespecial 35, 3) := by decide +kernel
theorem dX10_init_54 : decode cX10_init 54 = .ok (.putfield 36, 3) := by decide +kernel
theorem dX10_init_57 : decode cX10_init 57 = .ok (.aload_n 0, 1) := by decide +kernel
theorem dX10_init_58 : decode cX10_init 58 = .ok (.new 33, 3) := by decide +kernel
theorem dX10_init_61 : decode cX10_init 61 = .ok (.dup, 1) := by decide +kernel
theorem dX10_init_62 : decode cX10_init 62 = .ok (.invokespecial 35, 3) := by decide +kernel
theorem dX10_init_65 : decode cX10_init 65 = .ok (.putfield 40, 3) := by decide +kernel
theorem dX10_init_68 : decode cX10_init 68 = .ok (.aload_n 0, 1) := by decide +kernel
theorem dX10_init_69 : decode cX10_init 69 = .ok (.new 43, 3) := by decide +kernel
theorem dX10_init_72 : decode cX10_init 72 = .ok (.dup, 1) := by decide +kernel
theorem dX10_init_73 : decode cX10_init 73 = .ok (.invokespecial 45, 3) := by decide +kernel
theorem dX10_init_76 : decode cX10_init 76 = .ok (.putfield 46, 3) := by decide +kernel
theorem dX10_init_79 : decode cX10_init 79 = .ok (.aload_n 0, 1) := by decide +kernel
theorem dX10_init_80 : decode cX10_init 80 = .ok (.new 50, 3) := by decide +kernel
theorem dX10_init_83 : decode cX10_init 83 = .ok (.dup, 1) := by decide +kernel
theorem dX10_init_84 : decode cX10_init 84 = .ok (.invokespecial 52, 3) := by decide +kernel
theorem dX10_init_87 : decode cX10_init 87 = .ok (.putfield 53, 3) := by decide +kernel
theorem dX10_init_90 : decode cX10_init 90 = .ok (.aload_n 0, 1) := by decide +kernel
theorem dX10_init_91 : decode cX10_init 91 = .ok (.new 57, 3) := by decide +kernel
theorem dX10_init_94 : decode cX10_init 94 = .ok (.dup, 1) := by decide +kernel
theorem dX10_init_95 : decode cX10_init 95 = .ok (.invokespecial 59, 3) := by decide +kernel
theorem dX10_init_98 : decode cX10_init 98 = .ok (.putfield 60, 3) := by decide +kernel
theorem dX10_init_101 : decode cX10_init 101 = .ok (.return_, 1) := by decide +kernel
theorem dX10_cylinder_0 : decode cX10_cylinder 0 = .ok (.aload_n 0, 1) := by decide +kernel
theorem dX10_cylinder_1 : decode cX10_cylinder 1 = .ok (.aload_n 0, 1) := by decide +kernel
theorem dX10_cylinder_2 : decode cX10_cylinder 2 = .ok (.iload_n 1, 1) := by decide +kernel
theorem dX10_cylinder_3 : decode cX10_cylinder 3 = .ok (.iload_n 2, 1) := by decide +kernel
theorem dX10_cylinder_4 : decode cX10_cylinder 4 = .ok (.invokevirtual 64, 3) := by decide +kernel
theorem dX10_cylinder_7 : decode cX10_cylinder 7 = .ok (.invokevirtual 68, 3) := by decide +kernel
theorem dX10_cylinder_10 : decode cX10_cylinder 10 = .ok (.ireturn, 1) := by decide +kernel
theorem dX10_makeCylinder_0 : decode cX10_makeCylinder 0 = .ok (.iload_n 1, 1) := by decide +kernel
theorem dX10_makeCylinder_1 : decode cX10_makeCylinder 1 = .ok (.ifCond .lt 14, 3) := by decide +kernel
theorem dX10_makeCylinder_4 : decode cX10_makeCylinder 4 = .ok (.iload_n 1, 1) := by decide +kernel
theorem dX10_makeCylinder_5 : decode cX10_makeCylinder 5 = .ok (.iconst 3, 1) := by decide +kernel
theorem dX10_makeCylinder_6 : decode cX10_makeCylinder 6 = .ok (.if_icmp .gt 9, 3) := by decide +kernel
theorem dX10_makeCylinder_9 : decode cX10_makeCylinder 9 = .ok (.iload_n 2, 1) := by decide +kernel
theorem dX10_makeCylinder_10 : decode cX10_makeCylinder 10 = .ok (.bipush 18, 2) := by decide +kernel
theorem dX10_makeCylinder_12 : decode cX10_makeCylinder 12 = .ok (.if_icmp .le 6, 3) := by decide +kernel
theorem dX10_makeCylinder_15 : decode cX10_makeCylinder 15 = .ok (.bipush (-2), 2) := by decide +kernel
theorem dX10_makeCylinder_17 : decode cX10_makeCylinder 17 = .ok (.ireturn, 1) := by decide +kernel
theorem dX10_makeCylinder_18 : decode cX10_makeCylinder 18 = .ok (.aload_n 0, 1) := by decide +kernel
theorem dX10_makeCylinder_19 : decode cX10_makeCylinder 19 = .ok (.getfield 10, 3) := by decide +kernel
theorem dX10_makeCylinder_22 : decode cX10_makeCylinder 22 = .ok (.getfield 72, 3) := by decide +kernel
theorem dX10_makeCylinder_25 : decode cX10_makeCylinder 25 = .ok (.getfield 76, 3) := by decide +kernel
theorem dX10_makeCylinder_28 : decode cX10_makeCylinder 28 = .ok (.bipush 100, 2) := by decide +kernel
theorem dX10_makeCylinder_30 : decode cX10_makeCylinder 30 = .ok (.if_icmp .lt 6, 3) := by decide +kernel
theorem dX10_makeCylinder_33 : decode cX10_makeCylinder 33 = .ok (.bipush (-4), 2) := by decide +kernel
theorem dX10_makeCylinder_35 : decode cX10_makeCylinder 35 = .ok (.ireturn, 1) := by decide +kernel
theorem dX10_makeCylinder_36 : decode cX10_makeCylinder 36 = .ok (.iload_n 2, 1) := by decide +kernel
theorem dX10_makeCylinder_37 : decode cX10_makeCylinder 37 = .ok (.ifCond .ge 6, 3) := by decide +kernel
theorem dX10_makeCylinder_40 : decode cX10_makeCylinder 40 = .ok (.bipush (-15), 2) := by decide +kernel
theorem dX10_makeCylinder_42 : decode cX10_makeCylinder 42 = .ok (.ireturn, 1) := by decide +kernel
theorem dX10_makeCylinder_43 : decode cX10_makeCylinder 43 = .ok (.aload_n 0, 1) := by decide +kernel
theorem dX10_makeCylinder_44 : decode cX10_makeCylinder 44 = .ok (.invokevirtual 81, 3) := by decide +kernel
theorem dX10_makeCylinder_47 : decode cX10_makeCylinder 47 = .ok (.aload_n 0, 1) := by decide +kernel
theorem dX10_makeCylinder_48 : decode cX10_makeCylinder 48 = .ok (.getfield 10, 3) := by decide +kernel
theorem dX10_makeCylinder_51 : decode cX10_makeCylinder 51 = .ok (.getfield 72, 3) := by decide +kernel
theorem dX10_makeCylinder_54 : decode cX10_makeCylinder 54 = .ok (.iload_n 1, 1) := by decide +kernel
theorem dX10_makeCylinder_55 : decode cX10_makeCylinder 55 = .ok (.iload_n 2, 1) := by decide +kernel
theorem dX10_makeCylinder_56 : decode cX10_makeCylinder 56 = .ok (.invokevirtual 84, 3) := by decide +kernel
theorem dX10_makeCylinder_59 : decode cX10_makeCylinder 59 = .ok (.ireturn, 1) := by decide +kernel
theorem dX10_twin_0 : decode cX10_twin 0 = .ok (.aload_n 0, 1) := by decide +kernel
theorem dX10_twin_1 : decode cX10_twin 1 = .ok (.aload_n 0, 1) := by decide +kernel
theorem dX10_twin_2 : decode cX10_twin 2 = .ok (.iload_n 1, 1) := by decide +kernel
theorem dX10_twin_3 : decode cX10_twin 3 = .ok (.iload_n 2, 1) := by decide +kernel
theorem dX10_twin_4 : decode cX10_twin 4 = .ok (.invokevirtual 87, 3) := by decide +kernel
theorem dX10_twin_7 : decode cX10_twin 7 = .ok (.invokevirtual 68, 3) := by decide +kernel
theorem dX10_twin_10 : decode cX10_twin 10 = .ok (.ireturn, 1) := by decide +kernel
theorem dX10_makeDouble_0 : decode cX10_makeDouble 0 = .ok (.aload_n 0, 1) := by decide +kernel
theorem dX10_makeDouble_1 : decode cX10_makeDouble 1 = .ok (.getfield 10, 3) := by decide +kernel
theorem dX10_makeDouble_4 : decode cX10_makeDouble 4 = .ok (.getfield 72, 3) := by decide +kernel
theorem dX10_makeDouble_7 : decode cX10_makeDouble 7 = .ok (.astore_n 3, 1) := by decide +kernel
theorem dX10_makeDouble_8 : decode cX10_makeDouble 8 = .ok (.aload_n 3, 1) := by decide +kernel
theorem dX10_makeDouble_9 : decode cX10_makeDouble 9 = .ok (.iload_n 1, 1) := by decide +kernel
theorem dX10_makeDouble_10 : decode cX10_makeDouble 10 = .ok (.invokevirtual 90, 3) := by decide +kernel
theorem dX10_makeDouble_13 : decode cX10_makeDouble 13 = .ok (.ifCond .eq 11, 3) := by decide +kernel
theorem dX10_makeDouble_16 : decode cX10_makeDouble 16 = .ok (.aload_n 3, 1) := by decide +kernel
theorem dX10_makeDouble_17 : decode cX10_makeDouble 17 = .ok (.iload_n 2, 1) := by decide +kernel
theorem dX10_makeDouble_18 : decode cX10_makeDouble 18 = .ok (.invokevirtual 90, 3) := by decide +kernel
theorem dX10_makeDouble_21 : decode cX10_makeDouble 21 = .ok (.ifCond .ne 6, 3) := by decide +kernel
theorem dX10_makeDouble_24 : decode cX10_makeDouble 24 = .ok (.bipush (-2), 2) := by decide +kernel
theorem dX10_makeDouble_26 : decode cX10_makeDouble 26 = .ok (.ireturn, 1) := by decide +kernel
theorem dX10_makeDouble_27 : decode cX10_makeDouble 27 = .ok (.aload_n 3, 1) := by decide +kernel
theorem dX10_makeDouble_28 : decode cX10_makeDouble 28 = .ok (.getfield 76, 3) := by decide +kernel
theorem dX10_makeDouble_31 : decode cX10_makeDouble 31 = .ok (.bipush 100, 2) := by decide +kernel
theorem dX10_makeDouble_33 : decode cX10_makeDouble 33 = .ok (.if_icmp .lt 6, 3) := by decide +kernel
theorem dX10_makeDouble_36 : decode cX10_makeDouble 36 = .ok (.bipush (-4), 2) := by decide +kernel
theorem dX10_makeDouble_38 : decode cX10_makeDouble 38 = .ok (.ireturn, 1) := by decide +kernel
theorem dX10_makeDouble_39 : decode cX10_makeDouble 39 = .ok (.aload_n 3, 1) := by decide +kernel
theorem dX10_makeDouble_40 : decode cX10_makeDouble 40 = .ok (.iload_n 1, 1) := by decide +kernel
theorem dX10_makeDouble_41 : decode cX10_makeDouble 41 = .ok (.invokevirtual 94, 3) := by decide +kernel
theorem dX10_makeDouble_44 : decode cX10_makeDouble 44 = .ok (.ifCond .ne 11, 3) := by decide +kernel
theorem dX10_makeDouble_47 : decode cX10_makeDouble 47 = .ok (.aload_n 3, 1) := by decide +kernel
theorem dX10_makeDouble_48 : decode cX10_makeDouble 48 = .ok (.iload_n 2, 1) := by decide +kernel
theorem dX10_makeDouble_49 : decode cX10_makeDouble 49 = .ok (.invokevirtual 94, 3) := by decide +kernel
theorem dX10_makeDouble_52 : decode cX10_makeDouble 52 = .ok (.ifCond .eq 6, 3) := by decide +kernel
theorem dX10_makeDouble_55 : decode cX10_makeDouble 55 = .ok (.bipush (-13), 2) := by decide +kernel
theorem dX10_makeDouble_57 : decode cX10_makeDouble 57 = .ok (.ireturn, 1) := by decide +kernel
theorem dX10_makeDouble_58 : decode cX10_makeDouble 58 = .ok (.aload_n 0, 1) := by decide +kernel
theorem dX10_makeDouble_59 : decode cX10_makeDouble 59 = .ok (.invokevirtual 81, 3) := by decide +kernel
theorem dX10_makeDouble_62 : decode cX10_makeDouble 62 = .ok (.aload_n 3, 1) := by decide +kernel
theorem dX10_makeDouble_63 : decode cX10_makeDouble 63 = .ok (.iload_n 1, 1) := by decide +kernel
theorem dX10_makeDouble_64 : decode cX10_makeDouble 64 = .ok (.iload_n 2, 1) := by decide +kernel
theorem dX10_makeDouble_65 : decode cX10_makeDouble 65 = .ok (.invokevirtual 97, 3) := by decide +kernel
theorem dX10_makeDouble_68 : decode cX10_makeDouble 68 = .ok (.ireturn, 1) := by decide +kernel
theorem dX10_height_0 : decode cX10_height 0 = .ok (.aload_n 0, 1) := by decide +kernel
theorem dX10_height_1 : decode cX10_height 1 = .ok (.aload_n 0, 1) := by decide +kernel
theorem dX10_height_2 : decode cX10_height 2 = .ok (.iload_n 1, 1) := by decide +kernel
theorem dX10_height_3 : decode cX10_height 3 = .ok (.iload_n 2, 1) := by decide +kernel
theorem dX10_height_4 : decode cX10_height 4 = .ok (.iload_n 3, 1) := by decide +kernel
theorem dX10_height_5 : decode cX10_height 5 = .ok (.iload 4, 2) := by decide +kernel
theorem dX10_height_7 : decode cX10_height 7 = .ok (.invokevirtual 100, 3) := by decide +kernel
theorem dX10_height_10 : decode cX10_height 10 = .ok (.invokevirtual 68, 3) := by decide +kernel
theorem dX10_height_13 : decode cX10_height 13 = .ok (.ireturn, 1) := by decide +kernel
theorem dX10_changeHeight_0 : decode cX10_changeHeight 0 = .ok (.aload_n 0, 1) := by decide +kernel
theorem dX10_changeHeight_1 : decode cX10_changeHeight 1 = .ok (.getfield 10, 3) := by decide +kernel
theorem dX10_changeHeight_4 : decode cX10_changeHeight 4 = .ok (.getfield 72, 3) := by decide +kernel
theorem dX10_changeHeight_7 : decode cX10_changeHeight 7 = .ok (.astore 5, 2) := by decide +kernel
theorem dX10_changeHeight_9 : decode cX10_changeHeight 9 = .ok (.aload 5, 2) := by decide +kernel
theorem dX10_changeHeight_11 : decode cX10_changeHeight 11 = .ok (.iload_n 1, 1) := by decide +kernel
theorem dX10_changeHeight_12 : decode cX10_changeHeight 12 = .ok (.invokevirtual 104, 3) := by decide +kernel
theorem dX10_changeHeight_15 : decode cX10_changeHeight 15 = .ok (.ifCond .eq 13, 3) := by decide +kernel
theorem dX10_changeHeight_18 : decode cX10_changeHeight 18 = .ok (.iload_n 3, 1) := by decide +kernel
theorem dX10_changeHeight_19 : decode cX10_changeHeight 19 = .ok (.ifCond .lt 9, 3) := by decide +kernel
theorem dX10_changeHeight_22 : decode cX10_changeHeight 22 = .ok (.iload_n 3, 1) := by decide +kernel
theorem dX10_changeHeight_23 : decode cX10_changeHeight 23 = .ok (.bipush 9, 2) := by decide +kernel
theorem dX10_changeHeight_25 : decode cX10_changeHeight 25 = .ok (.if_icmp .le 6, 3) := by decide +kernel
theorem dX10_changeHeight_28 : decode cX10_changeHeight 28 = .ok (.bipush (-2), 2) := by decide +kernel
theorem dX10_changeHeight_30 : decode cX10_changeHeight 30 = .ok (.ireturn, 1) := by decide +kernel
theorem dX10_changeHeight_31 : decode cX10_changeHeight 31 = .ok (.aload 5, 2) := by decide +kernel
theorem dX10_changeHeight_33 : decode cX10_changeHeight 33 = .ok (.iload_n 1, 1) := by decide +kernel
theorem dX10_changeHeight_34 : decode cX10_changeHeight 34 = .ok (.iload_n 2, 1) := by decide +kernel
theorem dX10_changeHeight_35 : decode cX10_changeHeight 35 = .ok (.invokevirtual 107, 3) := by decide +kernel
theorem dX10_changeHeight_38 : decode cX10_changeHeight 38 = .ok (.istore 6, 2) := by decide +kernel
theorem dX10_changeHeight_40 : decode cX10_changeHeight 40 = .ok (.iload 6, 2) := by decide +kernel
theorem dX10_changeHeight_42 : decode cX10_changeHeight 42 = .ok (.ifCond .eq 6, 3) := by decide +kernel
theorem dX10_changeHeight_45 : decode cX10_changeHeight 45 = .ok (.iload 6, 2) := by decide +kernel
theorem dX10_changeHeight_47 : decode cX10_changeHeight 47 = .ok (.ireturn, 1) := by decide +kernel
theorem dX10_changeHeight_48 : decode cX10_changeHeight 48 = .ok (.aload 5, 2) := by decide +kernel
theorem dX10_changeHeight_50 : decode cX10_changeHeight 50 = .ok (.iload_n 1, 1) := by decide +kernel
theorem dX10_changeHeight_51 : decode cX10_changeHeight 51 = .ok (.iload_n 2, 1) := by decide +kernel
theorem dX10_changeHeight_52 : decode cX10_changeHeight 52 = .ok (.invokevirtual 110, 3) := by decide +kernel
theorem dX10_changeHeight_55 : decode cX10_changeHeight 55 = .ok (.istore 7, 2) := by decide +kernel
theorem dX10_changeHeight_57 : decode cX10_changeHeight 57 = .ok (.iconst 1, 1) := by decide +kernel
theorem dX10_changeHeight_58 : decode cX10_changeHeight 58 = .ok (.iload_n 3, 1) := by decide +kernel
theorem dX10_changeHeight_59 : decode cX10_changeHeight 59 = .ok (.ishl, 1) := by decide +kernel
theorem dX10_changeHeight_60 : decode cX10_changeHeight 60 = .ok (.istore 8, 2) := by decide +kernel
theorem dX10_changeHeight_62 : decode cX10_changeHeight 62 = .ok (.iload 4, 2) := by decide +kernel
theorem dX10_changeHeight_64 : decode cX10_changeHeight 64 = .ok (.ifCond .eq 15, 3) := by decide +kernel
theorem dX10_changeHeight_67 : decode cX10_changeHeight 67 = .ok (.iload 7, 2) := by decide +kernel
theorem dX10_changeHeight_69 : decode cX10_changeHeight 69 = .ok (.iload 8, 2) := by decide +kernel
theorem dX10_changeHeight_71 : decode cX10_changeHeight 71 = .ok (.iand, 1) := by decide +kernel
theorem dX10_changeHeight_72 : decode cX10_changeHeight 72 = .ok (.ifCond .ne 7, 3) := by decide +kernel
theorem dX10_changeHeight_75 : decode cX10_changeHeight 75 = .ok (.iconst 1, 1) := by decide +kernel
theorem dX10_changeHeight_76 : decode cX10_changeHeight 76 = .ok (.goto 4, 3) := by decide +kernel
theorem dX10_changeHeight_79 : decode cX10_changeHeight 79 = .ok (.iconst 0, 1) := by decide +kernel
theorem dX10_changeHeight_80 : decode cX10_changeHeight 80 = .ok (.istore 9, 2) := by decide +kernel
theorem dX10_changeHeight_82 : decode cX10_changeHeight 82 = .ok (.iload 9, 2) := by decide +kernel
theorem dX10_changeHeight_84 : decode cX10_changeHeight 84 = .ok (.ifCond .eq 20, 3) := by decide +kernel
theorem dX10_changeHeight_87 : decode cX10_changeHeight 87 = .ok (.iload 7, 2) := by decide +kernel
theorem dX10_changeHeight_89 : decode cX10_changeHeight 89 = .ok (.invokestatic 113, 3) := by decide +kernel
theorem dX10_changeHeight_92 : decode cX10_changeHeight 92 = .ok (.aload 5, 2) := by decide +kernel
theorem dX10_changeHeight_94 : decode cX10_changeHeight 94 = .ok (.iload_n 1, 1) := by decide +kernel
theorem dX10_changeHeight_95 : decode cX10_changeHeight 95 = .ok (.invokevirtual 118, 3) := by decide +kernel
theorem dX10_changeHeight_98 : decode cX10_changeHeight 98 = .ok (.if_icmp .lt 6, 3) := by decide +kernel
theorem dX10_changeHeight_101 : decode cX10_changeHeight 101 = .ok (.bipush (-4), 2) := by decide +kernel
theorem dX10_changeHeight_103 : decode cX10_changeHeight 103 = .ok (.ireturn, 1) := by decide +kernel
theorem dX10_changeHeight_104 : decode cX10_changeHeight 104 = .ok (.aload_n 0, 1) := by decide +kernel
theorem dX10_changeHeight_105 : decode cX10_changeHeight 105 = .ok (.invokevirtual 81, 3) := by decide +kernel
theorem dX10_changeHeight_108 : decode cX10_changeHeight 108 = .ok (.iload 4, 2) := by decide +kernel
theorem dX10_changeHeight_110 : decode cX10_changeHeight 110 = .ok (.ifCond .eq 11, 3) := by decide +kernel
theorem dX10_changeHeight_113 : decode cX10_changeHeight 113 = .ok (.iload 7, 2) := by decide +kernel
theorem dX10_changeHeight_115 : decode cX10_changeHeight 115 = .ok (.iload 8, 2) := by decide +kernel
theorem dX10_changeHeight_117 : decode cX10_changeHeight 117 = .ok (.ior, 1) := by decide +kernel
theorem dX10_changeHeight_118 : decode cX10_changeHeight 118 = .ok (.goto 10, 3) := by decide +kernel
theorem dX10_changeHeight_121 : decode cX10_changeHeight 121 = .ok (.iload 7, 2) := by decide +kernel
theorem dX10_changeHeight_123 : decode cX10_changeHeight 123 = .ok (.iload 8, 2) := by decide +kernel
theorem dX10_changeHeight_125 : decode cX10_changeHeight 125 = .ok (.iconst (-1), 1) := by decide +kernel
theorem dX10_changeHeight_126 : decode cX10_changeHeight 126 = .ok (.ixor, 1) := by decide +kernel
theorem dX10_changeHeight_127 : decode cX10_changeHeight 127 = .ok (.iand, 1) := by decide +kernel
theorem dX10_changeHeight_128 : decode cX10_changeHeight 128 = .ok (.istore 10, 2) := by decide +kernel
theorem dX10_changeHeight_130 : decode cX10_changeHeight 130 = .ok (.aload 5, 2) := by decide +kernel
theorem dX10_changeHeight_132 : decode cX10_changeHeight 132 = .ok (.iload_n 1, 1) := by decide +kernel
theorem dX10_changeHeight_133 : decode cX10_changeHeight 133 = .ok (.iload_n 2, 1) := by decide +kernel
theorem dX10_changeHeight_134 : decode cX10_changeHeight 134 = .ok (.iload 10, 2) := by decide +kernel
theorem dX10_changeHeight_136 : decode cX10_changeHeight 136 = .ok (.invokevirtual 121, 3) := by decide +kernel
theorem dX10_changeHeight_139 : decode cX10_changeHeight 139 = .ok (.iload 10, 2) := by decide +kernel
theorem dX10_changeHeight_141 : decode cX10_changeHeight 141 = .ok (.invokestatic 113, 3) := by decide +kernel
theorem dX10_changeHeight_144 : decode cX10_changeHeight 144 = .ok (.ireturn, 1) := by decide +kernel
theorem dX10_heightAt_0 : decode cX10_heightAt 0 = .ok (.aload_n 0, 1) := by decide +kernel
theorem dX10_heightAt_1 : decode cX10_heightAt 1 = .ok (.aload_n 0, 1) := by decide +kernel
theorem dX10_heightAt_2 : decode cX10_heightAt 2 = .ok (.iload_n 1, 1) := by decide +kernel
theorem dX10_heightAt_3 : decode cX10_heightAt 3 = .ok (.iload_n 2, 1) := by decide +kernel
theorem dX10_heightAt_4 : decode cX10_heightAt 4 = .ok (.iload_n 3, 1) := by decide +kernel
theorem dX10_heightAt_5 : decode cX10_heightAt 5 = .ok (.invokevirtual 125, 3) := by decide +kernel
theorem dX10_heightAt_8 : decode cX10_heightAt 8 = .ok (.invokevirtual 68, 3) := by decide +kernel
theorem dX10_heightAt_11 : decode cX10_heightAt 11 = .ok (.ireturn, 1) := by decide +kernel
theorem dX10_lookAtHeight_0 : decode cX10_lookAtHeight 0 = .ok (.aload_n 0, 1) := by decide +kernel
theorem dX10_lookAtHeight_1 : decode cX10_lookAtHeight 1 = .ok (.getfield 10, 3) := by decide +kernel
theorem dX10_lookAtHeight_4 : decode cX10_lookAtHeight 4 = .ok (.getfield 72, 3) := by decide +kernel
theorem dX10_lookAtHeight_7 : decode cX10_lookAtHeight 7 = .ok (.astore 4, 2) := by decide +kernel
theorem dX10_lookAtHeight_9 : decode cX10_lookAtHeight 9 = .ok (.aload 4, 2) := by decide +kernel
theorem dX10_lookAtHeight_11 : decode cX10_lookAtHeight 11 = .ok (.iload_n 1, 1) := by decide +kernel
theorem dX10_lookAtHeight_12 : decode cX10_lookAtHeight 12 = .ok (.invokevirtual 104, 3) := by decide +kernel
theorem dX10_lookAtHeight_15 : decode cX10_lookAtHeight 15 = .ok (.ifCond .ne 6, 3) := by decide +kernel
theorem dX10_lookAtHeight_18 : decode cX10_lookAtHeight 18 = .ok (.bipush (-2), 2) := by decide +kernel
theorem dX10_lookAtHeight_20 : decode cX10_lookAtHeight 20 = .ok (.ireturn, 1) := by decide +kernel
theorem dX10_lookAtHeight_21 : decode cX10_lookAtHeight 21 = .ok (.aload 4, 2) := by decide +kernel
theorem dX10_lookAtHeight_23 : decode cX10_lookAtHeight 23 = .ok (.iload_n 1, 1) := by decide +kernel
theorem dX10_lookAtHeight_24 : decode cX10_lookAtHeight 24 = .ok (.iload_n 2, 1) := by decide +kernel
theorem dX10_lookAtHeight_25 : decode cX10_lookAtHeight 25 = .ok (.invokevirtual 107, 3) := by decide +kernel
theorem dX10_lookAtHeight_28 : decode cX10_lookAtHeight 28 = .ok (.istore 5, 2) := by decide +kernel
theorem dX10_lookAtHeight_30 : decode cX10_lookAtHeight 30 = .ok (.iload 5, 2) := by decide +kernel
theorem dX10_lookAtHeight_32 : decode cX10_lookAtHeight 32 = .ok (.ifCond .eq 6, 3) := by decide +kernel
theorem dX10_lookAtHeight_35 : decode cX10_lookAtHeight 35 = .ok (.iload 5, 2) := by decide +kernel
theorem dX10_lookAtHeight_37 : decode cX10_lookAtHeight 37 = .ok (.ireturn, 1) := by decide +kernel
theorem dX10_lookAtHeight_38 : decode cX10_lookAtHeight 38 = .ok (.aload 4, 2) := by decide +kernel
theorem dX10_lookAtHeight_40 : decode cX10_lookAtHeight 40 = .ok (.iload_n 1, 1) := by decide +kernel
theorem dX10_lookAtHeight_41 : decode cX10_lookAtHeight 41 = .ok (.iload_n 2, 1) := by decide +kernel
theorem dX10_lookAtHeight_42 : decode cX10_lookAtHeight 42 = .ok (.invokevirtual 110, 3) := by decide +kernel
theorem dX10_lookAtHeight_45 : decode cX10_lookAtHeight 45 = .ok (.istore 6, 2) := by decide +kernel
theorem dX10_lookAtHeight_47 : decode cX10_lookAtHeight 47 = .ok (.iload 6, 2) := by decide +kernel
theorem dX10_lookAtHeight_49 : decode cX10_lookAtHeight 49 = .ok (.ifCond .ne 8, 3) := by decide +kernel
theorem dX10_lookAtHeight_52 : decode cX10_lookAtHeight 52 = .ok (.bipush (-11), 2) := by decide +kernel
theorem dX10_lookAtHeight_54 : decode cX10_lookAtHeight 54 = .ok (.goto 9, 3) := by decide +kernel
theorem dX10_lookAtHeight_57 : decode cX10_lookAtHeight 57 = .ok (.iload 6, 2) := by decide +kernel
theorem dX10_lookAtHeight_59 : decode cX10_lookAtHeight 59 = .ok (.iload_n 3, 1) := by decide +kernel
theorem dX10_lookAtHeight_60 : decode cX10_lookAtHeight 60 = .ok (.invokestatic 129, 3) := by decide +kernel
theorem dX10_lookAtHeight_63 : decode cX10_lookAtHeight 63 = .ok (.ireturn, 1) := by decide +kernel
theorem dX10_heightNumber_0 : decode cX10_heightNumber 0 = .ok (.iconst 0, 1) := by decide +kernel
theorem dX10_heightNumber_1 : decode cX10_heightNumber 1 = .ok (.istore_n 2, 1) := by decide +kernel
theorem dX10_heightNumber_2 : decode cX10_heightNumber 2 = .ok (.iconst 0, 1) := by decide +kernel
theorem dX10_heightNumber_3 : decode cX10_heightNumber 3 = .ok (.istore_n 3, 1) := by decide +kernel
theorem dX10_heightNumber_4 : decode cX10_heightNumber 4 = .ok (.iload_n 3, 1) := by decide +kernel
theorem dX10_heightNumber_5 : decode cX10_heightNumber 5 = .ok (.bipush 9, 2) := by decide +kernel
theorem dX10_heightNumber_7 : decode cX10_heightNumber 7 = .ok (.if_icmp .gt 27, 3) := by decide +kernel
theorem dX10_heightNumber_10 : decode cX10_heightNumber 10 = .ok (.iload_n 0, 1) := by decide +kernel
theorem dX10_heightNumber_11 : decode cX10_heightNumber 11 = .ok (.iconst 1, 1) := by decide +kernel
theorem dX10_heightNumber_12 : decode cX10_heightNumber 12 = .ok (.iload_n 3, 1) := by decide +kernel
theorem dX10_heightNumber_13 : decode cX10_heightNumber 13 = .ok (.ishl, 1) := by decide +kernel
theorem dX10_heightNumber_14 : decode cX10_heightNumber 14 = .ok (.iand, 1) := by decide +kernel
theorem dX10_heightNumber_15 : decode cX10_heightNumber 15 = .ok (.ifCond .eq 13, 3) := by decide +kernel
theorem dX10_heightNumber_18 : decode cX10_heightNumber 18 = .ok (.iload_n 2, 1) := by decide +kernel
theorem dX10_heightNumber_19 : decode cX10_heightNumber 19 = .ok (.iload_n 1, 1) := by decide +kernel
theorem dX10_heightNumber_20 : decode cX10_heightNumber 20 = .ok (.if_icmp .ne 5, 3) := by decide +kernel
theorem dX10_heightNumber_23 : decode cX10_heightNumber 23 = .ok (.iload_n 3, 1) := by decide +kernel
theorem dX10_heightNumber_24 : decode cX10_heightNumber 24 = .ok (.ireturn, 1) := by decide +kernel
theorem dX10_heightNumber_25 : decode cX10_heightNumber 25 = .ok (.iinc 2 1, 3) := by decide +kernel
theorem dX10_heightNumber_28 : decode cX10_heightNumber 28 = .ok (.iinc 3 1, 3) := by decide +kernel
theorem dX10_heightNumber_31 : decode cX10_heightNumber 31 = .ok (.goto (-27), 3) := by decide +kernel
theorem dX10_heightNumber_34 : decode cX10_heightNumber 34 = .ok (.bipush (-12), 2) := by decide +kernel
theorem dX10_heightNumber_36 : decode cX10_heightNumber 36 = .ok (.ireturn, 1) := by decide +kernel
theorem dX10_takeCore_0 : decode cX10_takeCore 0 = .ok (.aload_n 0, 1) := by decide +kernel
theorem dX10_takeCore_1 : decode cX10_takeCore 1 = .ok (.aload_n 0, 1) := by decide +kernel
theorem dX10_takeCore_2 : decode cX10_takeCore 2 = .ok (.iload_n 1, 1) := by decide +kernel
theorem dX10_takeCore_3 : decode cX10_takeCore 3 = .ok (.invokevirtual 132, 3) := by decide +kernel
theorem dX10_takeCore_6 : decode cX10_takeCore 6 = .ok (.invokevirtual 68, 3) := by decide +kernel
theorem dX10_takeCore_9 : decode cX10_takeCore 9 = .ok (.ireturn, 1) := by decide +kernel
theorem dX10_coreToTray_0 : decode cX10_coreToTray 0 = .ok (.aload_n 0, 1) := by decide +kernel
theorem dX10_coreToTray_1 : decode cX10_coreToTray 1 = .ok (.getfield 10, 3) := by decide +kernel
theorem dX10_coreToTray_4 : decode cX10_coreToTray 4 = .ok (.getfield 72, 3) := by decide +kernel
theorem dX10_coreToTray_7 : decode cX10_coreToTray 7 = .ok (.astore_n 2, 1) := by decide +kernel
theorem dX10_coreToTray_8 : decode cX10_coreToTray 8 = .ok (.aload_n 2, 1) := by decide +kernel
theorem dX10_coreToTray_9 : decode cX10_coreToTray 9 = .ok (.iload_n 1, 1) := by decide +kernel
theorem dX10_coreToTray_10 : decode cX10_coreToTray 10 = .ok (.invokevirtual 104, 3) := by decide +kernel
theorem dX10_coreToTray_13 : decode cX10_coreToTray 13 = .ok (.ifCond .ne 6, 3) := by decide +kernel
theorem dX10_coreToTray_16 : decode cX10_coreToTray 16 = .ok (.bipush (-2), 2) := by decide +kernel
theorem dX10_coreToTray_18 : decode cX10_coreToTray 18 = .ok (.ireturn, 1) := by decide +kernel
theorem dX10_coreToTray_19 : decode cX10_coreToTray 19 = .ok (.aload_n 2, 1) := by decide +kernel
theorem dX10_coreToTray_20 : decode cX10_coreToTray 20 = .ok (.iload_n 1, 1) := by decide +kernel
theorem dX10_coreToTray_21 : decode cX10_coreToTray 21 = .ok (.invokevirtual 135, 3) := by decide +kernel
theorem dX10_coreToTray_24 : decode cX10_coreToTray 24 = .ok (.ifCond .ne 6, 3) := by decide +kernel
theorem dX10_coreToTray_27 : decode cX10_coreToTray 27 = .ok (.bipush (-13), 2) := by decide +kernel
theorem dX10_coreToTray_29 : decode cX10_coreToTray 29 = .ok (.ireturn, 1) := by decide +kernel
theorem dX10_coreToTray_30 : decode cX10_coreToTray 30 = .ok (.aload_n 2, 1) := by decide +kernel
theorem dX10_coreToTray_31 : decode cX10_coreToTray 31 = .ok (.iload_n 1, 1) := by decide +kernel
theorem dX10_coreToTray_32 : decode cX10_coreToTray 32 = .ok (.invokevirtual 138, 3) := by decide +kernel
theorem dX10_coreToTray_35 : decode cX10_coreToTray 35 = .ok (.ifCond .eq 6, 3) := by decide +kernel
theorem dX10_coreToTray_38 : decode cX10_coreToTray 38 = .ok (.bipush (-11), 2) := by decide +kernel
theorem dX10_coreToTray_40 : decode cX10_coreToTray 40 = .ok (.ireturn, 1) := by decide +kernel
theorem dX10_coreToTray_41 : decode cX10_coreToTray 41 = .ok (.aload_n 0, 1) := by decide +kernel
theorem dX10_coreToTray_42 : decode cX10_coreToTray 42 = .ok (.invokevirtual 81, 3) := by decide +kernel
theorem dX10_coreToTray_45 : decode cX10_coreToTray 45 = .ok (.aload_n 2, 1) := by decide +kernel
theorem dX10_coreToTray_46 : decode cX10_coreToTray 46 = .ok (.iload_n 1, 1) := by decide +kernel
theorem dX10_coreToTray_47 : decode cX10_coreToTray 47 = .ok (.invokevirtual 141, 3) := by decide +kernel
theorem dX10_coreToTray_50 : decode cX10_coreToTray 50 = .ok (.ireturn, 1) := by decide +kernel
theorem dX10_putCore_0 : decode cX10_putCore 0 = .ok (.aload_n 0, 1) := by decide +kernel
theorem dX10_putCore_1 : decode cX10_putCore 1 = .ok (.aload_n 0, 1) := by decide +kernel
theorem dX10_putCore_2 : decode cX10_putCore 2 = .ok (.iload_n 1, 1) := by decide +kernel
theorem dX10_putCore_3 : decode cX10_putCore 3 = .ok (.invokevirtual 144, 3) := by decide +kernel
theorem dX10_putCore_6 : decode cX10_putCore 6 = .ok (.invokevirtual 68, 3) := by decide +kernel
theorem dX10_putCore_9 : decode cX10_putCore 9 = .ok (.ireturn, 1) := by decide +kernel
theorem dX10_trayToCore_0 : decode cX10_trayToCore 0 = .ok (.aload_n 0, 1) := by decide +kernel
theorem dX10_trayToCore_1 : decode cX10_trayToCore 1 = .ok (.getfield 10, 3) := by decide +kernel
theorem dX10_trayToCore_4 : decode cX10_trayToCore 4 = .ok (.getfield 72, 3) := by decide +kernel
theorem dX10_trayToCore_7 : decode cX10_trayToCore 7 = .ok (.astore_n 2, 1) := by decide +kernel
theorem dX10_trayToCore_8 : decode cX10_trayToCore 8 = .ok (.aload_n 2, 1) := by decide +kernel
theorem dX10_trayToCore_9 : decode cX10_trayToCore 9 = .ok (.iload_n 1, 1) := by decide +kernel
theorem dX10_trayToCore_10 : decode cX10_trayToCore 10 = .ok (.invokevirtual 104, 3) := by decide +kernel
theorem dX10_trayToCore_13 : decode cX10_trayToCore 13 = .ok (.ifCond .ne 6, 3) := by decide +kernel
theorem dX10_trayToCore_16 : decode cX10_trayToCore 16 = .ok (.bipush (-2), 2) := by decide +kernel
theorem dX10_trayToCore_18 : decode cX10_trayToCore 18 = .ok (.ireturn, 1) := by decide +kernel
theorem dX10_trayToCore_19 : decode cX10_trayToCore 19 = .ok (.aload_n 2, 1) := by decide +kernel
theorem dX10_trayToCore_20 : decode cX10_trayToCore 20 = .ok (.iload_n 1, 1) := by decide +kernel
theorem dX10_trayToCore_21 : decode cX10_trayToCore 21 = .ok (.invokevirtual 135, 3) := by decide +kernel
theorem dX10_trayToCore_24 : decode cX10_trayToCore 24 = .ok (.ifCond .ne 6, 3) := by decide +kernel
theorem dX10_trayToCore_27 : decode cX10_trayToCore 27 = .ok (.bipush (-13), 2) := by decide +kernel
theorem dX10_trayToCore_29 : decode cX10_trayToCore 29 = .ok (.ireturn, 1) := by decide +kernel
theorem dX10_trayToCore_30 : decode cX10_trayToCore 30 = .ok (.aload_n 2, 1) := by decide +kernel
theorem dX10_trayToCore_31 : decode cX10_trayToCore 31 = .ok (.iload_n 1, 1) := by decide +kernel
theorem dX10_trayToCore_32 : decode cX10_trayToCore 32 = .ok (.invokevirtual 138, 3) := by decide +kernel
theorem dX10_trayToCore_35 : decode cX10_trayToCore 35 = .ok (.ifCond .ne 6, 3) := by decide +kernel
theorem dX10_trayToCore_38 : decode cX10_trayToCore 38 = .ok (.bipush (-3), 2) := by decide +kernel
theorem dX10_trayToCore_40 : decode cX10_trayToCore 40 = .ok (.ireturn, 1) := by decide +kernel
theorem dX10_trayToCore_41 : decode cX10_trayToCore 41 = .ok (.aload_n 2, 1) := by decide +kernel
theorem dX10_trayToCore_42 : decode cX10_trayToCore 42 = .ok (.getfield 147, 3) := by decide +kernel
theorem dX10_trayToCore_45 : decode cX10_trayToCore 45 = .ok (.iconst (-1), 1) := by decide +kernel
theorem dX10_trayToCore_46 : decode cX10_trayToCore 46 = .ok (.if_icmp .ne 6, 3) := by decide +kernel
theorem dX10_trayToCore_49 : decode cX10_trayToCore 49 = .ok (.bipush (-11), 2) := by decide +kernel
theorem dX10_trayToCore_51 : decode cX10_trayToCore 51 = .ok (.ireturn, 1) := by decide +kernel
theorem dX10_trayToCore_52 : decode cX10_trayToCore 52 = .ok (.aload_n 0, 1) := by decide +kernel
theorem dX10_trayToCore_53 : decode cX10_trayToCore 53 = .ok (.invokevirtual 81, 3) := by decide +kernel
theorem dX10_trayToCore_56 : decode cX10_trayToCore 56 = .ok (.aload_n 2, 1) := by decide +kernel
theorem dX10_trayToCore_57 : decode cX10_trayToCore 57 = .ok (.iload_n 1, 1) := by decide +kernel
theorem dX10_trayToCore_58 : decode cX10_trayToCore 58 = .ok (.invokevirtual 150, 3) := by decide +kernel
theorem dX10_trayToCore_61 : decode cX10_trayToCore 61 = .ok (.ireturn, 1) := by decide +kernel
theorem dX10_kind_0 : decode cX10_kind 0 = .ok (.aload_n 0, 1) := by decide +kernel
theorem dX10_kind_1 : decode cX10_kind 1 = .ok (.getfield 10, 3) := by decide +kernel
theorem dX10_kind_4 : decode cX10_kind 4 = .ok (.getfield 72, 3) := by decide +kernel
theorem dX10_kind_7 : decode cX10_kind 7 = .ok (.iload_n 1, 1) := by decide +kernel
theorem dX10_kind_8 : decode cX10_kind 8 = .ok (.invokevirtual 104, 3) := by decide +kernel
theorem dX10_kind_11 : decode cX10_kind 11 = .ok (.ifCond .eq 18, 3) := by decide +kernel
theorem dX10_kind_14 : decode cX10_kind 14 = .ok (.aload_n 0, 1) := by decide +kernel
theorem dX10_kind_15 : decode cX10_kind 15 = .ok (.getfield 10, 3) := by decide +kernel
theorem dX10_kind_18 : decode cX10_kind 18 = .ok (.getfield 72, 3) := by decide +kernel
theorem dX10_kind_21 : decode cX10_kind 21 = .ok (.getfield 153, 3) := by decide +kernel
theorem dX10_kind_24 : decode cX10_kind 24 = .ok (.iload_n 1, 1) := by decide +kernel
theorem dX10_kind_25 : decode cX10_kind 25 = .ok (.iaload, 1) := by decide +kernel
theorem dX10_kind_26 : decode cX10_kind 26 = .ok (.goto 5, 3) := by decide +kernel
theorem dX10_kind_29 : decode cX10_kind 29 = .ok (.bipush (-2), 2) := by decide +kernel
theorem dX10_kind_31 : decode cX10_kind 31 = .ok (.ireturn, 1) := by decide +kernel
theorem dX10_chambers_0 : decode cX10_chambers 0 = .ok (.aload_n 0, 1) := by decide +kernel
theorem dX10_chambers_1 : decode cX10_chambers 1 = .ok (.getfield 10, 3) := by decide +kernel
theorem dX10_chambers_4 : decode cX10_chambers 4 = .ok (.getfield 72, 3) := by decide +kernel
theorem dX10_chambers_7 : decode cX10_chambers 7 = .ok (.iload_n 1, 1) := by decide +kernel
theorem dX10_chambers_8 : decode cX10_chambers 8 = .ok (.invokevirtual 104, 3) := by decide +kernel
theorem dX10_chambers_11 : decode cX10_chambers 11 = .ok (.ifCond .ne 6, 3) := by decide +kernel
theorem dX10_chambers_14 : decode cX10_chambers 14 = .ok (.bipush (-2), 2) := by decide +kernel
theorem dX10_chambers_16 : decode cX10_chambers 16 = .ok (.ireturn, 1) := by decide +kernel
theorem dX10_chambers_17 : decode cX10_chambers 17 = .ok (.aload_n 0, 1) := by decide +kernel
theorem dX10_chambers_18 : decode cX10_chambers 18 = .ok (.getfield 10, 3) := by decide +kernel
theorem dX10_chambers_21 : decode cX10_chambers 21 = .ok (.getfield 72, 3) := by decide +kernel
theorem dX10_chambers_24 : decode cX10_chambers 24 = .ok (.iload_n 1, 1) := by decide +kernel
theorem dX10_chambers_25 : decode cX10_chambers 25 = .ok (.invokevirtual 157, 3) := by decide +kernel
theorem dX10_chambers_28 : decode cX10_chambers 28 = .ok (.istore_n 2, 1) := by decide +kernel
theorem dX10_chambers_29 : decode cX10_chambers 29 = .ok (.aload_n 0, 1) := by decide +kernel
theorem dX10_chambers_30 : decode cX10_chambers 30 = .ok (.iload_n 2, 1) := by decide +kernel
theorem dX10_chambers_31 : decode cX10_chambers 31 = .ok (.ifCond .eq 7, 3) := by decide +kernel
theorem dX10_chambers_34 : decode cX10_chambers 34 = .ok (.iload_n 2, 1) := by decide +kernel
theorem dX10_chambers_35 : decode cX10_chambers 35 = .ok (.goto 15, 3) := by decide +kernel
theorem dX10_chambers_38 : decode cX10_chambers 38 = .ok (.aload_n 0, 1) := by decide +kernel
theorem dX10_chambers_39 : decode cX10_chambers 39 = .ok (.getfield 10, 3) := by decide +kernel
theorem dX10_chambers_42 : decode cX10_chambers 42 = .ok (.getfield 72, 3) := by decide +kernel
theorem dX10_chambers_45 : decode cX10_chambers 45 = .ok (.getfield 160, 3) := by decide +kernel
theorem dX10_chambers_48 : decode cX10_chambers 48 = .ok (.iload_n 1, 1) := by decide +kernel
theorem dX10_chambers_49 : decode cX10_chambers 49 = .ok (.iaload, 1) := by decide +kernel
theorem dX10_chambers_50 : decode cX10_chambers 50 = .ok (.invokevirtual 68, 3) := by decide +kernel
theorem dX10_chambers_53 : decode cX10_chambers 53 = .ok (.ireturn, 1) := by decide +kernel
theorem dX10_weight_0 : decode cX10_weight 0 = .ok (.aload_n 0, 1) := by decide +kernel
theorem dX10_weight_1 : decode cX10_weight 1 = .ok (.getfield 10, 3) := by decide +kernel
theorem dX10_weight_4 : decode cX10_weight 4 = .ok (.getfield 72, 3) := by decide +kernel
theorem dX10_weight_7 : decode cX10_weight 7 = .ok (.iload_n 1, 1) := by decide +kernel
theorem dX10_weight_8 : decode cX10_weight 8 = .ok (.invokevirtual 104, 3) := by decide +kernel
theorem dX10_weight_11 : decode cX10_weight 11 = .ok (.ifCond .ne 6, 3) := by decide +kernel
theorem dX10_weight_14 : decode cX10_weight 14 = .ok (.bipush (-2), 2) := by decide +kernel
theorem dX10_weight_16 : decode cX10_weight 16 = .ok (.ireturn, 1) := by decide +kernel
theorem dX10_weight_17 : decode cX10_weight 17 = .ok (.aload_n 0, 1) := by decide +kernel
theorem dX10_weight_18 : decode cX10_weight 18 = .ok (.getfield 36, 3) := by decide +kernel
theorem dX10_weight_21 : decode cX10_weight 21 = .ok (.getfield 163, 3) := by decide +kernel
theorem dX10_weight_24 : decode cX10_weight 24 = .ok (.invokevirtual 167, 3) := by decide +kernel
theorem dX10_weight_27 : decode cX10_weight 27 = .ok (.aload_n 0, 1) := by decide +kernel
theorem dX10_weight_28 : decode cX10_weight 28 = .ok (.aload_n 0, 1) := by decide +kernel
theorem dX10_weight_29 : decode cX10_weight 29 = .ok (.getfield 10, 3) := by decide +kernel
theorem dX10_weight_32 : decode cX10_weight 32 = .ok (.getfield 72, 3) := by decide +kernel
theorem dX10_weight_35 : decode cX10_weight 35 = .ok (.iload_n 1, 1) := by decide +kernel
theorem dX10_weight_36 : decode cX10_weight 36 = .ok (.aload_n 0, 1) := by decide +kernel
theorem dX10_weight_37 : decode cX10_weight 37 = .ok (.getfield 36, 3) := by decide +kernel
theorem dX10_weight_40 : decode cX10_weight 40 = .ok (.getfield 163, 3) := by decide +kernel
theorem dX10_weight_43 : decode cX10_weight 43 = .ok (.invokestatic 172, 3) := by decide +kernel
theorem dX10_weight_46 : decode cX10_weight 46 = .ok (.invokevirtual 68, 3) := by decide +kernel
theorem dX10_weight_49 : decode cX10_weight 49 = .ok (.ireturn, 1) := by decide +kernel
theorem dX10_blanks_0 : decode cX10_blanks 0 = .ok (.iload_n 1, 1) := by decide +kernel
theorem dX10_blanks_1 : decode cX10_blanks 1 = .ok (.ifCond .lt 9, 3) := by decide +kernel
theorem dX10_blanks_4 : decode cX10_blanks 4 = .ok (.iload_n 1, 1) := by decide +kernel
theorem dX10_blanks_5 : decode cX10_blanks 5 = .ok (.bipush 100, 2) := by decide +kernel
theorem dX10_blanks_7 : decode cX10_blanks 7 = .ok (.if_icmp .le 6, 3) := by decide +kernel
theorem dX10_blanks_10 : decode cX10_blanks 10 = .ok (.bipush (-2), 2) := by decide +kernel
theorem dX10_blanks_12 : decode cX10_blanks 12 = .ok (.ireturn, 1) := by decide +kernel
theorem dX10_blanks_13 : decode cX10_blanks 13 = .ok (.aload_n 0, 1) := by decide +kernel
theorem dX10_blanks_14 : decode cX10_blanks 14 = .ok (.getfield 10, 3) := by decide +kernel
theorem dX10_blanks_17 : decode cX10_blanks 17 = .ok (.getfield 178, 3) := by decide +kernel
theorem dX10_blanks_20 : decode cX10_blanks 20 = .ok (.iload_n 1, 1) := by decide +kernel
theorem dX10_blanks_21 : decode cX10_blanks 21 = .ok (.iadd, 1) := by decide +kernel
theorem dX10_blanks_22 : decode cX10_blanks 22 = .ok (.sipush 1000, 3) := by decide +kernel
theorem dX10_blanks_25 : decode cX10_blanks 25 = .ok (.if_icmp .le 6, 3) := by decide +kernel
theorem dX10_blanks_28 : decode cX10_blanks 28 = .ok (.bipush (-4), 2) := by decide +kernel
theorem dX10_blanks_30 : decode cX10_blanks 30 = .ok (.ireturn, 1) := by decide +kernel
theorem dX10_blanks_31 : decode cX10_blanks 31 = .ok (.aload_n 0, 1) := by decide +kernel
theorem dX10_blanks_32 : decode cX10_blanks 32 = .ok (.invokevirtual 81, 3) := by decide +kernel
theorem dX10_blanks_35 : decode cX10_blanks 35 = .ok (.aload_n 0, 1) := by decide +kernel
theorem dX10_blanks_36 : decode cX10_blanks 36 = .ok (.getfield 10, 3) := by decide +kernel
theorem dX10_blanks_39 : decode cX10_blanks 39 = .ok (.dup, 1) := by decide +kernel
theorem dX10_blanks_40 : decode cX10_blanks 40 = .ok (.getfield 178, 3) := by decide +kernel
theorem dX10_blanks_43 : decode cX10_blanks 43 = .ok (.iload_n 1, 1) := by decide +kernel
theorem dX10_blanks_44 : decode cX10_blanks 44 = .ok (.iadd, 1) := by decide +kernel
theorem dX10_blanks_45 : decode cX10_blanks 45 = .ok (.putfield 178, 3) := by decide +kernel
theorem dX10_blanks_48 : decode cX10_blanks 48 = .ok (.aload_n 0, 1) := by decide +kernel
theorem dX10_blanks_49 : decode cX10_blanks 49 = .ok (.getfield 10, 3) := by decide +kernel
theorem dX10_blanks_52 : decode cX10_blanks 52 = .ok (.getfield 178, 3) := by decide +kernel
theorem dX10_blanks_55 : decode cX10_blanks 55 = .ok (.ireturn, 1) := by decide +kernel
theorem dX10_key_0 : decode cX10_key 0 = .ok (.aload_n 0, 1) := by decide +kernel
theorem dX10_key_1 : decode cX10_key 1 = .ok (.aload_n 0, 1) := by decide +kernel
theorem dX10_key_2 : decode cX10_key 2 = .ok (.iload_n 1, 1) := by decide +kernel
theorem dX10_key_3 : decode cX10_key 3 = .ok (.lload_n 2, 1) := by decide +kernel
theorem dX10_key_4 : decode cX10_key 4 = .ok (.invokevirtual 181, 3) := by decide +kernel
theorem dX10_key_7 : decode cX10_key 7 = .ok (.invokevirtual 68, 3) := by decide +kernel
theorem dX10_key_10 : decode cX10_key 10 = .ok (.ireturn, 1) := by decide +kernel
theorem dX10_cutKey_0 : decode cX10_cutKey 0 = .ok (.iload_n 1, 1) := by decide +kernel
theorem dX10_cutKey_1 : decode cX10_cutKey 1 = .ok (.bipush 18, 2) := by decide +kernel
theorem dX10_cutKey_3 : decode cX10_cutKey 3 = .ok (.if_icmp .gt 17, 3) := by decide +kernel
theorem dX10_cutKey_6 : decode cX10_cutKey 6 = .ok (.lload_n 2, 1) := by decide +kernel
theorem dX10_cutKey_7 : decode cX10_cutKey 7 = .ok (.lconst 0, 1) := by decide +kernel
theorem dX10_cutKey_8 : decode cX10_cutKey 8 = .ok (.lcmp, 1) := by decide +kernel
theorem dX10_cutKey_9 : decode cX10_cutKey 9 = .ok (.ifCond .lt 11, 3) := by decide +kernel
theorem dX10_cutKey_12 : decode cX10_cutKey 12 = .ok (.lload_n 2, 1) := by decide +kernel
theorem dX10_cutKey_13 : decode cX10_cutKey 13 = .ok (.ldc2_w 185, 3) := by decide +kernel
theorem dX10_cutKey_16 : decode cX10_cutKey 16 = .ok (.lcmp, 1) := by decide +kernel
theorem dX10_cutKey_17 : decode cX10_cutKey 17 = .ok (.ifCond .le 6, 3) := by decide +kernel
theorem dX10_cutKey_20 : decode cX10_cutKey 20 = .ok (.bipush (-2), 2) := by decide +kernel
theorem dX10_cutKey_22 : decode cX10_cutKey 22 = .ok (.ireturn, 1) := by decide +kernel
theorem dX10_cutKey_23 : decode cX10_cutKey 23 = .ok (.aload_n 0, 1) := by decide +kernel
theorem dX10_cutKey_24 : decode cX10_cutKey 24 = .ok (.invokevirtual 187, 3) := by decide +kernel
theorem dX10_cutKey_27 : decode cX10_cutKey 27 = .ok (.istore 4, 2) := by decide +kernel
theorem dX10_cutKey_29 : decode cX10_cutKey 29 = .ok (.iload 4, 2) := by decide +kernel
theorem dX10_cutKey_31 : decode cX10_cutKey 31 = .ok (.ifCond .eq 6, 3) := by decide +kernel
theorem dX10_cutKey_34 : decode cX10_cutKey 34 = .ok (.iload 4, 2) := by decide +kernel
theorem dX10_cutKey_36 : decode cX10_cutKey 36 = .ok (.ireturn, 1) := by decide +kernel
theorem dX10_cutKey_37 : decode cX10_cutKey 37 = .ok (.aload_n 0, 1) := by decide +kernel
theorem dX10_cutKey_38 : decode cX10_cutKey 38 = .ok (.dup, 1) := by decide +kernel
theorem dX10_cutKey_39 : decode cX10_cutKey 39 = .ok (.getfield 23, 3) := by decide +kernel
theorem dX10_cutKey_42 : decode cX10_cutKey 42 = .ok (.iconst 1, 1) := by decide +kernel
theorem dX10_cutKey_43 : decode cX10_cutKey 43 = .ok (.iadd, 1) := by decide +kernel
theorem dX10_cutKey_44 : decode cX10_cutKey 44 = .ok (.putfield 23, 3) := by decide +kernel
theorem dX10_cutKey_47 : decode cX10_cutKey 47 = .ok (.iload_n 1, 1) := by decide +kernel
theorem dX10_cutKey_48 : decode cX10_cutKey 48 = .ok (.ifCond .ge 6, 3) := by decide +kernel
theorem dX10_cutKey_51 : decode cX10_cutKey 51 = .ok (.bipush (-15), 2) := by decide +kernel
theorem dX10_cutKey_53 : decode cX10_cutKey 53 = .ok (.ireturn, 1) := by decide +kernel
theorem dX10_cutKey_54 : decode cX10_cutKey 54 = .ok (.aload_n 0, 1) := by decide +kernel
theorem dX10_cutKey_55 : decode cX10_cutKey 55 = .ok (.invokevirtual 81, 3) := by decide +kernel
theorem dX10_cutKey_58 : decode cX10_cutKey 58 = .ok (.aload_n 0, 1) := by decide +kernel
theorem dX10_cutKey_59 : decode cX10_cutKey 59 = .ok (.getfield 10, 3) := by decide +kernel
theorem dX10_cutKey_62 : decode cX10_cutKey 62 = .ok (.dup, 1) := by decide +kernel
theorem dX10_cutKey_63 : decode cX10_cutKey 63 = .ok (.getfield 178, 3) := by decide +kernel
theorem dX10_cutKey_66 : decode cX10_cutKey 66 = .ok (.iconst 1, 1) := by decide +kernel
theorem dX10_cutKey_67 : decode cX10_cutKey 67 = .ok (.isub, 1) := by decide +kernel
theorem dX10_cutKey_68 : decode cX10_cutKey 68 = .ok (.putfield 178, 3) := by decide +kernel
theorem dX10_cutKey_71 : decode cX10_cutKey 71 = .ok (.aload_n 0, 1) := by decide +kernel
theorem dX10_cutKey_72 : decode cX10_cutKey 72 = .ok (.getfield 10, 3) := by decide +kernel
theorem dX10_cutKey_75 : decode cX10_cutKey 75 = .ok (.getfield 191, 3) := by decide +kernel
theorem dX10_cutKey_78 : decode cX10_cutKey 78 = .ok (.iload_n 1, 1) := by decide +kernel
theorem dX10_cutKey_79 : decode cX10_cutKey 79 = .ok (.lload_n 2, 1) := by decide +kernel
theorem dX10_cutKey_80 : decode cX10_cutKey 80 = .ok (.invokevirtual 195, 3) := by decide +kernel
theorem dX10_cutKey_83 : decode cX10_cutKey 83 = .ok (.ireturn, 1) := by decide +kernel
theorem dX10_turned_0 : decode cX10_turned 0 = .ok (.aload_n 0, 1) := by decide +kernel
theorem dX10_turned_1 : decode cX10_turned 1 = .ok (.aload_n 0, 1) := by decide +kernel
theorem dX10_turned_2 : decode cX10_turned 2 = .ok (.iload_n 1, 1) := by decide +kernel
theorem dX10_turned_3 : decode cX10_turned 3 = .ok (.iload_n 2, 1) := by decide +kernel
theorem dX10_turned_4 : decode cX10_turned 4 = .ok (.invokevirtual 199, 3) := by decide +kernel
theorem dX10_turned_7 : decode cX10_turned 7 = .ok (.invokevirtual 68, 3) := by decide +kernel
theorem dX10_turned_10 : decode cX10_turned 10 = .ok (.ireturn, 1) := by decide +kernel
theorem dX10_cutTurned_0 : decode cX10_cutTurned 0 = .ok (.aload_n 0, 1) := by decide +kernel
theorem dX10_cutTurned_1 : decode cX10_cutTurned 1 = .ok (.getfield 10, 3) := by decide +kernel
theorem dX10_cutTurned_4 : decode cX10_cutTurned 4 = .ok (.getfield 191, 3) := by decide +kernel
theorem dX10_cutTurned_7 : decode cX10_cutTurned 7 = .ok (.iload_n 1, 1) := by decide +kernel
theorem dX10_cutTurned_8 : decode cX10_cutTurned 8 = .ok (.invokevirtual 202, 3) := by decide +kernel
theorem dX10_cutTurned_11 : decode cX10_cutTurned 11 = .ok (.ifCond .eq 9, 3) := by decide +kernel
theorem dX10_cutTurned_14 : decode cX10_cutTurned 14 = .ok (.iload_n 2, 1) := by decide +kernel
theorem dX10_cutTurned_15 : decode cX10_cutTurned 15 = .ok (.bipush 18, 2) := by decide +kernel
theorem dX10_cutTurned_17 : decode cX10_cutTurned 17 = .ok (.if_icmp .le 6, 3) := by decide +kernel
theorem dX10_cutTurned_20 : decode cX10_cutTurned 20 = .ok (.bipush (-2), 2) := by decide +kernel
theorem dX10_cutTurned_22 : decode cX10_cutTurned 22 = .ok (.ireturn, 1) := by decide +kernel
theorem dX10_cutTurned_23 : decode cX10_cutTurned 23 = .ok (.aload_n 0, 1) := by decide +kernel
theorem dX10_cutTurned_24 : decode cX10_cutTurned 24 = .ok (.invokevirtual 187, 3) := by decide +kernel
theorem dX10_cutTurned_27 : decode cX10_cutTurned 27 = .ok (.istore_n 3, 1) := by decide +kernel
theorem dX10_cutTurned_28 : decode cX10_cutTurned 28 = .ok (.iload_n 3, 1) := by decide +kernel
theorem dX10_cutTurned_29 : decode cX10_cutTurned 29 = .ok (.ifCond .eq 5, 3) := by decide +kernel
theorem dX10_cutTurned_32 : decode cX10_cutTurned 32 = .ok (.iload_n 3, 1) := by decide +kernel
theorem dX10_cutTurned_33 : decode cX10_cutTurned 33 = .ok (.ireturn, 1) := by decide +kernel
theorem dX10_cutTurned_34 : decode cX10_cutTurned 34 = .ok (.aload_n 0, 1) := by decide +kernel
theorem dX10_cutTurned_35 : decode cX10_cutTurned 35 = .ok (.dup, 1) := by decide +kernel
theorem dX10_cutTurned_36 : decode cX10_cutTurned 36 = .ok (.getfield 23, 3) := by decide +kernel
theorem dX10_cutTurned_39 : decode cX10_cutTurned 39 = .ok (.iconst 1, 1) := by decide +kernel
theorem dX10_cutTurned_40 : decode cX10_cutTurned 40 = .ok (.iadd, 1) := by decide +kernel
theorem dX10_cutTurned_41 : decode cX10_cutTurned 41 = .ok (.putfield 23, 3) := by decide +kernel
theorem dX10_cutTurned_44 : decode cX10_cutTurned 44 = .ok (.iload_n 2, 1) := by decide +kernel
theorem dX10_cutTurned_45 : decode cX10_cutTurned 45 = .ok (.ifCond .ge 6, 3) := by decide +kernel
theorem dX10_cutTurned_48 : decode cX10_cutTurned 48 = .ok (.bipush (-15), 2) := by decide +kernel
theorem dX10_cutTurned_50 : decode cX10_cutTurned 50 = .ok (.ireturn, 1) := by decide +kernel
theorem dX10_cutTurned_51 : decode cX10_cutTurned 51 = .ok (.iload_n 2, 1) := by decide +kernel
theorem dX10_cutTurned_52 : decode cX10_cutTurned 52 = .ok (.aload_n 0, 1) := by decide +kernel
theorem dX10_cutTurned_53 : decode cX10_cutTurned 53 = .ok (.getfield 10, 3) := by decide +kernel
theorem dX10_cutTurned_56 : decode cX10_cutTurned 56 = .ok (.getfield 191, 3) := by decide +kernel
theorem dX10_cutTurned_59 : decode cX10_cutTurned 59 = .ok (.getfield 203, 3) := by decide +kernel
theorem dX10_cutTurned_62 : decode cX10_cutTurned 62 = .ok (.iload_n 1, 1) := by decide +kernel
theorem dX10_cutTurned_63 : decode cX10_cutTurned 63 = .ok (.iaload, 1) := by decide +kernel
theorem dX10_cutTurned_64 : decode cX10_cutTurned 64 = .ok (.if_icmp .le 6, 3) := by decide +kernel
theorem dX10_cutTurned_67 : decode cX10_cutTurned 67 = .ok (.bipush (-12), 2) := by decide +kernel
